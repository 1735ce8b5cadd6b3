/-! the methods of the class as plain functions (0 to 20) -/
def ob_X0_init (n : Nat) (call : oCl) (κ : oKv) (x0 : Option Nat) (x1 : Option Nat) (x2 : Option Nat) (x3 : Option Nat) (σ : oSt) : oRs :=
  obn (x0) fun a1 =>
  olet (onew σ (.inr (1, odef 1)) (oq 1).2.2) fun s3 =>
  obn ((some σ.2.1)) fun a5 =>
  ocv (call 224 [va_rf (some σ.2.1)] s3) fun s7 =>
  obn (opf s7 x0 2 3 (va_rf (some σ.2.1))) fun s10 =>
  olet (onew s10 (.inr (1, odef 1)) (oq 1).2.2) fun s12 =>
  obn ((some s10.2.1)) fun a14 =>
  ocv (call 224 [va_rf (some s10.2.1)] s12) fun s16 =>
  obn (opf s16 x0 2 4 (va_rf (some s10.2.1))) fun s19 =>
  olet (onew s19 (.inr (1, odef 1)) (oq 1).2.2) fun s21 =>
  obn ((some s19.2.1)) fun a23 =>
  ocv (call 224 [va_rf (some s19.2.1)] s21) fun s25 =>
  obn (opf s25 x0 2 5 (va_rf (some s19.2.1))) fun s28 =>
  olet (onew s28 (.inr (1, odef 1)) (oq 1).2.2) fun s30 =>
  obn ((some s28.2.1)) fun a32 =>
  ocv (call 224 [va_rf (some s28.2.1)] s30) fun s34 =>
  obn (opf s34 x0 2 6 (va_rf (some s28.2.1))) fun s37 =>
  ogd (onn 73) (
  olet (onew s37 (.inl (.object (oq 6).1, (73 : Int32).toNatClampNeg, .inr (.inr (.inr (.inr (fun _ => none)))))) (73 : Int32).toNatClampNeg) fun s39 =>
  obn (opf s39 x0 2 7 (va_rf (some s37.2.1))) fun s42 =>
  obn (opf s42 x0 2 9 (.int (-1))) fun s44 =>
  obn (opf s44 x0 2 0 (va_rf x1)) fun s46 =>
  obn (opf s46 x0 2 1 (va_rf x2)) fun s48 =>
  obn (opf s48 x0 2 2 (va_rf x3)) fun s50 =>
  some (none, s50))
set_option maxHeartbeats 4000000 in
theorem qb_X0_init {κ : oKv} {n : Nat} {call : oCl} {kc : Nat → List Value → oSt → Option Value × oSt → Prop} {v : Option Value × oSt} {X : Nat → zLv → List Value → oSt → Prop} (hX : oSem RX0 cX0_init 4 2 none κ kc v X) (hc : ∀ j av s w, call j av s = some w → kc j av s w) {x0 : Option Nat} {x1 : Option Nat} {x2 : Option Nat} {x3 : Option Nat} {σ : oSt} (h : ob_X0_init n call κ x0 x1 x2 x3 σ = some v) : X 0 [some (va_rf x0), some (va_rf x1), some (va_rf x2), some (va_rf x3)] [] σ := by
  rw [ob_X0_init] at h
  refine os_aload_n (r := x0) hX dX0_init_0 rfl rfl ?_
  obtain ⟨a1, e2, h⟩ := obn_e h
  refine ow_oI (r := x0) hX dX0_init_1 oI_RX0_3 (Nat.le_of_ble_eq_true rfl) e2 ?_
  refine os_aload_n (r := x0) hX dX0_init_4 rfl rfl ?_
  obtain ⟨s3, e4, h⟩ := olet_e h
  refine os_new hX dX0_init_5 oN_RX0_9 ?_
  rw [← e4]
  refine os_dup hX dX0_init_8 (ocat (some σ.2.1)) ?_
  obtain ⟨a5, e6, h⟩ := obn_e h
  obtain ⟨s7, e8, h⟩ := ocv_e h
  refine oc_RX0_11 (rb := (some σ.2.1))  hX dX0_init_9 (by simp only [List.map_cons, List.map_nil, List.sum_cons, List.sum_nil, ocat]; exact Nat.le_of_ble_eq_true rfl) e6 (hc _ _ _ _ e8) ?_
  obtain ⟨s10, e11, h⟩ := obn_e h
  refine ow_putF (r := x0) (x := va_rf (some σ.2.1)) hX dX0_init_12 oF_RX0_12 (by decide) rfl rfl (orf_n (Or.inl ⟨_, oT_2_3⟩) (some σ.2.1)) e11 ?_
  refine os_aload_n (r := x0) hX dX0_init_15 rfl rfl ?_
  obtain ⟨s12, e13, h⟩ := olet_e h
  refine os_new hX dX0_init_16 oN_RX0_9 ?_
  rw [← e13]
  refine os_dup hX dX0_init_19 (ocat (some s10.2.1)) ?_
  obtain ⟨a14, e15, h⟩ := obn_e h
  obtain ⟨s16, e17, h⟩ := ocv_e h
  refine oc_RX0_11 (rb := (some s10.2.1))  hX dX0_init_20 (by simp only [List.map_cons, List.map_nil, List.sum_cons, List.sum_nil, ocat]; exact Nat.le_of_ble_eq_true rfl) e15 (hc _ _ _ _ e17) ?_
  obtain ⟨s19, e20, h⟩ := obn_e h
  refine ow_putF (r := x0) (x := va_rf (some s10.2.1)) hX dX0_init_23 oF_RX0_18 (by decide) rfl rfl (orf_n (Or.inl ⟨_, oT_2_4⟩) (some s10.2.1)) e20 ?_
  refine os_aload_n (r := x0) hX dX0_init_26 rfl rfl ?_
  obtain ⟨s21, e22, h⟩ := olet_e h
  refine os_new hX dX0_init_27 oN_RX0_9 ?_
  rw [← e22]
  refine os_dup hX dX0_init_30 (ocat (some s19.2.1)) ?_
  obtain ⟨a23, e24, h⟩ := obn_e h
  obtain ⟨s25, e26, h⟩ := ocv_e h
  refine oc_RX0_11 (rb := (some s19.2.1))  hX dX0_init_31 (by simp only [List.map_cons, List.map_nil, List.sum_cons, List.sum_nil, ocat]; exact Nat.le_of_ble_eq_true rfl) e24 (hc _ _ _ _ e26) ?_
  obtain ⟨s28, e29, h⟩ := obn_e h
  refine ow_putF (r := x0) (x := va_rf (some s19.2.1)) hX dX0_init_34 oF_RX0_21 (by decide) rfl rfl (orf_n (Or.inl ⟨_, oT_2_5⟩) (some s19.2.1)) e29 ?_
  refine os_aload_n (r := x0) hX dX0_init_37 rfl rfl ?_
  obtain ⟨s30, e31, h⟩ := olet_e h
  refine os_new hX dX0_init_38 oN_RX0_9 ?_
  rw [← e31]
  refine os_dup hX dX0_init_41 (ocat (some s28.2.1)) ?_
  obtain ⟨a32, e33, h⟩ := obn_e h
  obtain ⟨s34, e35, h⟩ := ocv_e h
  refine oc_RX0_11 (rb := (some s28.2.1))  hX dX0_init_42 (by simp only [List.map_cons, List.map_nil, List.sum_cons, List.sum_nil, ocat]; exact Nat.le_of_ble_eq_true rfl) e33 (hc _ _ _ _ e35) ?_
  obtain ⟨s37, e38, h⟩ := obn_e h
  refine ow_putF (r := x0) (x := va_rf (some s28.2.1)) hX dX0_init_45 oF_RX0_24 (by decide) rfl rfl (orf_n (Or.inl ⟨_, oT_2_6⟩) (some s28.2.1)) e38 ?_
  refine os_aload_n (r := x0) hX dX0_init_48 rfl rfl ?_
  refine os_bipush (v := 73) hX dX0_init_49 (by decide) ?_
  obtain ⟨b41, h⟩ := ogd_e h
  obtain ⟨s39, e40, h⟩ := olet_e h
  refine os_newq hX dX0_init_51 oA_RX0_27 (onn_e b41).1 (onn_e b41).2 ?_
  rw [← e40]
  obtain ⟨s42, e43, h⟩ := obn_e h
  refine ow_putF (r := x0) (x := va_rf (some s37.2.1)) hX dX0_init_54 oF_RX0_29 (by decide) rfl rfl (orf_n (Or.inr ⟨_, oT_2_7⟩) (some s37.2.1)) e43 ?_
  refine os_aload_n (r := x0) hX dX0_init_57 rfl rfl ?_
  refine os_iconst (v := (-1)) hX dX0_init_58 (by decide) ?_
  obtain ⟨s44, e45, h⟩ := obn_e h
  refine ow_put (r := x0) (x := .int (-1)) hX dX0_init_59 oF_RX0_33 (by decide) (opn_I oT_2_9) e45 ?_
  refine os_aload_n (r := x0) hX dX0_init_62 rfl rfl ?_
  refine os_aload_n (r := x1) hX dX0_init_63 rfl rfl ?_
  obtain ⟨s46, e47, h⟩ := obn_e h
  refine ow_putF (r := x0) (x := va_rf x1) hX dX0_init_64 oF_RX0_37 (by decide) rfl rfl (orf_n (Or.inl ⟨_, oT_2_0⟩) x1) e47 ?_
  refine os_aload_n (r := x0) hX dX0_init_67 rfl rfl ?_
  refine os_aload_n (r := x2) hX dX0_init_68 rfl rfl ?_
  obtain ⟨s48, e49, h⟩ := obn_e h
  refine ow_putF (r := x0) (x := va_rf x2) hX dX0_init_69 oF_RX0_41 (by decide) rfl rfl (orf_n (Or.inl ⟨_, oT_2_1⟩) x2) e49 ?_
  refine os_aload_n (r := x0) hX dX0_init_72 rfl rfl ?_
  refine os_aload_n (r := x3) hX dX0_init_73 rfl rfl ?_
  obtain ⟨s50, e51, h⟩ := obn_e h
  refine ow_putF (r := x0) (x := va_rf x3) hX dX0_init_74 oF_RX0_45 (by decide) rfl rfl (orf_n (Or.inl ⟨_, oT_2_2⟩) x3) e51 ?_
  exact os_vret hX dX0_init_77 rfl (Option.some.inj h)
def ob_X2_init (n : Nat) (call : oCl) (κ : oKv) (x0 : Option Nat) (x1 : Int32) (σ : oSt) : oRs :=
  obn (x0) fun a1 =>
  obn (opf σ x0 4 0 (.int x1)) fun s3 =>
  obn (opf s3 x0 4 1 (va_rf x0)) fun s5 =>
  obn (opf s5 x0 4 9 (va_rf none)) fun s7 =>
  obn (opf s7 x0 4 10 (va_rf none)) fun s9 =>
  some (none, s9)
set_option maxHeartbeats 4000000 in
theorem qb_X2_init {κ : oKv} {n : Nat} {call : oCl} {kc : Nat → List Value → oSt → Option Value × oSt → Prop} {v : Option Value × oSt} {X : Nat → zLv → List Value → oSt → Prop} (hX : oSem RX2 cX2_init 2 2 none κ kc v X) (hc : ∀ j av s w, call j av s = some w → kc j av s w) {x0 : Option Nat} {x1 : Int32} {σ : oSt} (h : ob_X2_init n call κ x0 x1 σ = some v) : X 0 [some (va_rf x0), some (.int x1)] [] σ := by
  rw [ob_X2_init] at h
  refine os_aload_n (r := x0) hX dX2_init_0 rfl rfl ?_
  obtain ⟨a1, e2, h⟩ := obn_e h
  refine ow_oI (r := x0) hX dX2_init_1 oI_RX2_1 (Nat.le_of_ble_eq_true rfl) e2 ?_
  refine os_aload_n (r := x0) hX dX2_init_4 rfl rfl ?_
  refine os_iload_n hX dX2_init_5 rfl rfl ?_
  obtain ⟨s3, e4, h⟩ := obn_e h
  refine ow_putF (r := x0) (x := .int x1) hX dX2_init_6 oF_RX2_7 (by decide) rfl rfl (opn_I oT_4_0) e4 ?_
  refine os_aload_n (r := x0) hX dX2_init_9 rfl rfl ?_
  refine os_aload_n (r := x0) hX dX2_init_10 rfl rfl ?_
  obtain ⟨s5, e6, h⟩ := obn_e h
  refine ow_putF (r := x0) (x := va_rf x0) hX dX2_init_11 oF_RX2_13 (by decide) rfl rfl (orf_n (Or.inl ⟨_, oT_4_1⟩) x0) e6 ?_
  refine os_aload_n (r := x0) hX dX2_init_14 rfl rfl ?_
  refine os_null hX dX2_init_15 ?_
  obtain ⟨s7, e8, h⟩ := obn_e h
  refine ow_putF (r := x0) (x := va_rf none) hX dX2_init_16 oF_RX2_17 (by decide) rfl rfl (orf_n (Or.inr ⟨_, oT_4_9⟩) none) e8 ?_
  refine os_aload_n (r := x0) hX dX2_init_19 rfl rfl ?_
  refine os_null hX dX2_init_20 ?_
  obtain ⟨s9, e10, h⟩ := obn_e h
  refine ow_putF (r := x0) (x := va_rf none) hX dX2_init_21 oF_RX2_21 (by decide) rfl rfl (orf_n (Or.inr ⟨_, oT_4_10⟩) none) e10 ?_
  exact os_vret hX dX2_init_24 rfl (Option.some.inj h)
def ob_X8_init (n : Nat) (call : oCl) (κ : oKv) (x0 : Option Nat) (x1 : Option Nat) (x2 : Option Nat) (σ : oSt) : oRs :=
  obn (x0) fun a1 =>
  obn (opf σ x0 10 0 (va_rf x1)) fun s3 =>
  obn (opf s3 x0 10 1 (va_rf none)) fun s5 =>
  obn (opf s5 x0 10 2 (.int 0)) fun s7 =>
  obn (opf s7 x0 10 3 (va_rf x2)) fun s9 =>
  some (none, s9)
set_option maxHeartbeats 4000000 in
theorem qb_X8_init {κ : oKv} {n : Nat} {call : oCl} {kc : Nat → List Value → oSt → Option Value × oSt → Prop} {v : Option Value × oSt} {X : Nat → zLv → List Value → oSt → Prop} (hX : oSem RX8 cX8_init 3 2 none κ kc v X) (hc : ∀ j av s w, call j av s = some w → kc j av s w) {x0 : Option Nat} {x1 : Option Nat} {x2 : Option Nat} {σ : oSt} (h : ob_X8_init n call κ x0 x1 x2 σ = some v) : X 0 [some (va_rf x0), some (va_rf x1), some (va_rf x2)] [] σ := by
  rw [ob_X8_init] at h
  refine os_aload_n (r := x0) hX dX8_init_0 rfl rfl ?_
  obtain ⟨a1, e2, h⟩ := obn_e h
  refine ow_oI (r := x0) hX dX8_init_1 oI_RX8_1 (Nat.le_of_ble_eq_true rfl) e2 ?_
  refine os_aload_n (r := x0) hX dX8_init_4 rfl rfl ?_
  refine os_aload_n (r := x1) hX dX8_init_5 rfl rfl ?_
  obtain ⟨s3, e4, h⟩ := obn_e h
  refine ow_putF (r := x0) (x := va_rf x1) hX dX8_init_6 oF_RX8_7 (by decide) rfl rfl (orf_n (Or.inl ⟨_, oT_10_0⟩) x1) e4 ?_
  refine os_aload_n (r := x0) hX dX8_init_9 rfl rfl ?_
  refine os_null hX dX8_init_10 ?_
  obtain ⟨s5, e6, h⟩ := obn_e h
  refine ow_putF (r := x0) (x := va_rf none) hX dX8_init_11 oF_RX8_13 (by decide) rfl rfl (orf_n (Or.inl ⟨_, oT_10_1⟩) none) e6 ?_
  refine os_aload_n (r := x0) hX dX8_init_14 rfl rfl ?_
  refine os_iconst (v := 0) hX dX8_init_15 (by decide) ?_
  obtain ⟨s7, e8, h⟩ := obn_e h
  refine ow_putF (r := x0) (x := .int 0) hX dX8_init_16 oF_RX8_17 (by decide) rfl rfl (opn_Z oT_10_2 (by decide)) e8 ?_
  refine os_aload_n (r := x0) hX dX8_init_19 rfl rfl ?_
  refine os_aload_n (r := x2) hX dX8_init_20 rfl rfl ?_
  obtain ⟨s9, e10, h⟩ := obn_e h
  refine ow_putF (r := x0) (x := va_rf x2) hX dX8_init_21 oF_RX8_21 (by decide) rfl rfl (orf_n (Or.inl ⟨_, oT_10_3⟩) x2) e10 ?_
  exact os_vret hX dX8_init_24 rfl (Option.some.inj h)
def ob_X2_init_ (n : Nat) (call : oCl) (κ : oKv) (x0 : Option Nat) (x1 : Option Nat) (x2 : Option Nat) (x3 : Option Nat) (σ : oSt) : oRs :=
  obn (x0) fun a1 =>
  obn (ovi (ofd σ x1 4 0)) fun v3 =>
  obn (opf σ x0 4 0 (.int v3)) fun s5 =>
  obn (opf s5 x0 4 1 (va_rf x1)) fun s7 =>
  obn (opf s7 x0 4 9 (va_rf x2)) fun s9 =>
  obn (opf s9 x0 4 10 (va_rf x3)) fun s11 =>
  some (none, s11)
set_option maxHeartbeats 4000000 in
theorem qb_X2_init_ {κ : oKv} {n : Nat} {call : oCl} {kc : Nat → List Value → oSt → Option Value × oSt → Prop} {v : Option Value × oSt} {X : Nat → zLv → List Value → oSt → Prop} (hX : oSem RX2 cX2_init_ 4 2 none κ kc v X) (hc : ∀ j av s w, call j av s = some w → kc j av s w) {x0 : Option Nat} {x1 : Option Nat} {x2 : Option Nat} {x3 : Option Nat} {σ : oSt} (h : ob_X2_init_ n call κ x0 x1 x2 x3 σ = some v) : X 0 [some (va_rf x0), some (va_rf x1), some (va_rf x2), some (va_rf x3)] [] σ := by
  rw [ob_X2_init_] at h
  refine os_aload_n (r := x0) hX dX2_init__0 rfl rfl ?_
  obtain ⟨a1, e2, h⟩ := obn_e h
  refine ow_oI (r := x0) hX dX2_init__1 oI_RX2_1 (Nat.le_of_ble_eq_true rfl) e2 ?_
  refine os_aload_n (r := x0) hX dX2_init__4 rfl rfl ?_
  refine os_aload_n (r := x1) hX dX2_init__5 rfl rfl ?_
  obtain ⟨v3, e4, h⟩ := obn_e h
  refine ow_get (r := x1) hX dX2_init__6 oF_RX2_7 (ovi_e e4) ?_
  obtain ⟨s5, e6, h⟩ := obn_e h
  refine ow_putF (r := x0) (x := .int v3) hX dX2_init__9 oF_RX2_7 (by decide) rfl rfl (opn_I oT_4_0) e6 ?_
  refine os_aload_n (r := x0) hX dX2_init__12 rfl rfl ?_
  refine os_aload_n (r := x1) hX dX2_init__13 rfl rfl ?_
  obtain ⟨s7, e8, h⟩ := obn_e h
  refine ow_putF (r := x0) (x := va_rf x1) hX dX2_init__14 oF_RX2_13 (by decide) rfl rfl (orf_n (Or.inl ⟨_, oT_4_1⟩) x1) e8 ?_
  refine os_aload_n (r := x0) hX dX2_init__17 rfl rfl ?_
  refine os_aload_n (r := x2) hX dX2_init__18 rfl rfl ?_
  obtain ⟨s9, e10, h⟩ := obn_e h
  refine ow_putF (r := x0) (x := va_rf x2) hX dX2_init__19 oF_RX2_17 (by decide) rfl rfl (orf_n (Or.inr ⟨_, oT_4_9⟩) x2) e10 ?_
  refine os_aload_n (r := x0) hX dX2_init__22 rfl rfl ?_
  refine os_aload_n (r := x3) hX dX2_init__23 rfl rfl ?_
  obtain ⟨s11, e12, h⟩ := obn_e h
  refine ow_putF (r := x0) (x := va_rf x3) hX dX2_init__24 oF_RX2_21 (by decide) rfl rfl (orf_n (Or.inr ⟨_, oT_4_10⟩) x3) e12 ?_
  exact os_vret hX dX2_init__27 rfl (Option.some.inj h)
def ol_X2_answered_79 (n : Nat) (call : oCl) (κ : oKv) : Nat → Option Nat → Option Nat → Int32 → Option Nat → Option Nat → Int32 → oSt → oRs
  | 0, _, _, _, _, _, _, _ => none
  | f + 1, x0, x1, x2, x3, x4, x5, σ =>
    if x2 ≤ x5 then
      obn (ovr (ofd σ x0 4 1)) fun v2 =>
      obn (ovr (ofd σ v2 4 2)) fun v4 =>
      obn (osr σ x3 x2 v4) fun s6 =>
      obn (osr s6 x4 x2 x1) fun s8 =>
      olet (onew s8 (.inr (4, odef 4)) (oq 4).2.2) fun s10 =>
      obn (ovr (ofd s10 x0 4 1)) fun v12 =>
      obn (ovr (ofd s10 v12 4 4)) fun v14 =>
      obn ((some s8.2.1)) fun a16 =>
      ocv (call 3 [va_rf (some s8.2.1), va_rf v14, va_rf x3, va_rf x4] s10) fun s18 =>
      some (some (va_rf (some s8.2.1)), s18)
    else
      obn (ovr (ofd σ x0 4 9)) fun v21 =>
      obn (oar σ v21 x5) fun v23 =>
      obn (osr σ x3 x5 v23) fun s25 =>
      obn (ovr (ofd s25 x0 4 10)) fun v27 =>
      obn (oar s25 v27 x5) fun v29 =>
      obn (osr s25 x4 x5 v29) fun s31 =>
      ol_X2_answered_79 n call κ f x0 x1 x2 x3 x4 (x5 + 1) s31
def oj_X2_answered_60 (n : Nat) (call : oCl) (κ : oKv) (x0 : Option Nat) (x1 : Option Nat) (t0 : Int32) (σ : oSt) : oRs :=
  ogd (onn (t0 + 1)) (
  olet (onew σ (.inl (.object (oq 6).1, (t0 + 1).toNatClampNeg, .inr (.inr (.inr (.inr (fun _ => none)))))) (t0 + 1).toNatClampNeg) fun s1 =>
  ogd (onn (t0 + 1)) (
  olet (onew s1 (.inl (.object (oq 11).1, (t0 + 1).toNatClampNeg, .inr (.inr (.inr (.inr (fun _ => none)))))) (t0 + 1).toNatClampNeg) fun s4 =>
  ol_X2_answered_79 n call κ n x0 x1 t0 (some σ.2.1) (some s1.2.1) 0 s4))
def ob_X2_answered (n : Nat) (call : oCl) (κ : oKv) (x0 : Option Nat) (x1 : Option Nat) (σ : oSt) : oRs :=
  if x1 = none then
    obn (ovr (ofd σ x0 4 9)) fun v9 =>
    if v9 = none then
      obn (ovr (ofd σ x0 4 1)) fun v27 =>
      obn (ovr (ofd σ v27 4 4)) fun v29 =>
      some (some (va_rf v29), σ)
    else
      olet (onew σ (.inr (4, odef 4)) (oq 4).2.2) fun s12 =>
      obn (ovr (ofd s12 x0 4 1)) fun v14 =>
      obn (ovr (ofd s12 v14 4 4)) fun v16 =>
      obn (ovr (ofd s12 x0 4 9)) fun v18 =>
      obn (ovr (ofd s12 x0 4 10)) fun v20 =>
      obn ((some σ.2.1)) fun a22 =>
      ocv (call 3 [va_rf (some σ.2.1), va_rf v16, va_rf v18, va_rf v20] s12) fun s24 =>
      some (some (va_rf (some σ.2.1)), s24)
  else
    obn (ovr (ofd σ x0 4 9)) fun v2 =>
    if v2 = none then
      oj_X2_answered_60 n call κ x0 x1 0 σ
    else
      obn (ovr (ofd σ x0 4 9)) fun v5 =>
      obn (oln2 κ σ v5) fun v7 =>
      oj_X2_answered_60 n call κ x0 x1 v7 σ
set_option maxHeartbeats 4000000 in
theorem ql_X2_answered_79 {κ : oKv} {n : Nat} {call : oCl} {kc : Nat → List Value → oSt → Option Value × oSt → Prop} {v : Option Value × oSt} {X : Nat → zLv → List Value → oSt → Prop} (hX : oSem RX2 cX2_answered 6 0 (some (.object "LiquidTongue$Known")) κ kc v X) (hc : ∀ j av s w, call j av s = some w → kc j av s w) : ∀ (f : Nat) (x0 : Option Nat) (x1 : Option Nat) (x2 : Int32) (x3 : Option Nat) (x4 : Option Nat) (x5 : Int32) (σ : oSt), ol_X2_answered_79 n call κ f x0 x1 x2 x3 x4 x5 σ = some v → X 79 [some (va_rf x0), some (va_rf x1), some (.int x2), some (va_rf x3), some (va_rf x4), some (.int x5)] [] σ := by
  intro f
  induction f with
  | zero => intro x0 x1 x2 x3 x4 x5 σ h; cases h
  | succ f hk79 =>
    intro x0 x1 x2 x3 x4 x5 σ h
    rw [ol_X2_answered_79] at h
    refine os_iload hX dX2_answered_79 rfl ?_
    refine os_iload_n hX dX2_answered_81 rfl rfl ?_
    refine os_icmp_ge (tgt := 114) hX dX2_answered_82 (by decide) (fun c1 => ?_) (fun c1 => ?_)
    · rw [if_pos c1] at h
      refine os_aload_n (r := x3) hX dX2_answered_114 rfl rfl ?_
      refine os_iload_n hX dX2_answered_115 rfl rfl ?_
      refine os_aload_n (r := x0) hX dX2_answered_116 rfl rfl ?_
      obtain ⟨v2, e3, h⟩ := obn_e h
      refine ow_get (r := x0) hX dX2_answered_117 oF_RX2_13 (ovr_e e3) ?_
      obtain ⟨v4, e5, h⟩ := obn_e h
      refine ow_get (r := v2) hX dX2_answered_120 oF_RX2_87 (ovr_e e5) ?_
      obtain ⟨s6, e7, h⟩ := obn_e h
      refine ow_sr (r := x3) (i := x2) (y := v4) hX dX2_answered_123 e7 ?_
      refine os_aload (r := x4) hX dX2_answered_124 rfl ?_
      refine os_iload_n hX dX2_answered_126 rfl rfl ?_
      refine os_aload_n (r := x1) hX dX2_answered_127 rfl rfl ?_
      obtain ⟨s8, e9, h⟩ := obn_e h
      refine ow_sr (r := x4) (i := x2) (y := x1) hX dX2_answered_128 e9 ?_
      obtain ⟨s10, e11, h⟩ := olet_e h
      refine os_new hX dX2_answered_129 oN_RX2_8 ?_
      rw [← e11]
      refine os_dup hX dX2_answered_132 (ocat (some s8.2.1)) ?_
      refine os_aload_n (r := x0) hX dX2_answered_133 rfl rfl ?_
      obtain ⟨v12, e13, h⟩ := obn_e h
      refine ow_get (r := x0) hX dX2_answered_134 oF_RX2_13 (ovr_e e13) ?_
      obtain ⟨v14, e15, h⟩ := obn_e h
      refine ow_get (r := v12) hX dX2_answered_137 oF_RX2_82 (ovr_e e15) ?_
      refine os_aload_n (r := x3) hX dX2_answered_140 rfl rfl ?_
      refine os_aload (r := x4) hX dX2_answered_141 rfl ?_
      obtain ⟨a16, e17, h⟩ := obn_e h
      obtain ⟨s18, e19, h⟩ := ocv_e h
      refine oc_RX2_79 (rb := (some s8.2.1)) (a1 := va_rf v14) (a2 := va_rf x3) (a3 := va_rf x4) hX dX2_answered_143 (by simp only [List.map_cons, List.map_nil, List.sum_cons, List.sum_nil, ocat]; exact Nat.le_of_ble_eq_true rfl) e17 (hc _ _ _ _ e19) ?_
      exact os_aret (r := (some s8.2.1)) hX dX2_answered_146 rfl (Option.some.inj h)
    · rw [if_neg c1] at h
      refine os_aload_n (r := x3) hX dX2_answered_85 rfl rfl ?_
      refine os_iload hX dX2_answered_86 rfl ?_
      refine os_aload_n (r := x0) hX dX2_answered_88 rfl rfl ?_
      obtain ⟨v21, e22, h⟩ := obn_e h
      refine ow_get (r := x0) hX dX2_answered_89 oF_RX2_17 (ovr_e e22) ?_
      refine os_iload hX dX2_answered_92 rfl ?_
      obtain ⟨v23, e24, h⟩ := obn_e h
      refine ow_ar (r := v21) (i := x5) hX dX2_answered_94 e24 ?_
      obtain ⟨s25, e26, h⟩ := obn_e h
      refine ow_sr (r := x3) (i := x5) (y := v23) hX dX2_answered_95 e26 ?_
      refine os_aload (r := x4) hX dX2_answered_96 rfl ?_
      refine os_iload hX dX2_answered_98 rfl ?_
      refine os_aload_n (r := x0) hX dX2_answered_100 rfl rfl ?_
      obtain ⟨v27, e28, h⟩ := obn_e h
      refine ow_get (r := x0) hX dX2_answered_101 oF_RX2_21 (ovr_e e28) ?_
      refine os_iload hX dX2_answered_104 rfl ?_
      obtain ⟨v29, e30, h⟩ := obn_e h
      refine ow_ar (r := v27) (i := x5) hX dX2_answered_106 e30 ?_
      obtain ⟨s31, e32, h⟩ := obn_e h
      refine ow_sr (r := x4) (i := x5) (y := v29) hX dX2_answered_107 e32 ?_
      refine os_iinc (v := x5 + 1) hX dX2_answered_108 rfl rfl (by decide) (ozlo (i := 4) (r := x4) rfl) ?_
      dsimp only [List.set]
      refine os_goto (tgt := 79) hX dX2_answered_111 (by decide) ?_
      exact hk79 _ _ _ _ _ _ _ h
set_option maxHeartbeats 4000000 in
theorem qj_X2_answered_60 {κ : oKv} {n : Nat} {call : oCl} {kc : Nat → List Value → oSt → Option Value × oSt → Prop} {v : Option Value × oSt} {X : Nat → zLv → List Value → oSt → Prop} (hX : oSem RX2 cX2_answered 6 0 (some (.object "LiquidTongue$Known")) κ kc v X) (hc : ∀ j av s w, call j av s = some w → kc j av s w) {x0 : Option Nat} {x1 : Option Nat} {t0 : Int32} {σ : oSt} (h : oj_X2_answered_60 n call κ x0 x1 t0 σ = some v) : X 60 [some (va_rf x0), some (va_rf x1), none, none, none, none] [.int t0] σ := by
  rw [oj_X2_answered_60] at h
  refine os_istore_n hX dX2_answered_60 rfl (by decide) (ozlo (i := 1) (r := x1) rfl) ?_
  dsimp only [List.set]
  refine os_iload_n hX dX2_answered_61 rfl rfl ?_
  refine os_iconst (v := 1) hX dX2_answered_62 (by decide) ?_
  refine os_iadd hX dX2_answered_63 ?_
  obtain ⟨b3, h⟩ := ogd_e h
  obtain ⟨s1, e2, h⟩ := olet_e h
  refine os_newq hX dX2_answered_64 oA_RX2_85 (onn_e b3).1 (onn_e b3).2 ?_
  rw [← e2]
  refine os_astore_n (r := (some σ.2.1)) hX dX2_answered_67 rfl (by decide) rfl ?_
  dsimp only [List.set]
  refine os_iload_n hX dX2_answered_68 rfl rfl ?_
  refine os_iconst (v := 1) hX dX2_answered_69 (by decide) ?_
  refine os_iadd hX dX2_answered_70 ?_
  obtain ⟨b6, h⟩ := ogd_e h
  obtain ⟨s4, e5, h⟩ := olet_e h
  refine os_newq hX dX2_answered_71 oA_RX2_29 (onn_e b6).1 (onn_e b6).2 ?_
  rw [← e5]
  refine os_astore (r := (some s1.2.1)) hX dX2_answered_74 (by decide) (ozlo (i := 3) (r := (some σ.2.1)) rfl) ?_
  dsimp only [List.set]
  refine os_iconst (v := 0) hX dX2_answered_76 (by decide) ?_
  refine os_istore hX dX2_answered_77 (by decide) (ozlo (i := 4) (r := (some s1.2.1)) rfl) ?_
  dsimp only [List.set]
  exact ql_X2_answered_79 hX hc n _ _ _ _ _ _ _ h
set_option maxHeartbeats 4000000 in
theorem qb_X2_answered {κ : oKv} {n : Nat} {call : oCl} {kc : Nat → List Value → oSt → Option Value × oSt → Prop} {v : Option Value × oSt} {X : Nat → zLv → List Value → oSt → Prop} (hX : oSem RX2 cX2_answered 6 0 (some (.object "LiquidTongue$Known")) κ kc v X) (hc : ∀ j av s w, call j av s = some w → kc j av s w) {x0 : Option Nat} {x1 : Option Nat} {σ : oSt} (h : ob_X2_answered n call κ x0 x1 σ = some v) : X 0 [some (va_rf x0), some (va_rf x1), none, none, none, none] [] σ := by
  rw [ob_X2_answered] at h
  refine os_aload_n (r := x1) hX dX2_answered_0 rfl rfl ?_
  refine os_ifnonnull (r := x1) (tgt := 44) hX dX2_answered_1 (by decide) (fun c1 => ?_) (fun c1 => ?_)
  · rw [if_neg c1] at h
    refine os_aload_n (r := x0) hX dX2_answered_44 rfl rfl ?_
    obtain ⟨v2, e3, h⟩ := obn_e h
    refine ow_get (r := x0) hX dX2_answered_45 oF_RX2_17 (ovr_e e3) ?_
    refine os_ifnonnull (r := v2) (tgt := 55) hX dX2_answered_48 (by decide) (fun c4 => ?_) (fun c4 => ?_)
    · rw [if_neg c4] at h
      refine os_aload_n (r := x0) hX dX2_answered_55 rfl rfl ?_
      obtain ⟨v5, e6, h⟩ := obn_e h
      refine ow_get (r := x0) hX dX2_answered_56 oF_RX2_17 (ovr_e e6) ?_
      obtain ⟨v7, e8, h⟩ := obn_e h
      refine ow_len (r := v5) hX dX2_answered_59 e8 ?_
      exact qj_X2_answered_60 hX hc h
    · rw [if_pos c4] at h
      refine os_iconst (v := 0) hX dX2_answered_51 (by decide) ?_
      refine os_goto (tgt := 60) hX dX2_answered_52 (by decide) ?_
      exact qj_X2_answered_60 hX hc h
  · rw [if_pos c1] at h
    refine os_aload_n (r := x0) hX dX2_answered_4 rfl rfl ?_
    obtain ⟨v9, e10, h⟩ := obn_e h
    refine ow_get (r := x0) hX dX2_answered_5 oF_RX2_17 (ovr_e e10) ?_
    refine os_ifnonnull (r := v9) (tgt := 21) hX dX2_answered_8 (by decide) (fun c11 => ?_) (fun c11 => ?_)
    · rw [if_neg c11] at h
      obtain ⟨s12, e13, h⟩ := olet_e h
      refine os_new hX dX2_answered_21 oN_RX2_8 ?_
      rw [← e13]
      refine os_dup hX dX2_answered_24 (ocat (some σ.2.1)) ?_
      refine os_aload_n (r := x0) hX dX2_answered_25 rfl rfl ?_
      obtain ⟨v14, e15, h⟩ := obn_e h
      refine ow_get (r := x0) hX dX2_answered_26 oF_RX2_13 (ovr_e e15) ?_
      obtain ⟨v16, e17, h⟩ := obn_e h
      refine ow_get (r := v14) hX dX2_answered_29 oF_RX2_82 (ovr_e e17) ?_
      refine os_aload_n (r := x0) hX dX2_answered_32 rfl rfl ?_
      obtain ⟨v18, e19, h⟩ := obn_e h
      refine ow_get (r := x0) hX dX2_answered_33 oF_RX2_17 (ovr_e e19) ?_
      refine os_aload_n (r := x0) hX dX2_answered_36 rfl rfl ?_
      obtain ⟨v20, e21, h⟩ := obn_e h
      refine ow_get (r := x0) hX dX2_answered_37 oF_RX2_21 (ovr_e e21) ?_
      obtain ⟨a22, e23, h⟩ := obn_e h
      obtain ⟨s24, e25, h⟩ := ocv_e h
      refine oc_RX2_79 (rb := (some σ.2.1)) (a1 := va_rf v16) (a2 := va_rf v18) (a3 := va_rf v20) hX dX2_answered_40 (by simp only [List.map_cons, List.map_nil, List.sum_cons, List.sum_nil, ocat]; exact Nat.le_of_ble_eq_true rfl) e23 (hc _ _ _ _ e25) ?_
      exact os_aret (r := (some σ.2.1)) hX dX2_answered_43 rfl (Option.some.inj h)
    · rw [if_pos c11] at h
      refine os_aload_n (r := x0) hX dX2_answered_11 rfl rfl ?_
      obtain ⟨v27, e28, h⟩ := obn_e h
      refine ow_get (r := x0) hX dX2_answered_12 oF_RX2_13 (ovr_e e28) ?_
      obtain ⟨v29, e30, h⟩ := obn_e h
      refine ow_get (r := v27) hX dX2_answered_15 oF_RX2_82 (ovr_e e30) ?_
      refine os_goto (tgt := 43) hX dX2_answered_18 (by decide) ?_
      exact os_aret (r := v29) hX dX2_answered_43 rfl (Option.some.inj h)
def ob_X2_taken (n : Nat) (call : oCl) (κ : oKv) (x0 : Option Nat) (σ : oSt) : oRs :=
  obn (ovr (ofd σ x0 4 9)) fun v1 =>
  if v1 = none then
    obn (ovr (ofd σ x0 4 1)) fun v19 =>
    obn (ovr (ofd σ v19 4 3)) fun v21 =>
    some (some (va_rf v21), σ)
  else
    olet (onew σ (.inr (4, odef 4)) (oq 4).2.2) fun s4 =>
    obn (ovr (ofd s4 x0 4 1)) fun v6 =>
    obn (ovr (ofd s4 v6 4 3)) fun v8 =>
    obn (ovr (ofd s4 x0 4 9)) fun v10 =>
    obn (ovr (ofd s4 x0 4 10)) fun v12 =>
    obn ((some σ.2.1)) fun a14 =>
    ocv (call 3 [va_rf (some σ.2.1), va_rf v8, va_rf v10, va_rf v12] s4) fun s16 =>
    some (some (va_rf (some σ.2.1)), s16)
set_option maxHeartbeats 4000000 in
theorem qb_X2_taken {κ : oKv} {n : Nat} {call : oCl} {kc : Nat → List Value → oSt → Option Value × oSt → Prop} {v : Option Value × oSt} {X : Nat → zLv → List Value → oSt → Prop} (hX : oSem RX2 cX2_taken 1 0 (some (.object "LiquidTongue$Known")) κ kc v X) (hc : ∀ j av s w, call j av s = some w → kc j av s w) {x0 : Option Nat} {σ : oSt} (h : ob_X2_taken n call κ x0 σ = some v) : X 0 [some (va_rf x0)] [] σ := by
  rw [ob_X2_taken] at h
  refine os_aload_n (r := x0) hX dX2_taken_0 rfl rfl ?_
  obtain ⟨v1, e2, h⟩ := obn_e h
  refine ow_get (r := x0) hX dX2_taken_1 oF_RX2_17 (ovr_e e2) ?_
  refine os_ifnonnull (r := v1) (tgt := 17) hX dX2_taken_4 (by decide) (fun c3 => ?_) (fun c3 => ?_)
  · rw [if_neg c3] at h
    obtain ⟨s4, e5, h⟩ := olet_e h
    refine os_new hX dX2_taken_17 oN_RX2_8 ?_
    rw [← e5]
    refine os_dup hX dX2_taken_20 (ocat (some σ.2.1)) ?_
    refine os_aload_n (r := x0) hX dX2_taken_21 rfl rfl ?_
    obtain ⟨v6, e7, h⟩ := obn_e h
    refine ow_get (r := x0) hX dX2_taken_22 oF_RX2_13 (ovr_e e7) ?_
    obtain ⟨v8, e9, h⟩ := obn_e h
    refine ow_get (r := v6) hX dX2_taken_25 oF_RX2_76 (ovr_e e9) ?_
    refine os_aload_n (r := x0) hX dX2_taken_28 rfl rfl ?_
    obtain ⟨v10, e11, h⟩ := obn_e h
    refine ow_get (r := x0) hX dX2_taken_29 oF_RX2_17 (ovr_e e11) ?_
    refine os_aload_n (r := x0) hX dX2_taken_32 rfl rfl ?_
    obtain ⟨v12, e13, h⟩ := obn_e h
    refine ow_get (r := x0) hX dX2_taken_33 oF_RX2_21 (ovr_e e13) ?_
    obtain ⟨a14, e15, h⟩ := obn_e h
    obtain ⟨s16, e17, h⟩ := ocv_e h
    refine oc_RX2_79 (rb := (some σ.2.1)) (a1 := va_rf v8) (a2 := va_rf v10) (a3 := va_rf v12) hX dX2_taken_36 (by simp only [List.map_cons, List.map_nil, List.sum_cons, List.sum_nil, ocat]; exact Nat.le_of_ble_eq_true rfl) e15 (hc _ _ _ _ e17) ?_
    exact os_aret (r := (some σ.2.1)) hX dX2_taken_39 rfl (Option.some.inj h)
  · rw [if_pos c3] at h
    refine os_aload_n (r := x0) hX dX2_taken_7 rfl rfl ?_
    obtain ⟨v19, e20, h⟩ := obn_e h
    refine ow_get (r := x0) hX dX2_taken_8 oF_RX2_13 (ovr_e e20) ?_
    obtain ⟨v21, e22, h⟩ := obn_e h
    refine ow_get (r := v19) hX dX2_taken_11 oF_RX2_76 (ovr_e e22) ?_
    refine os_goto (tgt := 39) hX dX2_taken_14 (by decide) ?_
    exact os_aret (r := v21) hX dX2_taken_39 rfl (Option.some.inj h)
def oj_X4_isMeasured_30 (n : Nat) (call : oCl) (κ : oKv) (σ : oSt) : oRs :=
  some (some (.int 1), σ)
def ob_X4_isMeasured (n : Nat) (call : oCl) (κ : oKv) (x0 : Option Nat) (σ : oSt) : oRs :=
  obn (ovi (ofd σ x0 6 3)) fun v1 =>
  if v1 = 210 then
    oj_X4_isMeasured_30 n call κ σ
  else
    obn (ovi (ofd σ x0 6 3)) fun v4 =>
    if v4 = 200 then
      oj_X4_isMeasured_30 n call κ σ
    else
      obn (ovi (ofd σ x0 6 3)) fun v7 =>
      if v7 = 213 then
        oj_X4_isMeasured_30 n call κ σ
      else
        some (some (.int 0), σ)
set_option maxHeartbeats 4000000 in
theorem qj_X4_isMeasured_30 {κ : oKv} {n : Nat} {call : oCl} {kc : Nat → List Value → oSt → Option Value × oSt → Prop} {v : Option Value × oSt} {X : Nat → zLv → List Value → oSt → Prop} (hX : oSem RX4 cX4_isMeasured 1 0 (some .boolean) κ kc v X) (hc : ∀ j av s w, call j av s = some w → kc j av s w) {σ : oSt} (h : oj_X4_isMeasured_30 n call κ σ = some v) : X 30 [none] [] σ := by
  rw [oj_X4_isMeasured_30] at h
  refine os_iconst (v := 1) hX dX4_isMeasured_30 (by decide) ?_
  refine os_goto (tgt := 35) hX dX4_isMeasured_31 (by decide) ?_
  exact os_nret (ty := .boolean) hX dX4_isMeasured_35 rfl rfl (by decide) (Option.some.inj h)
set_option maxHeartbeats 4000000 in
theorem qb_X4_isMeasured {κ : oKv} {n : Nat} {call : oCl} {kc : Nat → List Value → oSt → Option Value × oSt → Prop} {v : Option Value × oSt} {X : Nat → zLv → List Value → oSt → Prop} (hX : oSem RX4 cX4_isMeasured 1 0 (some .boolean) κ kc v X) (hc : ∀ j av s w, call j av s = some w → kc j av s w) {x0 : Option Nat} {σ : oSt} (h : ob_X4_isMeasured n call κ x0 σ = some v) : X 0 [some (va_rf x0)] [] σ := by
  rw [ob_X4_isMeasured] at h
  refine os_aload_n (r := x0) hX dX4_isMeasured_0 rfl rfl ?_
  obtain ⟨v1, e2, h⟩ := obn_e h
  refine ow_get (r := x0) hX dX4_isMeasured_1 oF_RX4_15 (ovi_e e2) ?_
  refine os_sipush (v := 210) hX dX4_isMeasured_4 (by decide) ?_
  refine os_icmp_eq (tgt := 30) hX dX4_isMeasured_7 (by decide) (fun c3 => ?_) (fun c3 => ?_)
  · rw [if_pos c3] at h
    refine os_weak hX (lw := [none]) trivial ?_
    exact qj_X4_isMeasured_30 hX hc h
  · rw [if_neg c3] at h
    refine os_aload_n (r := x0) hX dX4_isMeasured_10 rfl rfl ?_
    obtain ⟨v4, e5, h⟩ := obn_e h
    refine ow_get (r := x0) hX dX4_isMeasured_11 oF_RX4_15 (ovi_e e5) ?_
    refine os_sipush (v := 200) hX dX4_isMeasured_14 (by decide) ?_
    refine os_icmp_eq (tgt := 30) hX dX4_isMeasured_17 (by decide) (fun c6 => ?_) (fun c6 => ?_)
    · rw [if_pos c6] at h
      refine os_weak hX (lw := [none]) trivial ?_
      exact qj_X4_isMeasured_30 hX hc h
    · rw [if_neg c6] at h
      refine os_aload_n (r := x0) hX dX4_isMeasured_20 rfl rfl ?_
      obtain ⟨v7, e8, h⟩ := obn_e h
      refine ow_get (r := x0) hX dX4_isMeasured_21 oF_RX4_15 (ovi_e e8) ?_
      refine os_sipush (v := 213) hX dX4_isMeasured_24 (by decide) ?_
      refine os_icmp_ne (tgt := 34) hX dX4_isMeasured_27 (by decide) (fun c9 => ?_) (fun c9 => ?_)
      · rw [if_neg c9] at h
        refine os_iconst (v := 0) hX dX4_isMeasured_34 (by decide) ?_
        exact os_nret (ty := .boolean) hX dX4_isMeasured_35 rfl rfl (by decide) (Option.some.inj h)
      · rw [if_pos c9] at h
        refine os_weak hX (lw := [none]) trivial ?_
        exact qj_X4_isMeasured_30 hX hc h
def ob_X4_init (n : Nat) (call : oCl) (κ : oKv) (x0 : Option Nat) (x1 : Option Nat) (x2 : Int32) (σ : oSt) : oRs :=
  obn (x0) fun a1 =>
  obn (opf σ x0 6 0 (va_rf x1)) fun s3 =>
  obn (opf s3 x0 6 3 (.int x2)) fun s5 =>
  some (none, s5)
set_option maxHeartbeats 4000000 in
theorem qb_X4_init {κ : oKv} {n : Nat} {call : oCl} {kc : Nat → List Value → oSt → Option Value × oSt → Prop} {v : Option Value × oSt} {X : Nat → zLv → List Value → oSt → Prop} (hX : oSem RX4 cX4_init 3 2 none κ kc v X) (hc : ∀ j av s w, call j av s = some w → kc j av s w) {x0 : Option Nat} {x1 : Option Nat} {x2 : Int32} {σ : oSt} (h : ob_X4_init n call κ x0 x1 x2 σ = some v) : X 0 [some (va_rf x0), some (va_rf x1), some (.int x2)] [] σ := by
  rw [ob_X4_init] at h
  refine os_aload_n (r := x0) hX dX4_init_0 rfl rfl ?_
  obtain ⟨a1, e2, h⟩ := obn_e h
  refine ow_oI (r := x0) hX dX4_init_1 oI_RX4_3 (Nat.le_of_ble_eq_true rfl) e2 ?_
  refine os_aload_n (r := x0) hX dX4_init_4 rfl rfl ?_
  refine os_aload_n (r := x1) hX dX4_init_5 rfl rfl ?_
  obtain ⟨s3, e4, h⟩ := obn_e h
  refine ow_putF (r := x0) (x := va_rf x1) hX dX4_init_6 oF_RX4_9 (by decide) rfl rfl (orf_n (Or.inl ⟨_, oT_6_0⟩) x1) e4 ?_
  refine os_aload_n (r := x0) hX dX4_init_9 rfl rfl ?_
  refine os_iload_n hX dX4_init_10 rfl rfl ?_
  obtain ⟨s5, e6, h⟩ := obn_e h
  refine ow_put (r := x0) (x := .int x2) hX dX4_init_11 oF_RX4_15 (by decide) (opn_I oT_6_3) e6 ?_
  exact os_vret hX dX4_init_14 rfl (Option.some.inj h)
def ob_X9_init (n : Nat) (call : oCl) (κ : oKv) (x0 : Option Nat) (σ : oSt) : oRs :=
  obn (x0) fun a1 =>
  ogd (onn 2) (
  olet (onew σ (.inl (.object (oq 6).1, (2 : Int32).toNatClampNeg, .inr (.inr (.inr (.inr (fun _ => none)))))) (2 : Int32).toNatClampNeg) fun s3 =>
  obn (opf s3 x0 11 0 (va_rf (some σ.2.1))) fun s6 =>
  ogd (onn 2) (
  olet (onew s6 (.inl (.int, (2 : Int32).toNatClampNeg, .inl (fun _ => 0))) (2 : Int32).toNatClampNeg) fun s8 =>
  obn (opf s8 x0 11 1 (va_rf (some s6.2.1))) fun s11 =>
  some (none, s11)))
set_option maxHeartbeats 4000000 in
theorem qb_X9_init {κ : oKv} {n : Nat} {call : oCl} {kc : Nat → List Value → oSt → Option Value × oSt → Prop} {v : Option Value × oSt} {X : Nat → zLv → List Value → oSt → Prop} (hX : oSem RX9 cX9_init 1 2 none κ kc v X) (hc : ∀ j av s w, call j av s = some w → kc j av s w) {x0 : Option Nat} {σ : oSt} (h : ob_X9_init n call κ x0 σ = some v) : X 0 [some (va_rf x0)] [] σ := by
  rw [ob_X9_init] at h
  refine os_aload_n (r := x0) hX dX9_init_0 rfl rfl ?_
  obtain ⟨a1, e2, h⟩ := obn_e h
  refine ow_oI (r := x0) hX dX9_init_1 oI_RX9_1 (Nat.le_of_ble_eq_true rfl) e2 ?_
  refine os_aload_n (r := x0) hX dX9_init_4 rfl rfl ?_
  refine os_iconst (v := 2) hX dX9_init_5 (by decide) ?_
  obtain ⟨b5, h⟩ := ogd_e h
  obtain ⟨s3, e4, h⟩ := olet_e h
  refine os_newq hX dX9_init_6 oA_RX9_7 (onn_e b5).1 (onn_e b5).2 ?_
  rw [← e4]
  obtain ⟨s6, e7, h⟩ := obn_e h
  refine ow_put (r := x0) (x := va_rf (some σ.2.1)) hX dX9_init_9 oF_RX9_9 (by decide) (orf_n (Or.inr ⟨_, oT_11_0⟩) (some σ.2.1)) e7 ?_
  refine os_aload_n (r := x0) hX dX9_init_12 rfl rfl ?_
  refine os_iconst (v := 2) hX dX9_init_13 (by decide) ?_
  obtain ⟨b10, h⟩ := ogd_e h
  obtain ⟨s8, e9, h⟩ := olet_e h
  refine os_newI hX dX9_init_14 (onn_e b10).1 (onn_e b10).2 ?_
  rw [← e9]
  obtain ⟨s11, e12, h⟩ := obn_e h
  refine ow_put (r := x0) (x := va_rf (some s6.2.1)) hX dX9_init_16 oF_RX9_15 (by decide) (orf_n (Or.inr ⟨_, oT_11_1⟩) (some s6.2.1)) e12 ?_
  exact os_vret hX dX9_init_19 rfl (Option.some.inj h)
def oj_X9_append_58 (n : Nat) (call : oCl) (κ : oKv) (x0 : Option Nat) (x1 : Option Nat) (σ : oSt) : oRs :=
  obn (ovr (ofd σ x0 11 0)) fun v1 =>
  obn (ovi (ofd σ x0 11 2)) fun v3 =>
  obn (osr σ v1 v3 x1) fun s5 =>
  obn (ovr (ofd s5 x0 11 1)) fun v7 =>
  obn (ovi (ofd s5 x0 11 2)) fun v9 =>
  obn (osi s5 v7 .int v9 0) fun s11 =>
  obn (ovi (ofd s11 x0 11 2)) fun v13 =>
  obn (opf s11 x0 11 2 (.int (v13 + 1))) fun s15 =>
  some (none, s15)
def ob_X9_append (n : Nat) (call : oCl) (κ : oKv) (x0 : Option Nat) (x1 : Option Nat) (σ : oSt) : oRs :=
  obn (ovi (ofd σ x0 11 2)) fun v1 =>
  obn (ovr (ofd σ x0 11 0)) fun v3 =>
  obn (oln2 κ σ v3) fun v5 =>
  if v1 = v5 then
    obn (ovi (ofd σ x0 11 2)) fun v8 =>
    ogd (onn (2 * v8)) (
    olet (onew σ (.inl (.object (oq 6).1, (2 * v8).toNatClampNeg, .inr (.inr (.inr (.inr (fun _ => none)))))) (2 * v8).toNatClampNeg) fun s10 =>
    obn (ovr (ofd s10 x0 11 0)) fun v13 =>
    obn (ovi (ofd s10 x0 11 2)) fun v15 =>
    obn (ocy s10 v13 0 (some σ.2.1) 0 v15) fun s17 =>
    obn (opf s17 x0 11 0 (va_rf (some σ.2.1))) fun s19 =>
    obn (ovr (ofd s19 x0 11 1)) fun v21 =>
    obn (ovi (ofd s19 x0 11 2)) fun v23 =>
    orn (call 238 [va_rf v21, .int (2 * v23)] s19) fun r27 s25 =>
    obn (opf s25 x0 11 1 (va_rf r27)) fun s28 =>
    oj_X9_append_58 n call κ x0 x1 s28)
  else
    oj_X9_append_58 n call κ x0 x1 σ
set_option maxHeartbeats 4000000 in
theorem qj_X9_append_58 {κ : oKv} {n : Nat} {call : oCl} {kc : Nat → List Value → oSt → Option Value × oSt → Prop} {v : Option Value × oSt} {X : Nat → zLv → List Value → oSt → Prop} (hX : oSem RX9 cX9_append 3 0 none κ kc v X) (hc : ∀ j av s w, call j av s = some w → kc j av s w) {x0 : Option Nat} {x1 : Option Nat} {σ : oSt} (h : oj_X9_append_58 n call κ x0 x1 σ = some v) : X 58 [some (va_rf x0), some (va_rf x1), none] [] σ := by
  rw [oj_X9_append_58] at h
  refine os_aload_n (r := x0) hX dX9_append_58 rfl rfl ?_
  obtain ⟨v1, e2, h⟩ := obn_e h
  refine ow_get (r := x0) hX dX9_append_59 oF_RX9_9 (ovr_e e2) ?_
  refine os_aload_n (r := x0) hX dX9_append_62 rfl rfl ?_
  obtain ⟨v3, e4, h⟩ := obn_e h
  refine ow_get (r := x0) hX dX9_append_63 oF_RX9_19 (ovi_e e4) ?_
  refine os_aload_n (r := x1) hX dX9_append_66 rfl rfl ?_
  obtain ⟨s5, e6, h⟩ := obn_e h
  refine ow_sr (r := v1) (i := v3) (y := x1) hX dX9_append_67 e6 ?_
  refine os_aload_n (r := x0) hX dX9_append_68 rfl rfl ?_
  obtain ⟨v7, e8, h⟩ := obn_e h
  refine ow_get (r := x0) hX dX9_append_69 oF_RX9_15 (ovr_e e8) ?_
  refine os_aload_n (r := x0) hX dX9_append_72 rfl rfl ?_
  obtain ⟨v9, e10, h⟩ := obn_e h
  refine ow_get (r := x0) hX dX9_append_73 oF_RX9_19 (ovi_e e10) ?_
  refine os_iconst (v := 0) hX dX9_append_76 (by decide) ?_
  obtain ⟨s11, e12, h⟩ := obn_e h
  refine ow_si (r := v7) (i := v9) (x := 0) hX dX9_append_77 e12 ?_
  refine os_aload_n (r := x0) hX dX9_append_78 rfl rfl ?_
  refine os_dup hX dX9_append_79 (ocat x0) ?_
  obtain ⟨v13, e14, h⟩ := obn_e h
  refine ow_get (r := x0) hX dX9_append_80 oF_RX9_19 (ovi_e e14) ?_
  refine os_iconst (v := 1) hX dX9_append_83 (by decide) ?_
  refine os_iadd hX dX9_append_84 ?_
  obtain ⟨s15, e16, h⟩ := obn_e h
  refine ow_put (r := x0) (x := .int (v13 + 1)) hX dX9_append_85 oF_RX9_19 (by decide) (opn_I oT_11_2) e16 ?_
  exact os_vret hX dX9_append_88 rfl (Option.some.inj h)
set_option maxHeartbeats 4000000 in
theorem qb_X9_append {κ : oKv} {n : Nat} {call : oCl} {kc : Nat → List Value → oSt → Option Value × oSt → Prop} {v : Option Value × oSt} {X : Nat → zLv → List Value → oSt → Prop} (hX : oSem RX9 cX9_append 3 0 none κ kc v X) (hc : ∀ j av s w, call j av s = some w → kc j av s w) {x0 : Option Nat} {x1 : Option Nat} {σ : oSt} (h : ob_X9_append n call κ x0 x1 σ = some v) : X 0 [some (va_rf x0), some (va_rf x1), none] [] σ := by
  rw [ob_X9_append] at h
  refine os_aload_n (r := x0) hX dX9_append_0 rfl rfl ?_
  obtain ⟨v1, e2, h⟩ := obn_e h
  refine ow_get (r := x0) hX dX9_append_1 oF_RX9_19 (ovi_e e2) ?_
  refine os_aload_n (r := x0) hX dX9_append_4 rfl rfl ?_
  obtain ⟨v3, e4, h⟩ := obn_e h
  refine ow_get (r := x0) hX dX9_append_5 oF_RX9_9 (ovr_e e4) ?_
  obtain ⟨v5, e6, h⟩ := obn_e h
  refine ow_len (r := v3) hX dX9_append_8 e6 ?_
  refine os_icmp_ne (tgt := 58) hX dX9_append_9 (by decide) (fun c7 => ?_) (fun c7 => ?_)
  · rw [if_neg c7] at h
    exact qj_X9_append_58 hX hc h
  · rw [if_pos c7] at h
    refine os_iconst (v := 2) hX dX9_append_12 (by decide) ?_
    refine os_aload_n (r := x0) hX dX9_append_13 rfl rfl ?_
    obtain ⟨v8, e9, h⟩ := obn_e h
    refine ow_get (r := x0) hX dX9_append_14 oF_RX9_19 (ovi_e e9) ?_
    refine os_imul hX dX9_append_17 ?_
    obtain ⟨b12, h⟩ := ogd_e h
    obtain ⟨s10, e11, h⟩ := olet_e h
    refine os_newq hX dX9_append_18 oA_RX9_7 (onn_e b12).1 (onn_e b12).2 ?_
    rw [← e11]
    refine os_astore_n (r := (some σ.2.1)) hX dX9_append_21 rfl (by decide) (ozlo (i := 1) (r := x1) rfl) ?_
    dsimp only [List.set]
    refine os_aload_n (r := x0) hX dX9_append_22 rfl rfl ?_
    obtain ⟨v13, e14, h⟩ := obn_e h
    refine ow_get (r := x0) hX dX9_append_23 oF_RX9_9 (ovr_e e14) ?_
    refine os_iconst (v := 0) hX dX9_append_26 (by decide) ?_
    refine os_aload_n (r := (some σ.2.1)) hX dX9_append_27 rfl rfl ?_
    refine os_iconst (v := 0) hX dX9_append_28 (by decide) ?_
    refine os_aload_n (r := x0) hX dX9_append_29 rfl rfl ?_
    obtain ⟨v15, e16, h⟩ := obn_e h
    refine ow_get (r := x0) hX dX9_append_30 oF_RX9_19 (ovi_e e16) ?_
    obtain ⟨s17, e18, h⟩ := obn_e h
    refine ow_cpy (r0 := v13) (r1 := (some σ.2.1)) (sp := 0) (dp := 0) (n := v15) hX dX9_append_33 oC_RX9_27 (Nat.le_of_ble_eq_true rfl) e18 ?_
    refine os_aload_n (r := x0) hX dX9_append_36 rfl rfl ?_
    refine os_aload_n (r := (some σ.2.1)) hX dX9_append_37 rfl rfl ?_
    obtain ⟨s19, e20, h⟩ := obn_e h
    refine ow_put (r := x0) (x := va_rf (some σ.2.1)) hX dX9_append_38 oF_RX9_9 (by decide) (orf_n (Or.inr ⟨_, oT_11_0⟩) (some σ.2.1)) e20 ?_
    refine os_aload_n (r := x0) hX dX9_append_41 rfl rfl ?_
    refine os_aload_n (r := x0) hX dX9_append_42 rfl rfl ?_
    obtain ⟨v21, e22, h⟩ := obn_e h
    refine ow_get (r := x0) hX dX9_append_43 oF_RX9_15 (ovr_e e22) ?_
    refine os_iconst (v := 2) hX dX9_append_46 (by decide) ?_
    refine os_aload_n (r := x0) hX dX9_append_47 rfl rfl ?_
    obtain ⟨v23, e24, h⟩ := obn_e h
    refine ow_get (r := x0) hX dX9_append_48 oF_RX9_19 (ovi_e e24) ?_
    refine os_imul hX dX9_append_51 ?_
    obtain ⟨r27, s25, e26, h⟩ := orn_e h
    refine oc_RX9_33 (a1 := va_rf v21) (a2 := .int (2 * v23)) hX dX9_append_52 (by simp only [List.map_cons, List.map_nil, List.sum_cons, List.sum_nil, ocat]; exact Nat.le_of_ble_eq_true rfl) (hc _ _ _ _ e26) ?_
    obtain ⟨s28, e29, h⟩ := obn_e h
    refine ow_put (r := x0) (x := va_rf r27) hX dX9_append_55 oF_RX9_15 (by decide) (orf_n (Or.inr ⟨_, oT_11_1⟩) r27) e29 ?_
    refine os_weak hX (lw := [some (va_rf x0), some (va_rf x1), none]) ⟨rfl, rfl, trivial⟩ ?_
    exact qj_X9_append_58 hX hc h
def oj_X9_add_44 (n : Nat) (call : oCl) (κ : oKv) (x0 : Option Nat) (x2 : Int32) (x3 : Int32) (σ : oSt) : oRs :=
  obn (ovr (ofd σ x0 11 1)) fun v1 =>
  obn (oai σ v1 .int x3) fun v3 =>
  obn (osi σ v1 .int x3 (v3 + x2)) fun s5 =>
  obn (ovr (ofd s5 x0 11 1)) fun v7 =>
  obn (oai s5 v7 .int x3) fun v9 =>
  if v9 = 0 then
    obn (ovi (ofd s5 x0 11 2)) fun v12 =>
    obn (opf s5 x0 11 2 (.int (v12 - 1))) fun s14 =>
    obn (ovr (ofd s14 x0 11 0)) fun v16 =>
    obn (ovr (ofd s14 x0 11 0)) fun v18 =>
    obn (ovi (ofd s14 x0 11 2)) fun v20 =>
    obn (oar s14 v18 v20) fun v22 =>
    obn (osr s14 v16 x3 v22) fun s24 =>
    obn (ovr (ofd s24 x0 11 1)) fun v26 =>
    obn (ovr (ofd s24 x0 11 1)) fun v28 =>
    obn (ovi (ofd s24 x0 11 2)) fun v30 =>
    obn (oai s24 v28 .int v30) fun v32 =>
    obn (osi s24 v26 .int x3 v32) fun s34 =>
    some (none, s34)
  else
    some (none, s5)
def oj_X9_add_31 (n : Nat) (call : oCl) (κ : oKv) (x0 : Option Nat) (x1 : Option Nat) (x2 : Int32) (x3 : Int32) (σ : oSt) : oRs :=
  obn (ovi (ofd σ x0 11 2)) fun v1 =>
  if x3 = v1 then
    obn (oob σ x0 11) fun a4 =>
    ocv (call 9 [va_rf x0, va_rf x1] σ) fun s6 =>
    oj_X9_add_44 n call κ x0 x2 x3 s6
  else
    oj_X9_add_44 n call κ x0 x2 x3 σ
def ol_X9_add_7 (n : Nat) (call : oCl) (κ : oKv) : Nat → Option Nat → Option Nat → Int32 → Int32 → oSt → oRs
  | 0, _, _, _, _, _ => none
  | f + 1, x0, x1, x2, x3, σ =>
    obn (ovi (ofd σ x0 11 2)) fun v1 =>
    if v1 ≤ x3 then
      oj_X9_add_31 n call κ x0 x1 x2 x3 σ
    else
      obn (ovr (ofd σ x0 11 0)) fun v4 =>
      obn (oar σ v4 x3) fun v6 =>
      if v6 = x1 then
        oj_X9_add_31 n call κ x0 x1 x2 x3 σ
      else
        ol_X9_add_7 n call κ f x0 x1 x2 (x3 + 1) σ
def ob_X9_add (n : Nat) (call : oCl) (κ : oKv) (x0 : Option Nat) (x1 : Option Nat) (x2 : Int32) (σ : oSt) : oRs :=
  if x1 = none then
    some (none, σ)
  else
    ol_X9_add_7 n call κ n x0 x1 x2 0 σ
set_option maxHeartbeats 4000000 in
theorem qj_X9_add_44 {κ : oKv} {n : Nat} {call : oCl} {kc : Nat → List Value → oSt → Option Value × oSt → Prop} {v : Option Value × oSt} {X : Nat → zLv → List Value → oSt → Prop} (hX : oSem RX9 cX9_add 4 0 none κ kc v X) (hc : ∀ j av s w, call j av s = some w → kc j av s w) {x0 : Option Nat} {x2 : Int32} {x3 : Int32} {σ : oSt} (h : oj_X9_add_44 n call κ x0 x2 x3 σ = some v) : X 44 [some (va_rf x0), none, some (.int x2), some (.int x3)] [] σ := by
  rw [oj_X9_add_44] at h
  refine os_aload_n (r := x0) hX dX9_add_44 rfl rfl ?_
  obtain ⟨v1, e2, h⟩ := obn_e h
  refine ow_get (r := x0) hX dX9_add_45 oF_RX9_15 (ovr_e e2) ?_
  refine os_iload_n hX dX9_add_48 rfl rfl ?_
  refine os_dup2 hX dX9_add_49 rfl (ocat v1) ?_
  obtain ⟨v3, e4, h⟩ := obn_e h
  refine ow_ai (r := v1) (i := x3) hX dX9_add_50 e4 ?_
  refine os_iload_n hX dX9_add_51 rfl rfl ?_
  refine os_iadd hX dX9_add_52 ?_
  obtain ⟨s5, e6, h⟩ := obn_e h
  refine ow_si (r := v1) (i := x3) (x := (v3 + x2)) hX dX9_add_53 e6 ?_
  refine os_aload_n (r := x0) hX dX9_add_54 rfl rfl ?_
  obtain ⟨v7, e8, h⟩ := obn_e h
  refine ow_get (r := x0) hX dX9_add_55 oF_RX9_15 (ovr_e e8) ?_
  refine os_iload_n hX dX9_add_58 rfl rfl ?_
  obtain ⟨v9, e10, h⟩ := obn_e h
  refine ow_ai (r := v7) (i := x3) hX dX9_add_59 e10 ?_
  refine os_if_ne (tgt := 103) hX dX9_add_60 (by decide) (fun c11 => ?_) (fun c11 => ?_)
  · rw [if_neg c11] at h
    exact os_vret hX dX9_add_103 rfl (Option.some.inj h)
  · rw [if_pos c11] at h
    refine os_aload_n (r := x0) hX dX9_add_63 rfl rfl ?_
    refine os_dup hX dX9_add_64 (ocat x0) ?_
    obtain ⟨v12, e13, h⟩ := obn_e h
    refine ow_get (r := x0) hX dX9_add_65 oF_RX9_19 (ovi_e e13) ?_
    refine os_iconst (v := 1) hX dX9_add_68 (by decide) ?_
    refine os_isub hX dX9_add_69 ?_
    obtain ⟨s14, e15, h⟩ := obn_e h
    refine ow_put (r := x0) (x := .int (v12 - 1)) hX dX9_add_70 oF_RX9_19 (by decide) (opn_I oT_11_2) e15 ?_
    refine os_aload_n (r := x0) hX dX9_add_73 rfl rfl ?_
    obtain ⟨v16, e17, h⟩ := obn_e h
    refine ow_get (r := x0) hX dX9_add_74 oF_RX9_9 (ovr_e e17) ?_
    refine os_iload_n hX dX9_add_77 rfl rfl ?_
    refine os_aload_n (r := x0) hX dX9_add_78 rfl rfl ?_
    obtain ⟨v18, e19, h⟩ := obn_e h
    refine ow_get (r := x0) hX dX9_add_79 oF_RX9_9 (ovr_e e19) ?_
    refine os_aload_n (r := x0) hX dX9_add_82 rfl rfl ?_
    obtain ⟨v20, e21, h⟩ := obn_e h
    refine ow_get (r := x0) hX dX9_add_83 oF_RX9_19 (ovi_e e21) ?_
    obtain ⟨v22, e23, h⟩ := obn_e h
    refine ow_ar (r := v18) (i := v20) hX dX9_add_86 e23 ?_
    obtain ⟨s24, e25, h⟩ := obn_e h
    refine ow_sr (r := v16) (i := x3) (y := v22) hX dX9_add_87 e25 ?_
    refine os_aload_n (r := x0) hX dX9_add_88 rfl rfl ?_
    obtain ⟨v26, e27, h⟩ := obn_e h
    refine ow_get (r := x0) hX dX9_add_89 oF_RX9_15 (ovr_e e27) ?_
    refine os_iload_n hX dX9_add_92 rfl rfl ?_
    refine os_aload_n (r := x0) hX dX9_add_93 rfl rfl ?_
    obtain ⟨v28, e29, h⟩ := obn_e h
    refine ow_get (r := x0) hX dX9_add_94 oF_RX9_15 (ovr_e e29) ?_
    refine os_aload_n (r := x0) hX dX9_add_97 rfl rfl ?_
    obtain ⟨v30, e31, h⟩ := obn_e h
    refine ow_get (r := x0) hX dX9_add_98 oF_RX9_19 (ovi_e e31) ?_
    obtain ⟨v32, e33, h⟩ := obn_e h
    refine ow_ai (r := v28) (i := v30) hX dX9_add_101 e33 ?_
    obtain ⟨s34, e35, h⟩ := obn_e h
    refine ow_si (r := v26) (i := x3) (x := v32) hX dX9_add_102 e35 ?_
    exact os_vret hX dX9_add_103 rfl (Option.some.inj h)
set_option maxHeartbeats 4000000 in
theorem qj_X9_add_31 {κ : oKv} {n : Nat} {call : oCl} {kc : Nat → List Value → oSt → Option Value × oSt → Prop} {v : Option Value × oSt} {X : Nat → zLv → List Value → oSt → Prop} (hX : oSem RX9 cX9_add 4 0 none κ kc v X) (hc : ∀ j av s w, call j av s = some w → kc j av s w) {x0 : Option Nat} {x1 : Option Nat} {x2 : Int32} {x3 : Int32} {σ : oSt} (h : oj_X9_add_31 n call κ x0 x1 x2 x3 σ = some v) : X 31 [some (va_rf x0), some (va_rf x1), some (.int x2), some (.int x3)] [] σ := by
  rw [oj_X9_add_31] at h
  refine os_iload_n hX dX9_add_31 rfl rfl ?_
  refine os_aload_n (r := x0) hX dX9_add_32 rfl rfl ?_
  obtain ⟨v1, e2, h⟩ := obn_e h
  refine ow_get (r := x0) hX dX9_add_33 oF_RX9_19 (ovi_e e2) ?_
  refine os_icmp_ne (tgt := 44) hX dX9_add_36 (by decide) (fun c3 => ?_) (fun c3 => ?_)
  · rw [if_neg c3] at h
    refine os_weak hX (lw := [some (va_rf x0), none, some (.int x2), some (.int x3)]) ⟨rfl, rfl, rfl, trivial⟩ ?_
    exact qj_X9_add_44 hX hc h
  · rw [if_pos c3] at h
    refine os_aload_n (r := x0) hX dX9_add_39 rfl rfl ?_
    refine os_aload_n (r := x1) hX dX9_add_40 rfl rfl ?_
    obtain ⟨a4, e5, h⟩ := obn_e h
    obtain ⟨s6, e7, h⟩ := ocv_e h
    refine oc_RX9_23 (rb := x0) (a1 := va_rf x1) hX dX9_add_41 (Nat.le_of_ble_eq_true rfl) e5 (hc _ _ _ _ e7) ?_
    refine os_weak hX (lw := [some (va_rf x0), none, some (.int x2), some (.int x3)]) ⟨rfl, rfl, rfl, trivial⟩ ?_
    exact qj_X9_add_44 hX hc h
set_option maxHeartbeats 4000000 in
theorem ql_X9_add_7 {κ : oKv} {n : Nat} {call : oCl} {kc : Nat → List Value → oSt → Option Value × oSt → Prop} {v : Option Value × oSt} {X : Nat → zLv → List Value → oSt → Prop} (hX : oSem RX9 cX9_add 4 0 none κ kc v X) (hc : ∀ j av s w, call j av s = some w → kc j av s w) : ∀ (f : Nat) (x0 : Option Nat) (x1 : Option Nat) (x2 : Int32) (x3 : Int32) (σ : oSt), ol_X9_add_7 n call κ f x0 x1 x2 x3 σ = some v → X 7 [some (va_rf x0), some (va_rf x1), some (.int x2), some (.int x3)] [] σ := by
  intro f
  induction f with
  | zero => intro x0 x1 x2 x3 σ h; cases h
  | succ f hk7 =>
    intro x0 x1 x2 x3 σ h
    rw [ol_X9_add_7] at h
    refine os_iload_n hX dX9_add_7 rfl rfl ?_
    refine os_aload_n (r := x0) hX dX9_add_8 rfl rfl ?_
    obtain ⟨v1, e2, h⟩ := obn_e h
    refine ow_get (r := x0) hX dX9_add_9 oF_RX9_19 (ovi_e e2) ?_
    refine os_icmp_ge (tgt := 31) hX dX9_add_12 (by decide) (fun c3 => ?_) (fun c3 => ?_)
    · rw [if_pos c3] at h
      exact qj_X9_add_31 hX hc h
    · rw [if_neg c3] at h
      refine os_aload_n (r := x0) hX dX9_add_15 rfl rfl ?_
      obtain ⟨v4, e5, h⟩ := obn_e h
      refine ow_get (r := x0) hX dX9_add_16 oF_RX9_9 (ovr_e e5) ?_
      refine os_iload_n hX dX9_add_19 rfl rfl ?_
      obtain ⟨v6, e7, h⟩ := obn_e h
      refine ow_ar (r := v4) (i := x3) hX dX9_add_20 e7 ?_
      refine os_aload_n (r := x1) hX dX9_add_21 rfl rfl ?_
      refine os_acmp_eq (rx := v6) (ry := x1) (tgt := 31) hX dX9_add_22 (by decide) (fun c8 => ?_) (fun c8 => ?_)
      · rw [if_pos c8] at h
        exact qj_X9_add_31 hX hc h
      · rw [if_neg c8] at h
        refine os_iinc (v := x3 + 1) hX dX9_add_25 rfl rfl (by decide) rfl ?_
        dsimp only [List.set]
        refine os_goto (tgt := 7) hX dX9_add_28 (by decide) ?_
        exact hk7 _ _ _ _ _ h
set_option maxHeartbeats 4000000 in
theorem qb_X9_add {κ : oKv} {n : Nat} {call : oCl} {kc : Nat → List Value → oSt → Option Value × oSt → Prop} {v : Option Value × oSt} {X : Nat → zLv → List Value → oSt → Prop} (hX : oSem RX9 cX9_add 4 0 none κ kc v X) (hc : ∀ j av s w, call j av s = some w → kc j av s w) {x0 : Option Nat} {x1 : Option Nat} {x2 : Int32} {σ : oSt} (h : ob_X9_add n call κ x0 x1 x2 σ = some v) : X 0 [some (va_rf x0), some (va_rf x1), some (.int x2), none] [] σ := by
  rw [ob_X9_add] at h
  refine os_aload_n (r := x1) hX dX9_add_0 rfl rfl ?_
  refine os_ifnonnull (r := x1) (tgt := 5) hX dX9_add_1 (by decide) (fun c1 => ?_) (fun c1 => ?_)
  · rw [if_neg c1] at h
    refine os_iconst (v := 0) hX dX9_add_5 (by decide) ?_
    refine os_istore_n hX dX9_add_6 rfl (by decide) rfl ?_
    dsimp only [List.set]
    exact ql_X9_add_7 hX hc n _ _ _ _ _ h
  · rw [if_pos c1] at h
    exact os_vret hX dX9_add_4 rfl (Option.some.inj h)
def oj_X9_of_20 (n : Nat) (call : oCl) (κ : oKv) (x1 : Int32) (x2 : Int64) (x4 : Option Nat) (t0 : Option Nat) (t1 : Option Nat) (σ : oSt) : oRs :=
  obn (oob σ t0 11) fun a1 =>
  ocv (call 10 [va_rf t0, va_rf t1, .int x1] σ) fun s3 =>
  obn (opf s3 x4 11 3 (.long x2)) fun s6 =>
  some (some (va_rf x4), s6)
def ob_X9_of (n : Nat) (call : oCl) (κ : oKv) (x0 : Option Nat) (x1 : Int32) (x2 : Int64) (σ : oSt) : oRs :=
  olet (onew σ (.inr (11, odef 11)) (oq 11).2.2) fun s1 =>
  obn ((some σ.2.1)) fun a3 =>
  ocv (call 8 [va_rf (some σ.2.1)] s1) fun s5 =>
  if x1 = 0 then
    oj_X9_of_20 n call κ x1 x2 (some σ.2.1) (some σ.2.1) none s5
  else
    oj_X9_of_20 n call κ x1 x2 (some σ.2.1) (some σ.2.1) x0 s5
set_option maxHeartbeats 4000000 in
theorem qj_X9_of_20 {κ : oKv} {n : Nat} {call : oCl} {kc : Nat → List Value → oSt → Option Value × oSt → Prop} {v : Option Value × oSt} {X : Nat → zLv → List Value → oSt → Prop} (hX : oSem RX9 cX9_of 5 1 (some (.object "LiquidTongue$Sum")) κ kc v X) (hc : ∀ j av s w, call j av s = some w → kc j av s w) {x1 : Int32} {x2 : Int64} {x4 : Option Nat} {t0 : Option Nat} {t1 : Option Nat} {σ : oSt} (h : oj_X9_of_20 n call κ x1 x2 x4 t0 t1 σ = some v) : X 20 [none, some (.int x1), some (.long x2), none, some (va_rf x4)] [va_rf t1, va_rf t0] σ := by
  rw [oj_X9_of_20] at h
  refine os_iload_n hX dX9_of_20 rfl rfl ?_
  obtain ⟨a1, e2, h⟩ := obn_e h
  obtain ⟨s3, e4, h⟩ := ocv_e h
  refine oc_RX9_39 (rb := t0) (a1 := va_rf t1) (a2 := .int x1) hX dX9_of_21 (Nat.le_of_ble_eq_true rfl) e2 (hc _ _ _ _ e4) ?_
  refine os_aload (r := x4) hX dX9_of_24 rfl ?_
  refine os_lload_n hX dX9_of_26 rfl rfl ?_
  obtain ⟨s6, e7, h⟩ := obn_e h
  refine ow_put (r := x4) (x := .long x2) hX dX9_of_27 oF_RX9_43 (by decide) (opn_J oT_11_3) e7 ?_
  refine os_aload (r := x4) hX dX9_of_30 rfl ?_
  exact os_aret (r := x4) hX dX9_of_32 rfl (Option.some.inj h)
set_option maxHeartbeats 4000000 in
theorem qb_X9_of {κ : oKv} {n : Nat} {call : oCl} {kc : Nat → List Value → oSt → Option Value × oSt → Prop} {v : Option Value × oSt} {X : Nat → zLv → List Value → oSt → Prop} (hX : oSem RX9 cX9_of 5 1 (some (.object "LiquidTongue$Sum")) κ kc v X) (hc : ∀ j av s w, call j av s = some w → kc j av s w) {x0 : Option Nat} {x1 : Int32} {x2 : Int64} {σ : oSt} (h : ob_X9_of n call κ x0 x1 x2 σ = some v) : X 0 [some (va_rf x0), some (.int x1), some (.long x2), none, none] [] σ := by
  rw [ob_X9_of] at h
  obtain ⟨s1, e2, h⟩ := olet_e h
  refine os_new hX dX9_of_0 oN_RX9_10 ?_
  rw [← e2]
  refine os_dup hX dX9_of_3 (ocat (some σ.2.1)) ?_
  obtain ⟨a3, e4, h⟩ := obn_e h
  obtain ⟨s5, e6, h⟩ := ocv_e h
  refine oc_RX9_47 (rb := (some σ.2.1))  hX dX9_of_4 (by simp only [List.map_cons, List.map_nil, List.sum_cons, List.sum_nil, ocat]; exact Nat.le_of_ble_eq_true rfl) e4 (hc _ _ _ _ e6) ?_
  refine os_astore (r := (some σ.2.1)) hX dX9_of_7 (by decide) rfl ?_
  dsimp only [List.set]
  refine os_aload (r := (some σ.2.1)) hX dX9_of_9 rfl ?_
  refine os_iload_n hX dX9_of_11 rfl rfl ?_
  refine os_if_ne (tgt := 19) hX dX9_of_12 (by decide) (fun c8 => ?_) (fun c8 => ?_)
  · rw [if_neg c8] at h
    refine os_aload_n (r := x0) hX dX9_of_19 rfl rfl ?_
    refine os_weak hX (lw := [none, some (.int x1), some (.long x2), none, some (va_rf (some σ.2.1))]) ⟨rfl, rfl, rfl, trivial⟩ ?_
    exact qj_X9_of_20 hX hc h
  · rw [if_pos c8] at h
    refine os_null hX dX9_of_15 ?_
    refine os_goto (tgt := 20) hX dX9_of_16 (by decide) ?_
    refine os_weak hX (lw := [none, some (.int x1), some (.long x2), none, some (va_rf (some σ.2.1))]) ⟨rfl, rfl, rfl, trivial⟩ ?_
    exact qj_X9_of_20 hX hc h
def oj_X0_fit_146 (n : Nat) (call : oCl) (κ : oKv) (x0 : Option Nat) (x4 : Option Nat) (x5 : Option Nat) (x6 : Option Nat) (σ : oSt) : oRs :=
  obn (ovi (ofd σ x5 4 0)) fun v1 =>
  if v1 = 202 then
    some (none, σ)
  else
    obn (ovr (ofd σ x5 4 1)) fun v4 =>
    obn (ovi (ofd σ v4 4 7)) fun v6 =>
    if v6 ≤ 0 then
      some (none, σ)
    else
      obn (ovr (ofd σ x0 2 3)) fun v9 =>
      obn (oob σ v9 1) fun a11 =>
      oin (call 227 [va_rf v9, va_rf x6] σ) fun r15 s13 =>
      obn (ovr (ofd s13 x0 2 4)) fun v16 =>
      obn (oob s13 v16 1) fun a18 =>
      oin (call 227 [va_rf v16, va_rf x4] s13) fun r22 s20 =>
      obn (ovr (ofd s20 x0 2 5)) fun v23 =>
      obn (oob s20 v23 1) fun a25 =>
      oin (call 227 [va_rf v23, va_rf x5] s20) fun r29 s27 =>
      some (none, s27)
def oj_X0_fit_122 (n : Nat) (call : oCl) (κ : oKv) (k12 : Option Nat → Option Nat → Option Nat → Option Nat → Int32 → oSt → oRs) (x0 : Option Nat) (x4 : Option Nat) (x5 : Option Nat) (x6 : Option Nat) (x7 : Int32) (x9 : Option Nat) (σ : oSt) : oRs :=
  obn (oob σ x4 4) fun a1 =>
  orn (call 4 [va_rf x4, va_rf x9] σ) fun r5 s3 =>
  obn (oob s3 x5 4) fun a6 =>
  orn (call 4 [va_rf x5, va_rf x9] s3) fun r10 s8 =>
  k12 x0 r5 r10 x6 (x7 + 1) s8
def ol_X0_fit_12 (n : Nat) (call : oCl) (κ : oKv) : Nat → Option Nat → Option Nat → Option Nat → Option Nat → Int32 → oSt → oRs
  | 0, _, _, _, _, _, _ => none
  | f + 1, x0, x4, x5, x6, x7, σ =>
    if 60 < x7 then
      oj_X0_fit_146 n call κ x0 x4 x5 x6 σ
    else
      obn (ovi (ofd σ x4 4 0)) fun v2 =>
      if v2 = 206 then
        obn (ovi (ofd σ x5 4 0)) fun v5 =>
        if v5 = 206 then
          obn (oob σ x5 4) fun a8 =>
          orn (call 5 [va_rf x5] σ) fun r12 s10 =>
          obn (oob s10 x4 4) fun a13 =>
          orn (call 5 [va_rf x4] s10) fun r17 s15 =>
          obn (oob s15 x0 2) fun a18 =>
          ocv (call 12 [va_rf x0, va_rf r12, va_rf r17, va_rf x6] s15) fun s20 =>
          obn (ovr (ofd s20 x5 4 1)) fun v23 =>
          obn (ovr (ofd s20 v23 4 2)) fun v25 =>
          obn (oob s20 v25 6) fun a27 =>
          oin (call 6 [va_rf v25] s20) fun r31 s29 =>
          if r31 = 0 then
            oj_X0_fit_122 n call κ (ol_X0_fit_12 n call κ f) x0 x4 x5 x6 x7 none s29
          else
            olet (onew s29 (.inr (6, odef 6)) (oq 6).2.2) fun s33 =>
            obn (ovi (ofd s33 r12 4 0)) fun v35 =>
            obn ((some s29.2.1)) fun a37 =>
            ocv (call 7 [va_rf (some s29.2.1), va_rf none, .int v35] s33) fun s39 =>
            obn (opf s39 (some s29.2.1) 6 4 (va_rf r12)) fun s42 =>
            olet (onew s42 (.inr (10, odef 10)) (oq 10).2.2) fun s44 =>
            obn ((some s42.2.1)) fun a46 =>
            ocv (call 2 [va_rf (some s42.2.1), va_rf (some s29.2.1), va_rf x6] s44) fun s48 =>
            orn (call 11 [va_rf (some s29.2.1), .int 1, .long 0] s48) fun r53 s51 =>
            oj_X0_fit_122 n call κ (ol_X0_fit_12 n call κ f) x0 x4 x5 (some s42.2.1) x7 r53 s51
        else
          oj_X0_fit_146 n call κ x0 x4 x5 x6 σ
      else
        oj_X0_fit_146 n call κ x0 x4 x5 x6 σ
def ob_X0_fit (n : Nat) (call : oCl) (κ : oKv) (x0 : Option Nat) (x1 : Option Nat) (x2 : Option Nat) (x3 : Option Nat) (σ : oSt) : oRs :=
  ol_X0_fit_12 n call κ n x0 x1 x2 x3 0 σ
set_option maxHeartbeats 4000000 in
theorem qj_X0_fit_146 {κ : oKv} {n : Nat} {call : oCl} {kc : Nat → List Value → oSt → Option Value × oSt → Prop} {v : Option Value × oSt} {X : Nat → zLv → List Value → oSt → Prop} (hX : oSem RX0 cX0_fit 11 0 none κ kc v X) (hc : ∀ j av s w, call j av s = some w → kc j av s w) {x0 : Option Nat} {x4 : Option Nat} {x5 : Option Nat} {x6 : Option Nat} {σ : oSt} (h : oj_X0_fit_146 n call κ x0 x4 x5 x6 σ = some v) : X 146 [some (va_rf x0), none, none, none, some (va_rf x4), some (va_rf x5), some (va_rf x6), none, none, none, none] [] σ := by
  rw [oj_X0_fit_146] at h
  refine os_aload (r := x5) hX dX0_fit_146 rfl ?_
  obtain ⟨v1, e2, h⟩ := obn_e h
  refine ow_get (r := x5) hX dX0_fit_148 oF_RX0_257 (ovi_e e2) ?_
  refine os_sipush (v := 202) hX dX0_fit_151 (by decide) ?_
  refine os_icmp_eq (tgt := 198) hX dX0_fit_154 (by decide) (fun c3 => ?_) (fun c3 => ?_)
  · rw [if_pos c3] at h
    exact os_vret hX dX0_fit_198 rfl (Option.some.inj h)
  · rw [if_neg c3] at h
    refine os_aload (r := x5) hX dX0_fit_157 rfl ?_
    obtain ⟨v4, e5, h⟩ := obn_e h
    refine ow_get (r := x5) hX dX0_fit_159 oF_RX0_109 (ovr_e e5) ?_
    obtain ⟨v6, e7, h⟩ := obn_e h
    refine ow_get (r := v4) hX dX0_fit_162 oF_RX0_112 (ovi_e e7) ?_
    refine os_if_le (tgt := 198) hX dX0_fit_165 (by decide) (fun c8 => ?_) (fun c8 => ?_)
    · rw [if_pos c8] at h
      exact os_vret hX dX0_fit_198 rfl (Option.some.inj h)
    · rw [if_neg c8] at h
      refine os_aload_n (r := x0) hX dX0_fit_168 rfl rfl ?_
      obtain ⟨v9, e10, h⟩ := obn_e h
      refine ow_get (r := x0) hX dX0_fit_169 oF_RX0_12 (ovr_e e10) ?_
      refine os_aload (r := x6) hX dX0_fit_172 rfl ?_
      obtain ⟨a11, e12, h⟩ := obn_e h
      obtain ⟨r15, s13, e14, h⟩ := oin_e h
      refine oc_RX0_139 (rb := v9) (a1 := va_rf x6) hX dX0_fit_174 (Nat.le_of_ble_eq_true rfl) e12 (hc _ _ _ _ e14) ?_
      refine os_pop hX dX0_fit_177 rfl ?_
      refine os_aload_n (r := x0) hX dX0_fit_178 rfl rfl ?_
      obtain ⟨v16, e17, h⟩ := obn_e h
      refine ow_get (r := x0) hX dX0_fit_179 oF_RX0_18 (ovr_e e17) ?_
      refine os_aload (r := x4) hX dX0_fit_182 rfl ?_
      obtain ⟨a18, e19, h⟩ := obn_e h
      obtain ⟨r22, s20, e21, h⟩ := oin_e h
      refine oc_RX0_139 (rb := v16) (a1 := va_rf x4) hX dX0_fit_184 (Nat.le_of_ble_eq_true rfl) e19 (hc _ _ _ _ e21) ?_
      refine os_pop hX dX0_fit_187 rfl ?_
      refine os_aload_n (r := x0) hX dX0_fit_188 rfl rfl ?_
      obtain ⟨v23, e24, h⟩ := obn_e h
      refine ow_get (r := x0) hX dX0_fit_189 oF_RX0_21 (ovr_e e24) ?_
      refine os_aload (r := x5) hX dX0_fit_192 rfl ?_
      obtain ⟨a25, e26, h⟩ := obn_e h
      obtain ⟨r29, s27, e28, h⟩ := oin_e h
      refine oc_RX0_139 (rb := v23) (a1 := va_rf x5) hX dX0_fit_194 (Nat.le_of_ble_eq_true rfl) e26 (hc _ _ _ _ e28) ?_
      refine os_pop hX dX0_fit_197 rfl ?_
      exact os_vret hX dX0_fit_198 rfl (Option.some.inj h)
set_option maxHeartbeats 4000000 in
theorem qj_X0_fit_122 {κ : oKv} {n : Nat} {call : oCl} {kc : Nat → List Value → oSt → Option Value × oSt → Prop} {v : Option Value × oSt} {X : Nat → zLv → List Value → oSt → Prop} (hX : oSem RX0 cX0_fit 11 0 none κ kc v X) (hc : ∀ j av s w, call j av s = some w → kc j av s w) {k12 : Option Nat → Option Nat → Option Nat → Option Nat → Int32 → oSt → oRs} (hk12 : ∀ (x0 : Option Nat) (x4 : Option Nat) (x5 : Option Nat) (x6 : Option Nat) (x7 : Int32) (s : oSt), k12 x0 x4 x5 x6 x7 s = some v → X 12 [some (va_rf x0), none, none, none, some (va_rf x4), some (va_rf x5), some (va_rf x6), some (.int x7), none, none, none] [] s) {x0 : Option Nat} {x4 : Option Nat} {x5 : Option Nat} {x6 : Option Nat} {x7 : Int32} {x9 : Option Nat} {σ : oSt} (h : oj_X0_fit_122 n call κ k12 x0 x4 x5 x6 x7 x9 σ = some v) : X 122 [some (va_rf x0), none, none, none, some (va_rf x4), some (va_rf x5), some (va_rf x6), some (.int x7), none, some (va_rf x9), none] [] σ := by
  rw [oj_X0_fit_122] at h
  refine os_aload (r := x4) hX dX0_fit_122 rfl ?_
  refine os_aload (r := x9) hX dX0_fit_124 rfl ?_
  obtain ⟨a1, e2, h⟩ := obn_e h
  obtain ⟨r5, s3, e4, h⟩ := orn_e h
  refine oc_RX0_248 (rb := x4) (a1 := va_rf x9) hX dX0_fit_126 (Nat.le_of_ble_eq_true rfl) e2 (hc _ _ _ _ e4) ?_
  refine os_astore (r := r5) hX dX0_fit_129 (by decide) rfl ?_
  dsimp only [List.set]
  refine os_aload (r := x5) hX dX0_fit_131 rfl ?_
  refine os_aload (r := x9) hX dX0_fit_133 rfl ?_
  obtain ⟨a6, e7, h⟩ := obn_e h
  obtain ⟨r10, s8, e9, h⟩ := orn_e h
  refine oc_RX0_248 (rb := x5) (a1 := va_rf x9) hX dX0_fit_135 (Nat.le_of_ble_eq_true rfl) e7 (hc _ _ _ _ e9) ?_
  refine os_astore (r := r10) hX dX0_fit_138 (by decide) (ozlo (i := 4) (r := r5) rfl) ?_
  dsimp only [List.set]
  refine os_iinc (v := x7 + 1) hX dX0_fit_140 rfl rfl (by decide) (ozlo (i := 6) (r := x6) rfl) ?_
  dsimp only [List.set]
  refine os_goto (tgt := 12) hX dX0_fit_143 (by decide) ?_
  refine os_weak hX (lw := [some (va_rf x0), none, none, none, some (va_rf r5), some (va_rf r10), some (va_rf x6), some (.int (x7 + 1)), none, none, none]) ⟨rfl, rfl, rfl, rfl, rfl, trivial⟩ ?_
  exact hk12 _ _ _ _ _ _ h
set_option maxHeartbeats 4000000 in
theorem ql_X0_fit_12 {κ : oKv} {n : Nat} {call : oCl} {kc : Nat → List Value → oSt → Option Value × oSt → Prop} {v : Option Value × oSt} {X : Nat → zLv → List Value → oSt → Prop} (hX : oSem RX0 cX0_fit 11 0 none κ kc v X) (hc : ∀ j av s w, call j av s = some w → kc j av s w) : ∀ (f : Nat) (x0 : Option Nat) (x4 : Option Nat) (x5 : Option Nat) (x6 : Option Nat) (x7 : Int32) (σ : oSt), ol_X0_fit_12 n call κ f x0 x4 x5 x6 x7 σ = some v → X 12 [some (va_rf x0), none, none, none, some (va_rf x4), some (va_rf x5), some (va_rf x6), some (.int x7), none, none, none] [] σ := by
  intro f
  induction f with
  | zero => intro x0 x4 x5 x6 x7 σ h; cases h
  | succ f hk12 =>
    intro x0 x4 x5 x6 x7 σ h
    rw [ol_X0_fit_12] at h
    refine os_iload hX dX0_fit_12 rfl ?_
    refine os_bipush (v := 60) hX dX0_fit_14 (by decide) ?_
    refine os_icmp_gt (tgt := 146) hX dX0_fit_16 (by decide) (fun c1 => ?_) (fun c1 => ?_)
    · rw [if_pos c1] at h
      refine os_weak hX (lw := [some (va_rf x0), none, none, none, some (va_rf x4), some (va_rf x5), some (va_rf x6), none, none, none, none]) ⟨rfl, rfl, rfl, rfl, trivial⟩ ?_
      exact qj_X0_fit_146 hX hc h
    · rw [if_neg c1] at h
      refine os_aload (r := x4) hX dX0_fit_19 rfl ?_
      obtain ⟨v2, e3, h⟩ := obn_e h
      refine ow_get (r := x4) hX dX0_fit_21 oF_RX0_257 (ovi_e e3) ?_
      refine os_sipush (v := 206) hX dX0_fit_24 (by decide) ?_
      refine os_icmp_ne (tgt := 146) hX dX0_fit_27 (by decide) (fun c4 => ?_) (fun c4 => ?_)
      · rw [if_neg c4] at h
        refine os_weak hX (lw := [some (va_rf x0), none, none, none, some (va_rf x4), some (va_rf x5), some (va_rf x6), none, none, none, none]) ⟨rfl, rfl, rfl, rfl, trivial⟩ ?_
        exact qj_X0_fit_146 hX hc h
      · rw [if_pos c4] at h
        refine os_aload (r := x5) hX dX0_fit_30 rfl ?_
        obtain ⟨v5, e6, h⟩ := obn_e h
        refine ow_get (r := x5) hX dX0_fit_32 oF_RX0_257 (ovi_e e6) ?_
        refine os_sipush (v := 206) hX dX0_fit_35 (by decide) ?_
        refine os_icmp_ne (tgt := 146) hX dX0_fit_38 (by decide) (fun c7 => ?_) (fun c7 => ?_)
        · rw [if_neg c7] at h
          refine os_weak hX (lw := [some (va_rf x0), none, none, none, some (va_rf x4), some (va_rf x5), some (va_rf x6), none, none, none, none]) ⟨rfl, rfl, rfl, rfl, trivial⟩ ?_
          exact qj_X0_fit_146 hX hc h
        · rw [if_pos c7] at h
          refine os_aload (r := x5) hX dX0_fit_41 rfl ?_
          obtain ⟨a8, e9, h⟩ := obn_e h
          obtain ⟨r12, s10, e11, h⟩ := orn_e h
          refine oc_RX0_258 (rb := x5)  hX dX0_fit_43 (Nat.le_of_ble_eq_true rfl) e9 (hc _ _ _ _ e11) ?_
          refine os_astore (r := r12) hX dX0_fit_46 (by decide) rfl ?_
          dsimp only [List.set]
          refine os_aload_n (r := x0) hX dX0_fit_48 rfl rfl ?_
          refine os_aload (r := r12) hX dX0_fit_49 rfl ?_
          refine os_aload (r := x4) hX dX0_fit_51 rfl ?_
          obtain ⟨a13, e14, h⟩ := obn_e h
          obtain ⟨r17, s15, e16, h⟩ := orn_e h
          refine oc_RX0_258 (rb := x4)  hX dX0_fit_53 (by simp only [List.map_cons, List.map_nil, List.sum_cons, List.sum_nil, ocat]; exact Nat.le_of_ble_eq_true rfl) e14 (hc _ _ _ _ e16) ?_
          refine os_aload (r := x6) hX dX0_fit_56 rfl ?_
          obtain ⟨a18, e19, h⟩ := obn_e h
          obtain ⟨s20, e21, h⟩ := ocv_e h
          refine oc_RX0_236 (rb := x0) (a1 := va_rf r12) (a2 := va_rf r17) (a3 := va_rf x6) hX dX0_fit_58 (Nat.le_of_ble_eq_true rfl) e19 (hc _ _ _ _ e21) ?_
          refine os_null hX dX0_fit_61 ?_
          refine os_astore (r := none) hX dX0_fit_62 (by decide) (ozlo (i := 8) (r := r12) rfl) ?_
          dsimp only [List.set]
          refine os_aload (r := x5) hX dX0_fit_64 rfl ?_
          obtain ⟨v23, e24, h⟩ := obn_e h
          refine ow_get (r := x5) hX dX0_fit_66 oF_RX0_109 (ovr_e e24) ?_
          obtain ⟨v25, e26, h⟩ := obn_e h
          refine ow_get (r := v23) hX dX0_fit_69 oF_RX0_262 (ovr_e e26) ?_
          obtain ⟨a27, e28, h⟩ := obn_e h
          obtain ⟨r31, s29, e30, h⟩ := oin_e h
          refine oc_RX0_208 (rb := v25)  hX dX0_fit_72 (Nat.le_of_ble_eq_true rfl) e28 (hc _ _ _ _ e30) ?_
          refine os_if_eq (tgt := 122) hX dX0_fit_75 (by decide) (fun c32 => ?_) (fun c32 => ?_)
          · rw [if_pos c32] at h
            refine os_weak hX (lw := [some (va_rf x0), none, none, none, some (va_rf x4), some (va_rf x5), some (va_rf x6), some (.int x7), none, some (va_rf none), none]) ⟨rfl, rfl, rfl, rfl, rfl, rfl, trivial⟩ ?_
            exact qj_X0_fit_122 hX hc hk12 h
          · rw [if_neg c32] at h
            obtain ⟨s33, e34, h⟩ := olet_e h
            refine os_new hX dX0_fit_78 oN_RX0_27 ?_
            rw [← e34]
            refine os_dup hX dX0_fit_81 (ocat (some s29.2.1)) ?_
            refine os_null hX dX0_fit_82 ?_
            refine os_aload (r := r12) hX dX0_fit_83 rfl ?_
            obtain ⟨v35, e36, h⟩ := obn_e h
            refine ow_get (r := r12) hX dX0_fit_85 oF_RX0_257 (ovi_e e36) ?_
            obtain ⟨a37, e38, h⟩ := obn_e h
            obtain ⟨s39, e40, h⟩ := ocv_e h
            refine oc_RX0_265 (rb := (some s29.2.1)) (a1 := va_rf none) (a2 := .int v35) hX dX0_fit_88 (by simp only [List.map_cons, List.map_nil, List.sum_cons, List.sum_nil, ocat]; exact Nat.le_of_ble_eq_true rfl) e38 (hc _ _ _ _ e40) ?_
            refine os_astore (r := (some s29.2.1)) hX dX0_fit_91 (by decide) (ozlo (i := 9) (r := none) rfl) ?_
            dsimp only [List.set]
            refine os_aload (r := (some s29.2.1)) hX dX0_fit_93 rfl ?_
            refine os_aload (r := r12) hX dX0_fit_95 rfl ?_
            obtain ⟨s42, e43, h⟩ := obn_e h
            refine ow_put (r := (some s29.2.1)) (x := va_rf r12) hX dX0_fit_97 oF_RX0_69 (by decide) (orf_n (Or.inl ⟨_, oT_6_4⟩) r12) e43 ?_
            obtain ⟨s44, e45, h⟩ := olet_e h
            refine os_new hX dX0_fit_100 oN_RX0_73 ?_
            rw [← e45]
            refine os_dup hX dX0_fit_103 (ocat (some s42.2.1)) ?_
            refine os_aload (r := (some s29.2.1)) hX dX0_fit_104 rfl ?_
            refine os_aload (r := x6) hX dX0_fit_106 rfl ?_
            obtain ⟨a46, e47, h⟩ := obn_e h
            obtain ⟨s48, e49, h⟩ := ocv_e h
            refine oc_RX0_75 (rb := (some s42.2.1)) (a1 := va_rf (some s29.2.1)) (a2 := va_rf x6) hX dX0_fit_108 (by simp only [List.map_cons, List.map_nil, List.sum_cons, List.sum_nil, ocat]; exact Nat.le_of_ble_eq_true rfl) e47 (hc _ _ _ _ e49) ?_
            refine os_astore (r := (some s42.2.1)) hX dX0_fit_111 (by decide) (ozlo (i := 5) (r := x5) rfl) ?_
            dsimp only [List.set]
            refine os_aload (r := (some s29.2.1)) hX dX0_fit_113 rfl ?_
            refine os_iconst (v := 1) hX dX0_fit_115 (by decide) ?_
            refine os_lconst (v := 0) hX dX0_fit_116 (by decide) ?_
            obtain ⟨r53, s51, e52, h⟩ := orn_e h
            refine oc_RX0_192 (a1 := va_rf (some s29.2.1)) (a2 := .int 1) (a3 := .long 0) hX dX0_fit_117 (Nat.le_of_ble_eq_true rfl) (hc _ _ _ _ e52) ?_
            refine os_astore (r := r53) hX dX0_fit_120 (by decide) (ozlo (i := 8) (r := r12) rfl) ?_
            dsimp only [List.set]
            refine os_weak hX (lw := [some (va_rf x0), none, none, none, some (va_rf x4), some (va_rf x5), some (va_rf (some s42.2.1)), some (.int x7), none, some (va_rf r53), none]) ⟨rfl, rfl, rfl, rfl, rfl, rfl, trivial⟩ ?_
            exact qj_X0_fit_122 hX hc hk12 h
set_option maxHeartbeats 4000000 in
theorem qb_X0_fit {κ : oKv} {n : Nat} {call : oCl} {kc : Nat → List Value → oSt → Option Value × oSt → Prop} {v : Option Value × oSt} {X : Nat → zLv → List Value → oSt → Prop} (hX : oSem RX0 cX0_fit 11 0 none κ kc v X) (hc : ∀ j av s w, call j av s = some w → kc j av s w) {x0 : Option Nat} {x1 : Option Nat} {x2 : Option Nat} {x3 : Option Nat} {σ : oSt} (h : ob_X0_fit n call κ x0 x1 x2 x3 σ = some v) : X 0 [some (va_rf x0), some (va_rf x1), some (va_rf x2), some (va_rf x3), none, none, none, none, none, none, none] [] σ := by
  rw [ob_X0_fit] at h
  refine os_aload_n (r := x1) hX dX0_fit_0 rfl rfl ?_
  refine os_astore (r := x1) hX dX0_fit_1 (by decide) (ozlo (i := 3) (r := x3) rfl) ?_
  dsimp only [List.set]
  refine os_aload_n (r := x2) hX dX0_fit_3 rfl rfl ?_
  refine os_astore (r := x2) hX dX0_fit_4 (by decide) (ozlo (i := 4) (r := x1) rfl) ?_
  dsimp only [List.set]
  refine os_aload_n (r := x3) hX dX0_fit_6 rfl rfl ?_
  refine os_astore (r := x3) hX dX0_fit_7 (by decide) (ozlo (i := 5) (r := x2) rfl) ?_
  dsimp only [List.set]
  refine os_iconst (v := 0) hX dX0_fit_9 (by decide) ?_
  refine os_istore hX dX0_fit_10 (by decide) (ozlo (i := 6) (r := x3) rfl) ?_
  dsimp only [List.set]
  refine os_weak hX (lw := [some (va_rf x0), none, none, none, some (va_rf x1), some (va_rf x2), some (va_rf x3), some (.int 0), none, none, none]) ⟨rfl, rfl, rfl, rfl, rfl, trivial⟩ ?_
  exact ql_X0_fit_12 hX hc n _ _ _ _ _ _ h
def ob_X8_init_ (n : Nat) (call : oCl) (κ : oKv) (x0 : Option Nat) (x1 : Option Nat) (x2 : Int32) (x3 : Option Nat) (σ : oSt) : oRs :=
  obn (x0) fun a1 =>
  obn (opf σ x0 10 0 (va_rf none)) fun s3 =>
  obn (opf s3 x0 10 1 (va_rf x1)) fun s5 =>
  ogd (zbo x2) (
  obn (opf s5 x0 10 2 (.int x2)) fun s8 =>
  obn (opf s8 x0 10 3 (va_rf x3)) fun s10 =>
  some (none, s10))
set_option maxHeartbeats 4000000 in
theorem qb_X8_init_ {κ : oKv} {n : Nat} {call : oCl} {kc : Nat → List Value → oSt → Option Value × oSt → Prop} {v : Option Value × oSt} {X : Nat → zLv → List Value → oSt → Prop} (hX : oSem RX8 cX8_init_ 4 2 none κ kc v X) (hc : ∀ j av s w, call j av s = some w → kc j av s w) {x0 : Option Nat} {x1 : Option Nat} {x2 : Int32} {x3 : Option Nat} {σ : oSt} (h : ob_X8_init_ n call κ x0 x1 x2 x3 σ = some v) : X 0 [some (va_rf x0), some (va_rf x1), some (.int x2), some (va_rf x3)] [] σ := by
  rw [ob_X8_init_] at h
  refine os_aload_n (r := x0) hX dX8_init__0 rfl rfl ?_
  obtain ⟨a1, e2, h⟩ := obn_e h
  refine ow_oI (r := x0) hX dX8_init__1 oI_RX8_1 (Nat.le_of_ble_eq_true rfl) e2 ?_
  refine os_aload_n (r := x0) hX dX8_init__4 rfl rfl ?_
  refine os_null hX dX8_init__5 ?_
  obtain ⟨s3, e4, h⟩ := obn_e h
  refine ow_putF (r := x0) (x := va_rf none) hX dX8_init__6 oF_RX8_7 (by decide) rfl rfl (orf_n (Or.inl ⟨_, oT_10_0⟩) none) e4 ?_
  refine os_aload_n (r := x0) hX dX8_init__9 rfl rfl ?_
  refine os_aload_n (r := x1) hX dX8_init__10 rfl rfl ?_
  obtain ⟨s5, e6, h⟩ := obn_e h
  refine ow_putF (r := x0) (x := va_rf x1) hX dX8_init__11 oF_RX8_13 (by decide) rfl rfl (orf_n (Or.inl ⟨_, oT_10_1⟩) x1) e6 ?_
  refine os_aload_n (r := x0) hX dX8_init__14 rfl rfl ?_
  refine os_iload_n hX dX8_init__15 rfl rfl ?_
  obtain ⟨b7, h⟩ := ogd_e h
  obtain ⟨s8, e9, h⟩ := obn_e h
  refine ow_putF (r := x0) (x := .int x2) hX dX8_init__16 oF_RX8_17 (by decide) rfl rfl (opn_Z oT_10_2 b7) e9 ?_
  refine os_aload_n (r := x0) hX dX8_init__19 rfl rfl ?_
  refine os_aload_n (r := x3) hX dX8_init__20 rfl rfl ?_
  obtain ⟨s10, e11, h⟩ := obn_e h
  refine ow_putF (r := x0) (x := va_rf x3) hX dX8_init__21 oF_RX8_21 (by decide) rfl rfl (orf_n (Or.inl ⟨_, oT_10_3⟩) x3) e11 ?_
  exact os_vret hX dX8_init__24 rfl (Option.some.inj h)
def oj_X9_isTerm_28 (n : Nat) (call : oCl) (κ : oKv) (σ : oSt) : oRs :=
  some (some (.int 1), σ)
def ob_X9_isTerm (n : Nat) (call : oCl) (κ : oKv) (x0 : Option Nat) (σ : oSt) : oRs :=
  obn (ovi (ofd σ x0 11 2)) fun v1 =>
  if v1 = 0 then
    oj_X9_isTerm_28 n call κ σ
  else
    obn (ovi (ofd σ x0 11 2)) fun v4 =>
    if v4 = 1 then
      obn (ovr (ofd σ x0 11 1)) fun v7 =>
      obn (oai σ v7 .int 0) fun v9 =>
      if ((if 0 ≤ v9 then v9 else 0 - v9)) = 1 then
        oj_X9_isTerm_28 n call κ σ
      else
        some (some (.int 0), σ)
    else
      some (some (.int 0), σ)
set_option maxHeartbeats 4000000 in
theorem qj_X9_isTerm_28 {κ : oKv} {n : Nat} {call : oCl} {kc : Nat → List Value → oSt → Option Value × oSt → Prop} {v : Option Value × oSt} {X : Nat → zLv → List Value → oSt → Prop} (hX : oSem RX9 cX9_isTerm 1 0 (some .boolean) κ kc v X) (hc : ∀ j av s w, call j av s = some w → kc j av s w) {σ : oSt} (h : oj_X9_isTerm_28 n call κ σ = some v) : X 28 [none] [] σ := by
  rw [oj_X9_isTerm_28] at h
  refine os_iconst (v := 1) hX dX9_isTerm_28 (by decide) ?_
  refine os_goto (tgt := 33) hX dX9_isTerm_29 (by decide) ?_
  exact os_nret (ty := .boolean) hX dX9_isTerm_33 rfl rfl (by decide) (Option.some.inj h)
set_option maxHeartbeats 4000000 in
theorem qb_X9_isTerm {κ : oKv} {n : Nat} {call : oCl} {kc : Nat → List Value → oSt → Option Value × oSt → Prop} {v : Option Value × oSt} {X : Nat → zLv → List Value → oSt → Prop} (hX : oSem RX9 cX9_isTerm 1 0 (some .boolean) κ kc v X) (hc : ∀ j av s w, call j av s = some w → kc j av s w) {x0 : Option Nat} {σ : oSt} (h : ob_X9_isTerm n call κ x0 σ = some v) : X 0 [some (va_rf x0)] [] σ := by
  rw [ob_X9_isTerm] at h
  refine os_aload_n (r := x0) hX dX9_isTerm_0 rfl rfl ?_
  obtain ⟨v1, e2, h⟩ := obn_e h
  refine ow_get (r := x0) hX dX9_isTerm_1 oF_RX9_19 (ovi_e e2) ?_
  refine os_if_eq (tgt := 28) hX dX9_isTerm_4 (by decide) (fun c3 => ?_) (fun c3 => ?_)
  · rw [if_pos c3] at h
    refine os_weak hX (lw := [none]) trivial ?_
    exact qj_X9_isTerm_28 hX hc h
  · rw [if_neg c3] at h
    refine os_aload_n (r := x0) hX dX9_isTerm_7 rfl rfl ?_
    obtain ⟨v4, e5, h⟩ := obn_e h
    refine ow_get (r := x0) hX dX9_isTerm_8 oF_RX9_19 (ovi_e e5) ?_
    refine os_iconst (v := 1) hX dX9_isTerm_11 (by decide) ?_
    refine os_icmp_ne (tgt := 32) hX dX9_isTerm_12 (by decide) (fun c6 => ?_) (fun c6 => ?_)
    · rw [if_neg c6] at h
      refine os_iconst (v := 0) hX dX9_isTerm_32 (by decide) ?_
      exact os_nret (ty := .boolean) hX dX9_isTerm_33 rfl rfl (by decide) (Option.some.inj h)
    · rw [if_pos c6] at h
      refine os_aload_n (r := x0) hX dX9_isTerm_15 rfl rfl ?_
      obtain ⟨v7, e8, h⟩ := obn_e h
      refine ow_get (r := x0) hX dX9_isTerm_16 oF_RX9_15 (ovr_e e8) ?_
      refine os_iconst (v := 0) hX dX9_isTerm_19 (by decide) ?_
      obtain ⟨v9, e10, h⟩ := obn_e h
      refine ow_ai (r := v7) (i := 0) hX dX9_isTerm_20 e10 ?_
      refine os_mabs hX dX9_isTerm_21 omabs_RX9_48 (Nat.le_of_ble_eq_true rfl) ?_
      refine os_iconst (v := 1) hX dX9_isTerm_24 (by decide) ?_
      refine os_icmp_ne (tgt := 32) hX dX9_isTerm_25 (by decide) (fun c11 => ?_) (fun c11 => ?_)
      · rw [if_neg c11] at h
        refine os_iconst (v := 0) hX dX9_isTerm_32 (by decide) ?_
        exact os_nret (ty := .boolean) hX dX9_isTerm_33 rfl rfl (by decide) (Option.some.inj h)
      · rw [if_pos c11] at h
        refine os_weak hX (lw := [none]) trivial ?_
        exact qj_X9_isTerm_28 hX hc h
def ob_X2_makeRoom (n : Nat) (call : oCl) (κ : oKv) (x0 : Option Nat) (x1 : Int32) (σ : oSt) : oRs :=
  ogd (onn x1) (
  olet (onew σ (.inl (.int, x1.toNatClampNeg, .inl (fun _ => 0))) x1.toNatClampNeg) fun s1 =>
  obn (opf s1 x0 4 5 (va_rf (some σ.2.1))) fun s4 =>
  ogd (onn x1) (
  olet (onew s4 (.inl (.object (oq 11).1, x1.toNatClampNeg, .inr (.inr (.inr (.inr (fun _ => none)))))) x1.toNatClampNeg) fun s6 =>
  obn (opf s6 x0 4 6 (va_rf (some s4.2.1))) fun s9 =>
  some (none, s9)))
set_option maxHeartbeats 4000000 in
theorem qb_X2_makeRoom {κ : oKv} {n : Nat} {call : oCl} {kc : Nat → List Value → oSt → Option Value × oSt → Prop} {v : Option Value × oSt} {X : Nat → zLv → List Value → oSt → Prop} (hX : oSem RX2 cX2_makeRoom 2 0 none κ kc v X) (hc : ∀ j av s w, call j av s = some w → kc j av s w) {x0 : Option Nat} {x1 : Int32} {σ : oSt} (h : ob_X2_makeRoom n call κ x0 x1 σ = some v) : X 0 [some (va_rf x0), some (.int x1)] [] σ := by
  rw [ob_X2_makeRoom] at h
  refine os_aload_n (r := x0) hX dX2_makeRoom_0 rfl rfl ?_
  refine os_iload_n hX dX2_makeRoom_1 rfl rfl ?_
  obtain ⟨b3, h⟩ := ogd_e h
  obtain ⟨s1, e2, h⟩ := olet_e h
  refine os_newI hX dX2_makeRoom_2 (onn_e b3).1 (onn_e b3).2 ?_
  rw [← e2]
  obtain ⟨s4, e5, h⟩ := obn_e h
  refine ow_put (r := x0) (x := va_rf (some σ.2.1)) hX dX2_makeRoom_4 oF_RX2_41 (by decide) (orf_n (Or.inr ⟨_, oT_4_5⟩) (some σ.2.1)) e5 ?_
  refine os_aload_n (r := x0) hX dX2_makeRoom_7 rfl rfl ?_
  refine os_iload_n hX dX2_makeRoom_8 rfl rfl ?_
  obtain ⟨b8, h⟩ := ogd_e h
  obtain ⟨s6, e7, h⟩ := olet_e h
  refine os_newq hX dX2_makeRoom_9 oA_RX2_29 (onn_e b8).1 (onn_e b8).2 ?_
  rw [← e7]
  obtain ⟨s9, e10, h⟩ := obn_e h
  refine ow_put (r := x0) (x := va_rf (some s4.2.1)) hX dX2_makeRoom_12 oF_RX2_45 (by decide) (orf_n (Or.inr ⟨_, oT_4_6⟩) (some s4.2.1)) e10 ?_
  exact os_vret hX dX2_makeRoom_15 rfl (Option.some.inj h)
def ob_X2_say (n : Nat) (call : oCl) (κ : oKv) (x0 : Option Nat) (x1 : Int32) (x2 : Option Nat) (σ : oSt) : oRs :=
  obn (ovr (ofd σ x0 4 5)) fun v1 =>
  if v1 = none then
    some (none, σ)
  else
    obn (ovi (ofd σ x0 4 7)) fun v4 =>
    obn (ovr (ofd σ x0 4 5)) fun v6 =>
    obn (oln2 κ σ v6) fun v8 =>
    if v8 ≤ v4 then
      some (none, σ)
    else
      obn (ovr (ofd σ x0 4 5)) fun v11 =>
      obn (ovi (ofd σ x0 4 7)) fun v13 =>
      obn (osi σ v11 .int v13 x1) fun s15 =>
      obn (ovr (ofd s15 x0 4 6)) fun v17 =>
      obn (ovi (ofd s15 x0 4 7)) fun v19 =>
      obn (osr s15 v17 v19 x2) fun s21 =>
      obn (ovi (ofd s21 x0 4 7)) fun v23 =>
      obn (opf s21 x0 4 7 (.int (v23 + 1))) fun s25 =>
      some (none, s25)
set_option maxHeartbeats 4000000 in
theorem qb_X2_say {κ : oKv} {n : Nat} {call : oCl} {kc : Nat → List Value → oSt → Option Value × oSt → Prop} {v : Option Value × oSt} {X : Nat → zLv → List Value → oSt → Prop} (hX : oSem RX2 cX2_say 3 0 none κ kc v X) (hc : ∀ j av s w, call j av s = some w → kc j av s w) {x0 : Option Nat} {x1 : Int32} {x2 : Option Nat} {σ : oSt} (h : ob_X2_say n call κ x0 x1 x2 σ = some v) : X 0 [some (va_rf x0), some (.int x1), some (va_rf x2)] [] σ := by
  rw [ob_X2_say] at h
  refine os_aload_n (r := x0) hX dX2_say_0 rfl rfl ?_
  obtain ⟨v1, e2, h⟩ := obn_e h
  refine ow_get (r := x0) hX dX2_say_1 oF_RX2_41 (ovr_e e2) ?_
  refine os_ifnull (r := v1) (tgt := 49) hX dX2_say_4 (by decide) (fun c3 => ?_) (fun c3 => ?_)
  · rw [if_pos c3] at h
    exact os_vret hX dX2_say_49 rfl (Option.some.inj h)
  · rw [if_neg c3] at h
    refine os_aload_n (r := x0) hX dX2_say_7 rfl rfl ?_
    obtain ⟨v4, e5, h⟩ := obn_e h
    refine ow_get (r := x0) hX dX2_say_8 oF_RX2_48 (ovi_e e5) ?_
    refine os_aload_n (r := x0) hX dX2_say_11 rfl rfl ?_
    obtain ⟨v6, e7, h⟩ := obn_e h
    refine ow_get (r := x0) hX dX2_say_12 oF_RX2_41 (ovr_e e7) ?_
    obtain ⟨v8, e9, h⟩ := obn_e h
    refine ow_len (r := v6) hX dX2_say_15 e9 ?_
    refine os_icmp_ge (tgt := 49) hX dX2_say_16 (by decide) (fun c10 => ?_) (fun c10 => ?_)
    · rw [if_pos c10] at h
      exact os_vret hX dX2_say_49 rfl (Option.some.inj h)
    · rw [if_neg c10] at h
      refine os_aload_n (r := x0) hX dX2_say_19 rfl rfl ?_
      obtain ⟨v11, e12, h⟩ := obn_e h
      refine ow_get (r := x0) hX dX2_say_20 oF_RX2_41 (ovr_e e12) ?_
      refine os_aload_n (r := x0) hX dX2_say_23 rfl rfl ?_
      obtain ⟨v13, e14, h⟩ := obn_e h
      refine ow_get (r := x0) hX dX2_say_24 oF_RX2_48 (ovi_e e14) ?_
      refine os_iload_n hX dX2_say_27 rfl rfl ?_
      obtain ⟨s15, e16, h⟩ := obn_e h
      refine ow_si (r := v11) (i := v13) (x := x1) hX dX2_say_28 e16 ?_
      refine os_aload_n (r := x0) hX dX2_say_29 rfl rfl ?_
      obtain ⟨v17, e18, h⟩ := obn_e h
      refine ow_get (r := x0) hX dX2_say_30 oF_RX2_45 (ovr_e e18) ?_
      refine os_aload_n (r := x0) hX dX2_say_33 rfl rfl ?_
      obtain ⟨v19, e20, h⟩ := obn_e h
      refine ow_get (r := x0) hX dX2_say_34 oF_RX2_48 (ovi_e e20) ?_
      refine os_aload_n (r := x2) hX dX2_say_37 rfl rfl ?_
      obtain ⟨s21, e22, h⟩ := obn_e h
      refine ow_sr (r := v17) (i := v19) (y := x2) hX dX2_say_38 e22 ?_
      refine os_aload_n (r := x0) hX dX2_say_39 rfl rfl ?_
      refine os_dup hX dX2_say_40 (ocat x0) ?_
      obtain ⟨v23, e24, h⟩ := obn_e h
      refine ow_get (r := x0) hX dX2_say_41 oF_RX2_48 (ovi_e e24) ?_
      refine os_iconst (v := 1) hX dX2_say_44 (by decide) ?_
      refine os_iadd hX dX2_say_45 ?_
      obtain ⟨s25, e26, h⟩ := obn_e h
      refine ow_put (r := x0) (x := .int (v23 + 1)) hX dX2_say_46 oF_RX2_48 (by decide) (opn_I oT_4_7) e26 ?_
      exact os_vret hX dX2_say_49 rfl (Option.some.inj h)
def ob_X2_of (n : Nat) (call : oCl) (κ : oKv) (x0 : Int32) (x1 : Option Nat) (σ : oSt) : oRs :=
  olet (onew σ (.inr (4, odef 4)) (oq 4).2.2) fun s1 =>
  obn ((some σ.2.1)) fun a3 =>
  ocv (call 1 [va_rf (some σ.2.1), .int x0] s1) fun s5 =>
  if x1 = none then
    some (some (va_rf (some σ.2.1)), s5)
  else
    obn (oob s5 x1 11) fun a9 =>
    oin (call 14 [va_rf x1] s5) fun r13 s11 =>
    if r13 = 0 then
      some (some (va_rf (some σ.2.1)), s11)
    else
      obn (oob s11 (some σ.2.1) 4) fun a15 =>
      ocv (call 15 [va_rf (some σ.2.1), .int 1] s11) fun s17 =>
      obn (oob s17 (some σ.2.1) 4) fun a20 =>
      ocv (call 16 [va_rf (some σ.2.1), .int 61, va_rf x1] s17) fun s22 =>
      some (some (va_rf (some σ.2.1)), s22)
set_option maxHeartbeats 4000000 in
theorem qb_X2_of {κ : oKv} {n : Nat} {call : oCl} {kc : Nat → List Value → oSt → Option Value × oSt → Prop} {v : Option Value × oSt} {X : Nat → zLv → List Value → oSt → Prop} (hX : oSem RX2 cX2_of 3 1 (some (.object "LiquidTongue$Known")) κ kc v X) (hc : ∀ j av s w, call j av s = some w → kc j av s w) {x0 : Int32} {x1 : Option Nat} {σ : oSt} (h : ob_X2_of n call κ x0 x1 σ = some v) : X 0 [some (.int x0), some (va_rf x1), none] [] σ := by
  rw [ob_X2_of] at h
  obtain ⟨s1, e2, h⟩ := olet_e h
  refine os_new hX dX2_of_0 oN_RX2_8 ?_
  rw [← e2]
  refine os_dup hX dX2_of_3 (ocat (some σ.2.1)) ?_
  refine os_iload_n hX dX2_of_4 rfl rfl ?_
  obtain ⟨a3, e4, h⟩ := obn_e h
  obtain ⟨s5, e6, h⟩ := ocv_e h
  refine oc_RX2_25 (rb := (some σ.2.1)) (a1 := .int x0) hX dX2_of_5 (by simp only [List.map_cons, List.map_nil, List.sum_cons, List.sum_nil, ocat]; exact Nat.le_of_ble_eq_true rfl) e4 (hc _ _ _ _ e6) ?_
  refine os_astore_n (r := (some σ.2.1)) hX dX2_of_8 rfl (by decide) (ozlo (i := 1) (r := x1) rfl) ?_
  dsimp only [List.set]
  refine os_aload_n (r := x1) hX dX2_of_9 rfl rfl ?_
  refine os_ifnull (r := x1) (tgt := 32) hX dX2_of_10 (by decide) (fun c8 => ?_) (fun c8 => ?_)
  · rw [if_pos c8] at h
    refine os_aload_n (r := (some σ.2.1)) hX dX2_of_32 rfl rfl ?_
    exact os_aret (r := (some σ.2.1)) hX dX2_of_33 rfl (Option.some.inj h)
  · rw [if_neg c8] at h
    refine os_aload_n (r := x1) hX dX2_of_13 rfl rfl ?_
    obtain ⟨a9, e10, h⟩ := obn_e h
    obtain ⟨r13, s11, e12, h⟩ := oin_e h
    refine oc_RX2_28 (rb := x1)  hX dX2_of_14 (Nat.le_of_ble_eq_true rfl) e10 (hc _ _ _ _ e12) ?_
    refine os_if_eq (tgt := 32) hX dX2_of_17 (by decide) (fun c14 => ?_) (fun c14 => ?_)
    · rw [if_pos c14] at h
      refine os_aload_n (r := (some σ.2.1)) hX dX2_of_32 rfl rfl ?_
      exact os_aret (r := (some σ.2.1)) hX dX2_of_33 rfl (Option.some.inj h)
    · rw [if_neg c14] at h
      refine os_aload_n (r := (some σ.2.1)) hX dX2_of_20 rfl rfl ?_
      refine os_iconst (v := 1) hX dX2_of_21 (by decide) ?_
      obtain ⟨a15, e16, h⟩ := obn_e h
      obtain ⟨s17, e18, h⟩ := ocv_e h
      refine oc_RX2_34 (rb := (some σ.2.1)) (a1 := .int 1) hX dX2_of_22 (Nat.le_of_ble_eq_true rfl) e16 (hc _ _ _ _ e18) ?_
      refine os_aload_n (r := (some σ.2.1)) hX dX2_of_25 rfl rfl ?_
      refine os_bipush (v := 61) hX dX2_of_26 (by decide) ?_
      refine os_aload_n (r := x1) hX dX2_of_28 rfl rfl ?_
      obtain ⟨a20, e21, h⟩ := obn_e h
      obtain ⟨s22, e23, h⟩ := ocv_e h
      refine oc_RX2_37 (rb := (some σ.2.1)) (a1 := .int 61) (a2 := va_rf x1) hX dX2_of_29 (Nat.le_of_ble_eq_true rfl) e21 (hc _ _ _ _ e23) ?_
      refine os_aload_n (r := (some σ.2.1)) hX dX2_of_32 rfl rfl ?_
      exact os_aret (r := (some σ.2.1)) hX dX2_of_33 rfl (Option.some.inj h)
def oj_X0_product_19 (n : Nat) (call : oCl) (κ : oKv) (x0 : Option Nat) (x1 : Option Nat) (t0 : Int32) (σ : oSt) : oRs :=
  if t0 = 0 then
    orn (call 17 [.int 210, va_rf none] σ) fun r4 s2 =>
    some (some (va_rf r4), s2)
  else
    obn (ovl (ofd σ x0 11 3)) fun v5 =>
    obn (ovl (ofd σ x1 11 3)) fun v7 =>
    orn (call 11 [va_rf none, .int 0, .long (v5 * v7)] σ) fun r11 s9 =>
    orn (call 17 [.int 210, va_rf r11] s9) fun r14 s12 =>
    some (some (va_rf r14), s12)
def oj_X0_product_18 (n : Nat) (call : oCl) (κ : oKv) (x0 : Option Nat) (x1 : Option Nat) (σ : oSt) : oRs :=
  oj_X0_product_19 n call κ x0 x1 0 σ
def ob_X0_product (n : Nat) (call : oCl) (κ : oKv) (x0 : Option Nat) (x1 : Option Nat) (σ : oSt) : oRs :=
  obn (ovi (ofd σ x0 11 2)) fun v1 =>
  if v1 = 0 then
    obn (ovi (ofd σ x1 11 2)) fun v4 =>
    if v4 = 0 then
      oj_X0_product_19 n call κ x0 x1 1 σ
    else
      oj_X0_product_18 n call κ x0 x1 σ
  else
    oj_X0_product_18 n call κ x0 x1 σ
set_option maxHeartbeats 4000000 in
theorem qj_X0_product_19 {κ : oKv} {n : Nat} {call : oCl} {kc : Nat → List Value → oSt → Option Value × oSt → Prop} {v : Option Value × oSt} {X : Nat → zLv → List Value → oSt → Prop} (hX : oSem RX0 cX0_product 3 1 (some (.object "LiquidTongue$Known")) κ kc v X) (hc : ∀ j av s w, call j av s = some w → kc j av s w) {x0 : Option Nat} {x1 : Option Nat} {t0 : Int32} {σ : oSt} (h : oj_X0_product_19 n call κ x0 x1 t0 σ = some v) : X 19 [some (va_rf x0), some (va_rf x1), none] [.int t0] σ := by
  rw [oj_X0_product_19] at h
  refine os_istore_n hX dX0_product_19 rfl (by decide) (ozlo (i := 1) (r := x1) rfl) ?_
  dsimp only [List.set]
  refine os_sipush (v := 210) hX dX0_product_20 (by decide) ?_
  refine os_iload_n hX dX0_product_23 rfl rfl ?_
  refine os_if_eq (tgt := 44) hX dX0_product_24 (by decide) (fun c1 => ?_) (fun c1 => ?_)
  · rw [if_pos c1] at h
    refine os_null hX dX0_product_44 ?_
    obtain ⟨r4, s2, e3, h⟩ := orn_e h
    refine oc_RX0_180 (a1 := .int 210) (a2 := va_rf none) hX dX0_product_45 (Nat.le_of_ble_eq_true rfl) (hc _ _ _ _ e3) ?_
    exact os_aret (r := r4) hX dX0_product_48 rfl (Option.some.inj h)
  · rw [if_neg c1] at h
    refine os_null hX dX0_product_27 ?_
    refine os_iconst (v := 0) hX dX0_product_28 (by decide) ?_
    refine os_aload_n (r := x0) hX dX0_product_29 rfl rfl ?_
    obtain ⟨v5, e6, h⟩ := obn_e h
    refine ow_get (r := x0) hX dX0_product_30 oF_RX0_213 (ovl_e e6) ?_
    refine os_aload_n (r := x1) hX dX0_product_33 rfl rfl ?_
    obtain ⟨v7, e8, h⟩ := obn_e h
    refine ow_get (r := x1) hX dX0_product_34 oF_RX0_213 (ovl_e e8) ?_
    refine os_lmul hX dX0_product_37 ?_
    obtain ⟨r11, s9, e10, h⟩ := orn_e h
    refine oc_RX0_192 (a1 := va_rf none) (a2 := .int 0) (a3 := .long (v5 * v7)) hX dX0_product_38 (Nat.le_of_ble_eq_true rfl) (hc _ _ _ _ e10) ?_
    refine os_goto (tgt := 45) hX dX0_product_41 (by decide) ?_
    obtain ⟨r14, s12, e13, h⟩ := orn_e h
    refine oc_RX0_180 (a1 := .int 210) (a2 := va_rf r11) hX dX0_product_45 (Nat.le_of_ble_eq_true rfl) (hc _ _ _ _ e13) ?_
    exact os_aret (r := r14) hX dX0_product_48 rfl (Option.some.inj h)
set_option maxHeartbeats 4000000 in
theorem qj_X0_product_18 {κ : oKv} {n : Nat} {call : oCl} {kc : Nat → List Value → oSt → Option Value × oSt → Prop} {v : Option Value × oSt} {X : Nat → zLv → List Value → oSt → Prop} (hX : oSem RX0 cX0_product 3 1 (some (.object "LiquidTongue$Known")) κ kc v X) (hc : ∀ j av s w, call j av s = some w → kc j av s w) {x0 : Option Nat} {x1 : Option Nat} {σ : oSt} (h : oj_X0_product_18 n call κ x0 x1 σ = some v) : X 18 [some (va_rf x0), some (va_rf x1), none] [] σ := by
  rw [oj_X0_product_18] at h
  refine os_iconst (v := 0) hX dX0_product_18 (by decide) ?_
  exact qj_X0_product_19 hX hc h
set_option maxHeartbeats 4000000 in
theorem qb_X0_product {κ : oKv} {n : Nat} {call : oCl} {kc : Nat → List Value → oSt → Option Value × oSt → Prop} {v : Option Value × oSt} {X : Nat → zLv → List Value → oSt → Prop} (hX : oSem RX0 cX0_product 3 1 (some (.object "LiquidTongue$Known")) κ kc v X) (hc : ∀ j av s w, call j av s = some w → kc j av s w) {x0 : Option Nat} {x1 : Option Nat} {σ : oSt} (h : ob_X0_product n call κ x0 x1 σ = some v) : X 0 [some (va_rf x0), some (va_rf x1), none] [] σ := by
  rw [ob_X0_product] at h
  refine os_aload_n (r := x0) hX dX0_product_0 rfl rfl ?_
  obtain ⟨v1, e2, h⟩ := obn_e h
  refine ow_get (r := x0) hX dX0_product_1 oF_RX0_212 (ovi_e e2) ?_
  refine os_if_ne (tgt := 18) hX dX0_product_4 (by decide) (fun c3 => ?_) (fun c3 => ?_)
  · rw [if_neg c3] at h
    exact qj_X0_product_18 hX hc h
  · rw [if_pos c3] at h
    refine os_aload_n (r := x1) hX dX0_product_7 rfl rfl ?_
    obtain ⟨v4, e5, h⟩ := obn_e h
    refine ow_get (r := x1) hX dX0_product_8 oF_RX0_212 (ovi_e e5) ?_
    refine os_if_ne (tgt := 18) hX dX0_product_11 (by decide) (fun c6 => ?_) (fun c6 => ?_)
    · rw [if_neg c6] at h
      exact qj_X0_product_18 hX hc h
    · rw [if_pos c6] at h
      refine os_iconst (v := 1) hX dX0_product_14 (by decide) ?_
      refine os_goto (tgt := 19) hX dX0_product_15 (by decide) ?_
      exact qj_X0_product_19 hX hc h
def ob_X0_remainder (n : Nat) (call : oCl) (κ : oKv) (x0 : Option Nat) (σ : oSt) : oRs :=
  olet (onew σ (.inr (4, odef 4)) (oq 4).2.2) fun s1 =>
  obn ((some σ.2.1)) fun a3 =>
  ocv (call 1 [va_rf (some σ.2.1), .int 210] s1) fun s5 =>
  obn (ovi (ofd s5 x0 7 6)) fun v8 =>
  if v8 = 2 then
    obn (ovr (ofd s5 x0 7 19)) fun v11 =>
    obn (ovl (ofd s5 v11 11 3)) fun v13 =>
    if (lg_cmp v13 0) ≤ 0 then
      some (some (va_rf (some σ.2.1)), s5)
    else
      obn (oob s5 (some σ.2.1) 4) fun a16 =>
      ocv (call 15 [va_rf (some σ.2.1), .int 2] s5) fun s18 =>
      olet (onew s18 (.inr (11, odef 11)) (oq 11).2.2) fun s21 =>
      obn ((some s18.2.1)) fun a23 =>
      ocv (call 8 [va_rf (some s18.2.1)] s21) fun s25 =>
      obn (oob s25 (some σ.2.1) 4) fun a28 =>
      ocv (call 16 [va_rf (some σ.2.1), .int 301, va_rf (some s18.2.1)] s25) fun s30 =>
      obn (ovr (ofd s30 x0 7 19)) fun v33 =>
      obn (oob s30 (some σ.2.1) 4) fun a35 =>
      ocv (call 16 [va_rf (some σ.2.1), .int 60, va_rf v33] s30) fun s37 =>
      some (some (va_rf (some σ.2.1)), s37)
  else
    some (some (va_rf (some σ.2.1)), s5)
set_option maxHeartbeats 4000000 in
theorem qb_X0_remainder {κ : oKv} {n : Nat} {call : oCl} {kc : Nat → List Value → oSt → Option Value × oSt → Prop} {v : Option Value × oSt} {X : Nat → zLv → List Value → oSt → Prop} (hX : oSem RX0 cX0_remainder 2 1 (some (.object "LiquidTongue$Known")) κ kc v X) (hc : ∀ j av s w, call j av s = some w → kc j av s w) {x0 : Option Nat} {σ : oSt} (h : ob_X0_remainder n call κ x0 σ = some v) : X 0 [some (va_rf x0), none] [] σ := by
  rw [ob_X0_remainder] at h
  obtain ⟨s1, e2, h⟩ := olet_e h
  refine os_new hX dX0_remainder_0 oN_RX0_61 ?_
  rw [← e2]
  refine os_dup hX dX0_remainder_3 (ocat (some σ.2.1)) ?_
  refine os_sipush (v := 210) hX dX0_remainder_4 (by decide) ?_
  obtain ⟨a3, e4, h⟩ := obn_e h
  obtain ⟨s5, e6, h⟩ := ocv_e h
  refine oc_RX0_66 (rb := (some σ.2.1)) (a1 := .int 210) hX dX0_remainder_7 (by simp only [List.map_cons, List.map_nil, List.sum_cons, List.sum_nil, ocat]; exact Nat.le_of_ble_eq_true rfl) e4 (hc _ _ _ _ e6) ?_
  refine os_astore_n (r := (some σ.2.1)) hX dX0_remainder_10 rfl (by decide) (ozlo (i := 0) (r := x0) rfl) ?_
  dsimp only [List.set]
  refine os_aload_n (r := x0) hX dX0_remainder_11 rfl rfl ?_
  obtain ⟨v8, e9, h⟩ := obn_e h
  refine ow_get (r := x0) hX dX0_remainder_12 oF_RX0_205 (ovi_e e9) ?_
  refine os_iconst (v := 2) hX dX0_remainder_15 (by decide) ?_
  refine os_icmp_ne (tgt := 60) hX dX0_remainder_16 (by decide) (fun c10 => ?_) (fun c10 => ?_)
  · rw [if_neg c10] at h
    refine os_aload_n (r := (some σ.2.1)) hX dX0_remainder_60 rfl rfl ?_
    exact os_aret (r := (some σ.2.1)) hX dX0_remainder_61 rfl (Option.some.inj h)
  · rw [if_pos c10] at h
    refine os_aload_n (r := x0) hX dX0_remainder_19 rfl rfl ?_
    obtain ⟨v11, e12, h⟩ := obn_e h
    refine ow_get (r := x0) hX dX0_remainder_20 oF_RX0_187 (ovr_e e12) ?_
    obtain ⟨v13, e14, h⟩ := obn_e h
    refine ow_get (r := v11) hX dX0_remainder_23 oF_RX0_213 (ovl_e e14) ?_
    refine os_lconst (v := 0) hX dX0_remainder_26 (by decide) ?_
    refine os_lcmp hX dX0_remainder_27 ?_
    refine os_if_le (tgt := 60) hX dX0_remainder_28 (by decide) (fun c15 => ?_) (fun c15 => ?_)
    · rw [if_pos c15] at h
      refine os_aload_n (r := (some σ.2.1)) hX dX0_remainder_60 rfl rfl ?_
      exact os_aret (r := (some σ.2.1)) hX dX0_remainder_61 rfl (Option.some.inj h)
    · rw [if_neg c15] at h
      refine os_aload_n (r := (some σ.2.1)) hX dX0_remainder_31 rfl rfl ?_
      refine os_iconst (v := 2) hX dX0_remainder_32 (by decide) ?_
      obtain ⟨a16, e17, h⟩ := obn_e h
      obtain ⟨s18, e19, h⟩ := ocv_e h
      refine oc_RX0_217 (rb := (some σ.2.1)) (a1 := .int 2) hX dX0_remainder_33 (Nat.le_of_ble_eq_true rfl) e17 (hc _ _ _ _ e19) ?_
      refine os_aload_n (r := (some σ.2.1)) hX dX0_remainder_36 rfl rfl ?_
      refine os_sipush (v := 301) hX dX0_remainder_37 (by decide) ?_
      obtain ⟨s21, e22, h⟩ := olet_e h
      refine os_new hX dX0_remainder_40 oN_RX0_177 ?_
      rw [← e22]
      refine os_dup hX dX0_remainder_43 (ocat (some s18.2.1)) ?_
      obtain ⟨a23, e24, h⟩ := obn_e h
      obtain ⟨s25, e26, h⟩ := ocv_e h
      refine oc_RX0_179 (rb := (some s18.2.1))  hX dX0_remainder_44 (by simp only [List.map_cons, List.map_nil, List.sum_cons, List.sum_nil, ocat]; exact Nat.le_of_ble_eq_true rfl) e24 (hc _ _ _ _ e26) ?_
      obtain ⟨a28, e29, h⟩ := obn_e h
      obtain ⟨s30, e31, h⟩ := ocv_e h
      refine oc_RX0_220 (rb := (some σ.2.1)) (a1 := .int 301) (a2 := va_rf (some s18.2.1)) hX dX0_remainder_47 (Nat.le_of_ble_eq_true rfl) e29 (hc _ _ _ _ e31) ?_
      refine os_aload_n (r := (some σ.2.1)) hX dX0_remainder_50 rfl rfl ?_
      refine os_bipush (v := 60) hX dX0_remainder_51 (by decide) ?_
      refine os_aload_n (r := x0) hX dX0_remainder_53 rfl rfl ?_
      obtain ⟨v33, e34, h⟩ := obn_e h
      refine ow_get (r := x0) hX dX0_remainder_54 oF_RX0_187 (ovr_e e34) ?_
      obtain ⟨a35, e36, h⟩ := obn_e h
      obtain ⟨s37, e38, h⟩ := ocv_e h
      refine oc_RX0_220 (rb := (some σ.2.1)) (a1 := .int 60) (a2 := va_rf v33) hX dX0_remainder_57 (Nat.le_of_ble_eq_true rfl) e36 (hc _ _ _ _ e38) ?_
      refine os_aload_n (r := (some σ.2.1)) hX dX0_remainder_60 rfl rfl ?_
      exact os_aret (r := (some σ.2.1)) hX dX0_remainder_61 rfl (Option.some.inj h)
theorem olk_X0_plain_4 {x : Int32} (h0 : ¬ x = 37) (h1 : ¬ x = 42) (h2 : ¬ x = 203) (h3 : ¬ x = 205) (h4 : ¬ x = 215) (h5 : ¬ x = 216) (h6 : ¬ x = 223) (h7 : ¬ x = 400) : Op.lookupswitch.offset (#[(37, 149), (42, 131), (203, 115), (205, 76), (215, 101), (216, 87), (223, 76), (400, 157)] : Array (Int × Int)).toList 211 x.toInt = 211 := by
  have a0 := z_ne h0 (k := 37) (by decide)
  have a1 := z_ne h1 (k := 42) (by decide)
  have a2 := z_ne h2 (k := 203) (by decide)
  have a3 := z_ne h3 (k := 205) (by decide)
  have a4 := z_ne h4 (k := 215) (by decide)
  have a5 := z_ne h5 (k := 216) (by decide)
  have a6 := z_ne h6 (k := 223) (by decide)
  have a7 := z_ne h7 (k := 400) (by decide)
  simp [Op.lookupswitch.offset, a0, Ne.symm a0, a1, Ne.symm a1, a2, Ne.symm a2, a3, Ne.symm a3, a4, Ne.symm a4, a5, Ne.symm a5, a6, Ne.symm a6, a7, Ne.symm a7]
def ob_X0_plain (n : Nat) (call : oCl) (κ : oKv) (x0 : Option Nat) (σ : oSt) : oRs :=
  obn (ovi (ofd σ x0 7 0)) fun v1 =>
  if v1 = 37 then
    obn (ovr (ofd σ x0 7 16)) fun v4 =>
    orn (call 19 [va_rf v4] σ) fun r8 s6 =>
    some (some (va_rf r8), s6)
  else
  if v1 = 42 then
    obn (ovr (ofd σ x0 7 15)) fun v10 =>
    obn (ovr (ofd σ v10 7 19)) fun v12 =>
    obn (ovr (ofd σ x0 7 16)) fun v14 =>
    obn (ovr (ofd σ v14 7 19)) fun v16 =>
    orn (call 18 [va_rf v12, va_rf v16] σ) fun r20 s18 =>
    some (some (va_rf r20), s18)
  else
  if v1 = 203 then
    obn (ovr (ofd σ x0 7 9)) fun v22 =>
    orn (call 11 [va_rf v22, .int 1, .long 1] σ) fun r26 s24 =>
    orn (call 17 [.int 213, va_rf r26] s24) fun r29 s27 =>
    some (some (va_rf r29), s27)
  else
  if v1 = 205 then
    olet (onew σ (.inr (4, odef 4)) (oq 4).2.2) fun s31 =>
    obn ((some σ.2.1)) fun a33 =>
    ocv (call 1 [va_rf (some σ.2.1), .int 202] s31) fun s35 =>
    some (some (va_rf (some σ.2.1)), s35)
  else
  if v1 = 215 then
    obn (ovr (ofd σ x0 7 15)) fun v39 =>
    obn (ovr (ofd σ v39 7 19)) fun v41 =>
    orn (call 17 [.int 200, va_rf v41] σ) fun r45 s43 =>
    some (some (va_rf r45), s43)
  else
  if v1 = 216 then
    olet (onew σ (.inr (11, odef 11)) (oq 11).2.2) fun s47 =>
    obn ((some σ.2.1)) fun a49 =>
    ocv (call 8 [va_rf (some σ.2.1)] s47) fun s51 =>
    orn (call 17 [.int 213, va_rf (some σ.2.1)] s51) fun r56 s54 =>
    some (some (va_rf r56), s54)
  else
  if v1 = 223 then
    olet (onew σ (.inr (4, odef 4)) (oq 4).2.2) fun s58 =>
    obn ((some σ.2.1)) fun a60 =>
    ocv (call 1 [va_rf (some σ.2.1), .int 202] s58) fun s62 =>
    some (some (va_rf (some σ.2.1)), s62)
  else
  if v1 = 400 then
    obn (ovi (ofd σ x0 7 6)) fun v66 =>
    if v66 = 1 then
      obn (ovr (ofd σ x0 7 9)) fun v74 =>
      obn (oob σ v74 6) fun a76 =>
      oin (call 6 [va_rf v74] σ) fun r80 s78 =>
      if r80 = 0 then
        obn (ovr (ofd s78 x0 7 9)) fun v82 =>
        obn (ovr (ofd s78 v82 6 4)) fun v84 =>
        some (some (va_rf v84), s78)
      else
        obn (ovr (ofd s78 x0 7 9)) fun v86 =>
        obn (ovi (ofd s78 v86 6 3)) fun v88 =>
        obn (ovr (ofd s78 x0 7 19)) fun v90 =>
        orn (call 17 [.int v88, va_rf v90] s78) fun r94 s92 =>
        some (some (va_rf r94), s92)
    else
      obn (ovr (ofd σ x0 7 19)) fun v69 =>
      orn (call 17 [.int 210, va_rf v69] σ) fun r73 s71 =>
      some (some (va_rf r73), s71)
  else
  olet (onew σ (.inr (4, odef 4)) (oq 4).2.2) fun s95 =>
  obn ((some σ.2.1)) fun a97 =>
  ocv (call 1 [va_rf (some σ.2.1), .int 210] s95) fun s99 =>
  some (some (va_rf (some σ.2.1)), s99)
set_option maxHeartbeats 4000000 in
theorem qb_X0_plain {κ : oKv} {n : Nat} {call : oCl} {kc : Nat → List Value → oSt → Option Value × oSt → Prop} {v : Option Value × oSt} {X : Nat → zLv → List Value → oSt → Prop} (hX : oSem RX0 cX0_plain 1 1 (some (.object "LiquidTongue$Known")) κ kc v X) (hc : ∀ j av s w, call j av s = some w → kc j av s w) {x0 : Option Nat} {σ : oSt} (h : ob_X0_plain n call κ x0 σ = some v) : X 0 [some (va_rf x0)] [] σ := by
  rw [ob_X0_plain] at h
  refine os_aload_n (r := x0) hX dX0_plain_0 rfl rfl ?_
  obtain ⟨v1, e2, h⟩ := obn_e h
  refine ow_get (r := x0) hX dX0_plain_1 oF_RX0_143 (ovi_e e2) ?_
  by_cases c3 : v1 = 37
  · rw [if_pos c3] at h
    refine os_lookup (tgt := 153) (off := 149) hX dX0_plain_4 (by decide) (by rw [c3]; rfl) (by decide) ?_
    refine os_aload_n (r := x0) hX dX0_plain_153 rfl rfl ?_
    obtain ⟨v4, e5, h⟩ := obn_e h
    refine ow_get (r := x0) hX dX0_plain_154 oF_RX0_195 (ovr_e e5) ?_
    obtain ⟨r8, s6, e7, h⟩ := orn_e h
    refine oc_RX0_202 (a1 := va_rf v4) hX dX0_plain_157 (Nat.le_of_ble_eq_true rfl) (hc _ _ _ _ e7) ?_
    exact os_aret (r := r8) hX dX0_plain_160 rfl (Option.some.inj h)
  rw [if_neg c3] at h
  by_cases c9 : v1 = 42
  · rw [if_pos c9] at h
    refine os_lookup (tgt := 135) (off := 131) hX dX0_plain_4 (by decide) (by rw [c9]; rfl) (by decide) ?_
    refine os_aload_n (r := x0) hX dX0_plain_135 rfl rfl ?_
    obtain ⟨v10, e11, h⟩ := obn_e h
    refine ow_get (r := x0) hX dX0_plain_136 oF_RX0_184 (ovr_e e11) ?_
    obtain ⟨v12, e13, h⟩ := obn_e h
    refine ow_get (r := v10) hX dX0_plain_139 oF_RX0_187 (ovr_e e13) ?_
    refine os_aload_n (r := x0) hX dX0_plain_142 rfl rfl ?_
    obtain ⟨v14, e15, h⟩ := obn_e h
    refine ow_get (r := x0) hX dX0_plain_143 oF_RX0_195 (ovr_e e15) ?_
    obtain ⟨v16, e17, h⟩ := obn_e h
    refine ow_get (r := v14) hX dX0_plain_146 oF_RX0_187 (ovr_e e17) ?_
    obtain ⟨r20, s18, e19, h⟩ := orn_e h
    refine oc_RX0_198 (a1 := va_rf v12) (a2 := va_rf v16) hX dX0_plain_149 (Nat.le_of_ble_eq_true rfl) (hc _ _ _ _ e19) ?_
    exact os_aret (r := r20) hX dX0_plain_152 rfl (Option.some.inj h)
  rw [if_neg c9] at h
  by_cases c21 : v1 = 203
  · rw [if_pos c21] at h
    refine os_lookup (tgt := 119) (off := 115) hX dX0_plain_4 (by decide) (by rw [c21]; rfl) (by decide) ?_
    refine os_sipush (v := 213) hX dX0_plain_119 (by decide) ?_
    refine os_aload_n (r := x0) hX dX0_plain_122 rfl rfl ?_
    obtain ⟨v22, e23, h⟩ := obn_e h
    refine ow_get (r := x0) hX dX0_plain_123 oF_RX0_191 (ovr_e e23) ?_
    refine os_iconst (v := 1) hX dX0_plain_126 (by decide) ?_
    refine os_lconst (v := 1) hX dX0_plain_127 (by decide) ?_
    obtain ⟨r26, s24, e25, h⟩ := orn_e h
    refine oc_RX0_192 (a1 := va_rf v22) (a2 := .int 1) (a3 := .long 1) hX dX0_plain_128 (Nat.le_of_ble_eq_true rfl) (hc _ _ _ _ e25) ?_
    obtain ⟨r29, s27, e28, h⟩ := orn_e h
    refine oc_RX0_180 (a1 := .int 213) (a2 := va_rf r26) hX dX0_plain_131 (Nat.le_of_ble_eq_true rfl) (hc _ _ _ _ e28) ?_
    exact os_aret (r := r29) hX dX0_plain_134 rfl (Option.some.inj h)
  rw [if_neg c21] at h
  by_cases c30 : v1 = 205
  · rw [if_pos c30] at h
    refine os_lookup (tgt := 80) (off := 76) hX dX0_plain_4 (by decide) (by rw [c30]; rfl) (by decide) ?_
    obtain ⟨s31, e32, h⟩ := olet_e h
    refine os_new hX dX0_plain_80 oN_RX0_61 ?_
    rw [← e32]
    refine os_dup hX dX0_plain_83 (ocat (some σ.2.1)) ?_
    refine os_sipush (v := 202) hX dX0_plain_84 (by decide) ?_
    obtain ⟨a33, e34, h⟩ := obn_e h
    obtain ⟨s35, e36, h⟩ := ocv_e h
    refine oc_RX0_66 (rb := (some σ.2.1)) (a1 := .int 202) hX dX0_plain_87 (by simp only [List.map_cons, List.map_nil, List.sum_cons, List.sum_nil, ocat]; exact Nat.le_of_ble_eq_true rfl) e34 (hc _ _ _ _ e36) ?_
    exact os_aret (r := (some σ.2.1)) hX dX0_plain_90 rfl (Option.some.inj h)
  rw [if_neg c30] at h
  by_cases c38 : v1 = 215
  · rw [if_pos c38] at h
    refine os_lookup (tgt := 105) (off := 101) hX dX0_plain_4 (by decide) (by rw [c38]; rfl) (by decide) ?_
    refine os_sipush (v := 200) hX dX0_plain_105 (by decide) ?_
    refine os_aload_n (r := x0) hX dX0_plain_108 rfl rfl ?_
    obtain ⟨v39, e40, h⟩ := obn_e h
    refine ow_get (r := x0) hX dX0_plain_109 oF_RX0_184 (ovr_e e40) ?_
    obtain ⟨v41, e42, h⟩ := obn_e h
    refine ow_get (r := v39) hX dX0_plain_112 oF_RX0_187 (ovr_e e42) ?_
    obtain ⟨r45, s43, e44, h⟩ := orn_e h
    refine oc_RX0_180 (a1 := .int 200) (a2 := va_rf v41) hX dX0_plain_115 (Nat.le_of_ble_eq_true rfl) (hc _ _ _ _ e44) ?_
    exact os_aret (r := r45) hX dX0_plain_118 rfl (Option.some.inj h)
  rw [if_neg c38] at h
  by_cases c46 : v1 = 216
  · rw [if_pos c46] at h
    refine os_lookup (tgt := 91) (off := 87) hX dX0_plain_4 (by decide) (by rw [c46]; rfl) (by decide) ?_
    refine os_sipush (v := 213) hX dX0_plain_91 (by decide) ?_
    obtain ⟨s47, e48, h⟩ := olet_e h
    refine os_new hX dX0_plain_94 oN_RX0_177 ?_
    rw [← e48]
    refine os_dup hX dX0_plain_97 (ocat (some σ.2.1)) ?_
    obtain ⟨a49, e50, h⟩ := obn_e h
    obtain ⟨s51, e52, h⟩ := ocv_e h
    refine oc_RX0_179 (rb := (some σ.2.1))  hX dX0_plain_98 (by simp only [List.map_cons, List.map_nil, List.sum_cons, List.sum_nil, ocat]; exact Nat.le_of_ble_eq_true rfl) e50 (hc _ _ _ _ e52) ?_
    obtain ⟨r56, s54, e55, h⟩ := orn_e h
    refine oc_RX0_180 (a1 := .int 213) (a2 := va_rf (some σ.2.1)) hX dX0_plain_101 (Nat.le_of_ble_eq_true rfl) (hc _ _ _ _ e55) ?_
    exact os_aret (r := r56) hX dX0_plain_104 rfl (Option.some.inj h)
  rw [if_neg c46] at h
  by_cases c57 : v1 = 223
  · rw [if_pos c57] at h
    refine os_lookup (tgt := 80) (off := 76) hX dX0_plain_4 (by decide) (by rw [c57]; rfl) (by decide) ?_
    obtain ⟨s58, e59, h⟩ := olet_e h
    refine os_new hX dX0_plain_80 oN_RX0_61 ?_
    rw [← e59]
    refine os_dup hX dX0_plain_83 (ocat (some σ.2.1)) ?_
    refine os_sipush (v := 202) hX dX0_plain_84 (by decide) ?_
    obtain ⟨a60, e61, h⟩ := obn_e h
    obtain ⟨s62, e63, h⟩ := ocv_e h
    refine oc_RX0_66 (rb := (some σ.2.1)) (a1 := .int 202) hX dX0_plain_87 (by simp only [List.map_cons, List.map_nil, List.sum_cons, List.sum_nil, ocat]; exact Nat.le_of_ble_eq_true rfl) e61 (hc _ _ _ _ e63) ?_
    exact os_aret (r := (some σ.2.1)) hX dX0_plain_90 rfl (Option.some.inj h)
  rw [if_neg c57] at h
  by_cases c65 : v1 = 400
  · rw [if_pos c65] at h
    refine os_lookup (tgt := 161) (off := 157) hX dX0_plain_4 (by decide) (by rw [c65]; rfl) (by decide) ?_
    refine os_aload_n (r := x0) hX dX0_plain_161 rfl rfl ?_
    obtain ⟨v66, e67, h⟩ := obn_e h
    refine ow_get (r := x0) hX dX0_plain_162 oF_RX0_205 (ovi_e e67) ?_
    refine os_iconst (v := 1) hX dX0_plain_165 (by decide) ?_
    refine os_icmp_ne (tgt := 204) hX dX0_plain_166 (by decide) (fun c68 => ?_) (fun c68 => ?_)
    · rw [if_neg c68] at h
      refine os_sipush (v := 210) hX dX0_plain_204 (by decide) ?_
      refine os_aload_n (r := x0) hX dX0_plain_207 rfl rfl ?_
      obtain ⟨v69, e70, h⟩ := obn_e h
      refine ow_get (r := x0) hX dX0_plain_208 oF_RX0_187 (ovr_e e70) ?_
      obtain ⟨r73, s71, e72, h⟩ := orn_e h
      refine oc_RX0_180 (a1 := .int 210) (a2 := va_rf v69) hX dX0_plain_211 (Nat.le_of_ble_eq_true rfl) (hc _ _ _ _ e72) ?_
      exact os_aret (r := r73) hX dX0_plain_214 rfl (Option.some.inj h)
    · rw [if_pos c68] at h
      refine os_aload_n (r := x0) hX dX0_plain_169 rfl rfl ?_
      obtain ⟨v74, e75, h⟩ := obn_e h
      refine ow_get (r := x0) hX dX0_plain_170 oF_RX0_191 (ovr_e e75) ?_
      obtain ⟨a76, e77, h⟩ := obn_e h
      obtain ⟨r80, s78, e79, h⟩ := oin_e h
      refine oc_RX0_208 (rb := v74)  hX dX0_plain_173 (Nat.le_of_ble_eq_true rfl) e77 (hc _ _ _ _ e79) ?_
      refine os_if_eq (tgt := 196) hX dX0_plain_176 (by decide) (fun c81 => ?_) (fun c81 => ?_)
      · rw [if_pos c81] at h
        refine os_aload_n (r := x0) hX dX0_plain_196 rfl rfl ?_
        obtain ⟨v82, e83, h⟩ := obn_e h
        refine ow_get (r := x0) hX dX0_plain_197 oF_RX0_191 (ovr_e e83) ?_
        obtain ⟨v84, e85, h⟩ := obn_e h
        refine ow_get (r := v82) hX dX0_plain_200 oF_RX0_69 (ovr_e e85) ?_
        exact os_aret (r := v84) hX dX0_plain_203 rfl (Option.some.inj h)
      · rw [if_neg c81] at h
        refine os_aload_n (r := x0) hX dX0_plain_179 rfl rfl ?_
        obtain ⟨v86, e87, h⟩ := obn_e h
        refine ow_get (r := x0) hX dX0_plain_180 oF_RX0_191 (ovr_e e87) ?_
        obtain ⟨v88, e89, h⟩ := obn_e h
        refine ow_get (r := v86) hX dX0_plain_183 oF_RX0_63 (ovi_e e89) ?_
        refine os_aload_n (r := x0) hX dX0_plain_186 rfl rfl ?_
        obtain ⟨v90, e91, h⟩ := obn_e h
        refine ow_get (r := x0) hX dX0_plain_187 oF_RX0_187 (ovr_e e91) ?_
        obtain ⟨r94, s92, e93, h⟩ := orn_e h
        refine oc_RX0_180 (a1 := .int v88) (a2 := va_rf v90) hX dX0_plain_190 (Nat.le_of_ble_eq_true rfl) (hc _ _ _ _ e93) ?_
        refine os_goto (tgt := 203) hX dX0_plain_193 (by decide) ?_
        exact os_aret (r := r94) hX dX0_plain_203 rfl (Option.some.inj h)
  rw [if_neg c65] at h
  refine os_lookup (tgt := 215) (off := 211) hX dX0_plain_4 (by decide) (olk_X0_plain_4 c3 c9 c21 c30 c38 c46 c57 c65) (by decide) ?_
  obtain ⟨s95, e96, h⟩ := olet_e h
  refine os_new hX dX0_plain_215 oN_RX0_61 ?_
  rw [← e96]
  refine os_dup hX dX0_plain_218 (ocat (some σ.2.1)) ?_
  refine os_sipush (v := 210) hX dX0_plain_219 (by decide) ?_
  obtain ⟨a97, e98, h⟩ := obn_e h
  obtain ⟨s99, e100, h⟩ := ocv_e h
  refine oc_RX0_66 (rb := (some σ.2.1)) (a1 := .int 210) hX dX0_plain_222 (by simp only [List.map_cons, List.map_nil, List.sum_cons, List.sum_nil, ocat]; exact Nat.le_of_ble_eq_true rfl) e98 (hc _ _ _ _ e100) ?_
  exact os_aret (r := (some σ.2.1)) hX dX0_plain_225 rfl (Option.some.inj h)
