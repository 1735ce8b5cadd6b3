/-! the methods of the class as plain functions (111 to 127) -/
def oj_X7_readQualTerm_108 (n : Nat) (call : oCl) (κ : oKv) (x0 : Option Nat) (σ : oSt) : oRs :=
  obn (oob σ x0 9) fun a1 =>
  ocv (call 108 [va_rf x0, .int 2] σ) fun s3 =>
  some (none, s3)
def oj_X7_readQualTerm_78 (n : Nat) (call : oCl) (κ : oKv) (x0 : Option Nat) (x1 : Int32) (σ : oSt) : oRs :=
  obn (oob σ x0 9) fun a1 =>
  oin (call 104 [va_rf x0] σ) fun r5 s3 =>
  if r5 = 2 then
    obn (ovr (ofd s3 x0 9 7)) fun v7 =>
    obn (ovi (ofd s3 x0 9 8)) fun v9 =>
    obn (ovr (ofd s3 x0 9 0)) fun v11 =>
    obn (ovi (ofd s3 x0 9 11)) fun v13 =>
    obn (oob s3 v11 13) fun a15 =>
    oin (call 110 [va_rf v11, .int v13] s3) fun r19 s17 =>
    obn (osi s17 v7 .int v9 (x1 * r19)) fun s20 =>
    oj_X7_readQualTerm_108 n call κ x0 s20
  else
    oj_X7_readQualTerm_108 n call κ x0 s3
def oj_X7_readQualTerm_73 (n : Nat) (call : oCl) (κ : oKv) (x0 : Option Nat) (t0 : Int32) (σ : oSt) : oRs :=
  obn (oob σ x0 9) fun a1 =>
  ocv (call 105 [va_rf x0] σ) fun s3 =>
  oj_X7_readQualTerm_78 n call κ x0 t0 s3
def oj_X7_readQualTerm_59 (n : Nat) (call : oCl) (κ : oKv) (x0 : Option Nat) (σ : oSt) : oRs :=
  obn (oob σ x0 9) fun a1 =>
  oin (call 104 [va_rf x0] σ) fun r5 s3 =>
  if r5 = 43 then
    oj_X7_readQualTerm_73 n call κ x0 1 s3
  else
    oj_X7_readQualTerm_73 n call κ x0 (-1) s3
def oj_X7_readQualTerm_17 (n : Nat) (call : oCl) (κ : oKv) (x0 : Option Nat) (x1 : Int32) (σ : oSt) : oRs :=
  obn (oob σ x0 9) fun a1 =>
  oin (call 104 [va_rf x0] σ) fun r5 s3 =>
  if r5 = 42 then
    obn (ovr (ofd s3 x0 9 6)) fun v7 =>
    obn (ovi (ofd s3 x0 9 8)) fun v9 =>
    obn (osi s3 v7 .int v9 x1) fun s11 =>
    obn (oob s11 x0 9) fun a13 =>
    ocv (call 105 [va_rf x0] s11) fun s15 =>
    obn (oob s15 x0 9) fun a18 =>
    oin (call 104 [va_rf x0] s15) fun r22 s20 =>
    if r22 = 43 then
      oj_X7_readQualTerm_59 n call κ x0 s20
    else
      obn (oob s20 x0 9) fun a24 =>
      oin (call 104 [va_rf x0] s20) fun r28 s26 =>
      if r28 = 45 then
        oj_X7_readQualTerm_59 n call κ x0 s26
      else
        some (none, s26)
  else
    oj_X7_readQualTerm_78 n call κ x0 x1 s3
def ob_X7_readQualTerm (n : Nat) (call : oCl) (κ : oKv) (x0 : Option Nat) (σ : oSt) : oRs :=
  obn (oob σ x0 9) fun a1 =>
  oin (call 104 [va_rf x0] σ) fun r5 s3 =>
  if r5 = 45 then
    obn (oob s3 x0 9) fun a7 =>
    ocv (call 105 [va_rf x0] s3) fun s9 =>
    oj_X7_readQualTerm_17 n call κ x0 (-1) s9
  else
    oj_X7_readQualTerm_17 n call κ x0 1 s3
set_option maxHeartbeats 4000000 in
theorem qj_X7_readQualTerm_108 {κ : oKv} {n : Nat} {call : oCl} {kc : Nat → List Value → oSt → Option Value × oSt → Prop} {v : Option Value × oSt} {X : Nat → zLv → List Value → oSt → Prop} (hX : oSem RX7 cX7_readQualTerm 2 0 none κ kc v X) (hc : ∀ j av s w, call j av s = some w → kc j av s w) {x0 : Option Nat} {σ : oSt} (h : oj_X7_readQualTerm_108 n call κ x0 σ = some v) : X 108 [some (va_rf x0), none] [] σ := by
  rw [oj_X7_readQualTerm_108] at h
  refine os_aload_n (r := x0) hX dX7_readQualTerm_108 rfl rfl ?_
  refine os_iconst (v := 2) hX dX7_readQualTerm_109 (by decide) ?_
  obtain ⟨a1, e2, h⟩ := obn_e h
  obtain ⟨s3, e4, h⟩ := ocv_e h
  refine oc_RX7_109 (rb := x0) (a1 := .int 2) hX dX7_readQualTerm_110 (Nat.le_of_ble_eq_true rfl) e2 (hc _ _ _ _ e4) ?_
  exact os_vret hX dX7_readQualTerm_113 rfl (Option.some.inj h)
set_option maxHeartbeats 4000000 in
theorem qj_X7_readQualTerm_78 {κ : oKv} {n : Nat} {call : oCl} {kc : Nat → List Value → oSt → Option Value × oSt → Prop} {v : Option Value × oSt} {X : Nat → zLv → List Value → oSt → Prop} (hX : oSem RX7 cX7_readQualTerm 2 0 none κ kc v X) (hc : ∀ j av s w, call j av s = some w → kc j av s w) {x0 : Option Nat} {x1 : Int32} {σ : oSt} (h : oj_X7_readQualTerm_78 n call κ x0 x1 σ = some v) : X 78 [some (va_rf x0), some (.int x1)] [] σ := by
  rw [oj_X7_readQualTerm_78] at h
  refine os_aload_n (r := x0) hX dX7_readQualTerm_78 rfl rfl ?_
  obtain ⟨a1, e2, h⟩ := obn_e h
  obtain ⟨r5, s3, e4, h⟩ := oin_e h
  refine oc_RX7_57 (rb := x0)  hX dX7_readQualTerm_79 (Nat.le_of_ble_eq_true rfl) e2 (hc _ _ _ _ e4) ?_
  refine os_iconst (v := 2) hX dX7_readQualTerm_82 (by decide) ?_
  refine os_icmp_ne (tgt := 108) hX dX7_readQualTerm_83 (by decide) (fun c6 => ?_) (fun c6 => ?_)
  · rw [if_neg c6] at h
    refine os_weak hX (lw := [some (va_rf x0), none]) ⟨rfl, trivial⟩ ?_
    exact qj_X7_readQualTerm_108 hX hc h
  · rw [if_pos c6] at h
    refine os_aload_n (r := x0) hX dX7_readQualTerm_86 rfl rfl ?_
    obtain ⟨v7, e8, h⟩ := obn_e h
    refine ow_get (r := x0) hX dX7_readQualTerm_87 oF_RX7_37 (ovr_e e8) ?_
    refine os_aload_n (r := x0) hX dX7_readQualTerm_90 rfl rfl ?_
    obtain ⟨v9, e10, h⟩ := obn_e h
    refine ow_get (r := x0) hX dX7_readQualTerm_91 oF_RX7_54 (ovi_e e10) ?_
    refine os_iload_n hX dX7_readQualTerm_94 rfl rfl ?_
    refine os_aload_n (r := x0) hX dX7_readQualTerm_95 rfl rfl ?_
    obtain ⟨v11, e12, h⟩ := obn_e h
    refine ow_get (r := x0) hX dX7_readQualTerm_96 oF_RX7_50 (ovr_e e12) ?_
    refine os_aload_n (r := x0) hX dX7_readQualTerm_99 rfl rfl ?_
    obtain ⟨v13, e14, h⟩ := obn_e h
    refine ow_get (r := x0) hX dX7_readQualTerm_100 oF_RX7_86 (ovi_e e14) ?_
    obtain ⟨a15, e16, h⟩ := obn_e h
    obtain ⟨r19, s17, e18, h⟩ := oin_e h
    refine oc_RX7_120 (rb := v11) (a1 := .int v13) hX dX7_readQualTerm_103 (by simp only [List.map_cons, List.map_nil, List.sum_cons, List.sum_nil, ocat]; exact Nat.le_of_ble_eq_true rfl) e16 (hc _ _ _ _ e18) ?_
    refine os_imul hX dX7_readQualTerm_106 ?_
    obtain ⟨s20, e21, h⟩ := obn_e h
    refine ow_si (r := v7) (i := v9) (x := (x1 * r19)) hX dX7_readQualTerm_107 e21 ?_
    refine os_weak hX (lw := [some (va_rf x0), none]) ⟨rfl, trivial⟩ ?_
    exact qj_X7_readQualTerm_108 hX hc h
set_option maxHeartbeats 4000000 in
theorem qj_X7_readQualTerm_73 {κ : oKv} {n : Nat} {call : oCl} {kc : Nat → List Value → oSt → Option Value × oSt → Prop} {v : Option Value × oSt} {X : Nat → zLv → List Value → oSt → Prop} (hX : oSem RX7 cX7_readQualTerm 2 0 none κ kc v X) (hc : ∀ j av s w, call j av s = some w → kc j av s w) {x0 : Option Nat} {t0 : Int32} {σ : oSt} (h : oj_X7_readQualTerm_73 n call κ x0 t0 σ = some v) : X 73 [some (va_rf x0), none] [.int t0] σ := by
  rw [oj_X7_readQualTerm_73] at h
  refine os_istore_n hX dX7_readQualTerm_73 rfl (by decide) (ozlo (i := 0) (r := x0) rfl) ?_
  dsimp only [List.set]
  refine os_aload_n (r := x0) hX dX7_readQualTerm_74 rfl rfl ?_
  obtain ⟨a1, e2, h⟩ := obn_e h
  obtain ⟨s3, e4, h⟩ := ocv_e h
  refine oc_RX7_98 (rb := x0)  hX dX7_readQualTerm_75 (Nat.le_of_ble_eq_true rfl) e2 (hc _ _ _ _ e4) ?_
  exact qj_X7_readQualTerm_78 hX hc h
set_option maxHeartbeats 4000000 in
theorem qj_X7_readQualTerm_59 {κ : oKv} {n : Nat} {call : oCl} {kc : Nat → List Value → oSt → Option Value × oSt → Prop} {v : Option Value × oSt} {X : Nat → zLv → List Value → oSt → Prop} (hX : oSem RX7 cX7_readQualTerm 2 0 none κ kc v X) (hc : ∀ j av s w, call j av s = some w → kc j av s w) {x0 : Option Nat} {σ : oSt} (h : oj_X7_readQualTerm_59 n call κ x0 σ = some v) : X 59 [some (va_rf x0), none] [] σ := by
  rw [oj_X7_readQualTerm_59] at h
  refine os_aload_n (r := x0) hX dX7_readQualTerm_59 rfl rfl ?_
  obtain ⟨a1, e2, h⟩ := obn_e h
  obtain ⟨r5, s3, e4, h⟩ := oin_e h
  refine oc_RX7_57 (rb := x0)  hX dX7_readQualTerm_60 (Nat.le_of_ble_eq_true rfl) e2 (hc _ _ _ _ e4) ?_
  refine os_bipush (v := 43) hX dX7_readQualTerm_63 (by decide) ?_
  refine os_icmp_ne (tgt := 72) hX dX7_readQualTerm_65 (by decide) (fun c6 => ?_) (fun c6 => ?_)
  · rw [if_neg c6] at h
    refine os_iconst (v := (-1)) hX dX7_readQualTerm_72 (by decide) ?_
    exact qj_X7_readQualTerm_73 hX hc h
  · rw [if_pos c6] at h
    refine os_iconst (v := 1) hX dX7_readQualTerm_68 (by decide) ?_
    refine os_goto (tgt := 73) hX dX7_readQualTerm_69 (by decide) ?_
    exact qj_X7_readQualTerm_73 hX hc h
set_option maxHeartbeats 4000000 in
theorem qj_X7_readQualTerm_17 {κ : oKv} {n : Nat} {call : oCl} {kc : Nat → List Value → oSt → Option Value × oSt → Prop} {v : Option Value × oSt} {X : Nat → zLv → List Value → oSt → Prop} (hX : oSem RX7 cX7_readQualTerm 2 0 none κ kc v X) (hc : ∀ j av s w, call j av s = some w → kc j av s w) {x0 : Option Nat} {x1 : Int32} {σ : oSt} (h : oj_X7_readQualTerm_17 n call κ x0 x1 σ = some v) : X 17 [some (va_rf x0), some (.int x1)] [] σ := by
  rw [oj_X7_readQualTerm_17] at h
  refine os_aload_n (r := x0) hX dX7_readQualTerm_17 rfl rfl ?_
  obtain ⟨a1, e2, h⟩ := obn_e h
  obtain ⟨r5, s3, e4, h⟩ := oin_e h
  refine oc_RX7_57 (rb := x0)  hX dX7_readQualTerm_18 (Nat.le_of_ble_eq_true rfl) e2 (hc _ _ _ _ e4) ?_
  refine os_bipush (v := 42) hX dX7_readQualTerm_21 (by decide) ?_
  refine os_icmp_ne (tgt := 78) hX dX7_readQualTerm_23 (by decide) (fun c6 => ?_) (fun c6 => ?_)
  · rw [if_neg c6] at h
    exact qj_X7_readQualTerm_78 hX hc h
  · rw [if_pos c6] at h
    refine os_aload_n (r := x0) hX dX7_readQualTerm_26 rfl rfl ?_
    obtain ⟨v7, e8, h⟩ := obn_e h
    refine ow_get (r := x0) hX dX7_readQualTerm_27 oF_RX7_34 (ovr_e e8) ?_
    refine os_aload_n (r := x0) hX dX7_readQualTerm_30 rfl rfl ?_
    obtain ⟨v9, e10, h⟩ := obn_e h
    refine ow_get (r := x0) hX dX7_readQualTerm_31 oF_RX7_54 (ovi_e e10) ?_
    refine os_iload_n hX dX7_readQualTerm_34 rfl rfl ?_
    obtain ⟨s11, e12, h⟩ := obn_e h
    refine ow_si (r := v7) (i := v9) (x := x1) hX dX7_readQualTerm_35 e12 ?_
    refine os_aload_n (r := x0) hX dX7_readQualTerm_36 rfl rfl ?_
    obtain ⟨a13, e14, h⟩ := obn_e h
    obtain ⟨s15, e16, h⟩ := ocv_e h
    refine oc_RX7_98 (rb := x0)  hX dX7_readQualTerm_37 (Nat.le_of_ble_eq_true rfl) e14 (hc _ _ _ _ e16) ?_
    refine os_aload_n (r := x0) hX dX7_readQualTerm_40 rfl rfl ?_
    obtain ⟨a18, e19, h⟩ := obn_e h
    obtain ⟨r22, s20, e21, h⟩ := oin_e h
    refine oc_RX7_57 (rb := x0)  hX dX7_readQualTerm_41 (Nat.le_of_ble_eq_true rfl) e19 (hc _ _ _ _ e21) ?_
    refine os_bipush (v := 43) hX dX7_readQualTerm_44 (by decide) ?_
    refine os_icmp_eq (tgt := 59) hX dX7_readQualTerm_46 (by decide) (fun c23 => ?_) (fun c23 => ?_)
    · rw [if_pos c23] at h
      refine os_weak hX (lw := [some (va_rf x0), none]) ⟨rfl, trivial⟩ ?_
      exact qj_X7_readQualTerm_59 hX hc h
    · rw [if_neg c23] at h
      refine os_aload_n (r := x0) hX dX7_readQualTerm_49 rfl rfl ?_
      obtain ⟨a24, e25, h⟩ := obn_e h
      obtain ⟨r28, s26, e27, h⟩ := oin_e h
      refine oc_RX7_57 (rb := x0)  hX dX7_readQualTerm_50 (Nat.le_of_ble_eq_true rfl) e25 (hc _ _ _ _ e27) ?_
      refine os_bipush (v := 45) hX dX7_readQualTerm_53 (by decide) ?_
      refine os_icmp_eq (tgt := 59) hX dX7_readQualTerm_55 (by decide) (fun c29 => ?_) (fun c29 => ?_)
      · rw [if_pos c29] at h
        refine os_weak hX (lw := [some (va_rf x0), none]) ⟨rfl, trivial⟩ ?_
        exact qj_X7_readQualTerm_59 hX hc h
      · rw [if_neg c29] at h
        exact os_vret hX dX7_readQualTerm_58 rfl (Option.some.inj h)
set_option maxHeartbeats 4000000 in
theorem qb_X7_readQualTerm {κ : oKv} {n : Nat} {call : oCl} {kc : Nat → List Value → oSt → Option Value × oSt → Prop} {v : Option Value × oSt} {X : Nat → zLv → List Value → oSt → Prop} (hX : oSem RX7 cX7_readQualTerm 2 0 none κ kc v X) (hc : ∀ j av s w, call j av s = some w → kc j av s w) {x0 : Option Nat} {σ : oSt} (h : ob_X7_readQualTerm n call κ x0 σ = some v) : X 0 [some (va_rf x0), none] [] σ := by
  rw [ob_X7_readQualTerm] at h
  refine os_iconst (v := 1) hX dX7_readQualTerm_0 (by decide) ?_
  refine os_istore_n hX dX7_readQualTerm_1 rfl (by decide) (ozlo (i := 0) (r := x0) rfl) ?_
  dsimp only [List.set]
  refine os_aload_n (r := x0) hX dX7_readQualTerm_2 rfl rfl ?_
  obtain ⟨a1, e2, h⟩ := obn_e h
  obtain ⟨r5, s3, e4, h⟩ := oin_e h
  refine oc_RX7_57 (rb := x0)  hX dX7_readQualTerm_3 (Nat.le_of_ble_eq_true rfl) e2 (hc _ _ _ _ e4) ?_
  refine os_bipush (v := 45) hX dX7_readQualTerm_6 (by decide) ?_
  refine os_icmp_ne (tgt := 17) hX dX7_readQualTerm_8 (by decide) (fun c6 => ?_) (fun c6 => ?_)
  · rw [if_neg c6] at h
    exact qj_X7_readQualTerm_17 hX hc h
  · rw [if_pos c6] at h
    refine os_iconst (v := (-1)) hX dX7_readQualTerm_11 (by decide) ?_
    refine os_istore_n hX dX7_readQualTerm_12 rfl (by decide) (ozlo (i := 0) (r := x0) rfl) ?_
    dsimp only [List.set]
    refine os_aload_n (r := x0) hX dX7_readQualTerm_13 rfl rfl ?_
    obtain ⟨a7, e8, h⟩ := obn_e h
    obtain ⟨s9, e10, h⟩ := ocv_e h
    refine oc_RX7_98 (rb := x0)  hX dX7_readQualTerm_14 (Nat.le_of_ble_eq_true rfl) e8 (hc _ _ _ _ e10) ?_
    exact qj_X7_readQualTerm_17 hX hc h
def oj_X7_readQual_98 (n : Nat) (call : oCl) (κ : oKv) (x0 : Option Nat) (σ : oSt) : oRs :=
  obn (oob σ x0 9) fun a1 =>
  ocv (call 111 [va_rf x0] σ) fun s3 =>
  obn (oob s3 x0 9) fun a6 =>
  ocv (call 108 [va_rf x0, .int 59] s3) fun s8 =>
  some (none, s8)
def oj_X7_readQual_51 (n : Nat) (call : oCl) (κ : oKv) (x0 : Option Nat) (σ : oSt) : oRs :=
  obn (oob σ x0 9) fun a1 =>
  ocv (call 108 [va_rf x0, .int 58] σ) fun s3 =>
  obn (oob s3 x0 9) fun a6 =>
  ocv (call 108 [va_rf x0, .int 224] s3) fun s8 =>
  obn (ovr (ofd s8 x0 9 5)) fun v11 =>
  obn (ovi (ofd s8 x0 9 8)) fun v13 =>
  obn (oob s8 x0 9) fun a15 =>
  oin (call 104 [va_rf x0] s8) fun r19 s17 =>
  obn (osi s17 v11 .int v13 r19) fun s20 =>
  obn (oob s20 x0 9) fun a22 =>
  oin (call 104 [va_rf x0] s20) fun r26 s24 =>
  oin (call 109 [.int r26] s24) fun r29 s27 =>
  if r29 = 0 then
    obn (oob s27 x0 9) fun a31 =>
    ocv (call 107 [va_rf x0] s27) fun s33 =>
    oj_X7_readQual_98 n call κ x0 s33
  else
    obn (oob s27 x0 9) fun a36 =>
    ocv (call 105 [va_rf x0] s27) fun s38 =>
    oj_X7_readQual_98 n call κ x0 s38
def oj_X7_readQual_30 (n : Nat) (call : oCl) (κ : oKv) (x0 : Option Nat) (x1 : Int32) (σ : oSt) : oRs :=
  obn (ovr (ofd σ x0 9 4)) fun v1 =>
  obn (ovi (ofd σ x0 9 8)) fun v3 =>
  obn (osi σ v1 .int v3 x1) fun s5 =>
  obn (oob s5 x0 9) fun a7 =>
  ocv (call 105 [va_rf x0] s5) fun s9 =>
  oj_X7_readQual_51 n call κ x0 s9
def ob_X7_readQual (n : Nat) (call : oCl) (κ : oKv) (x0 : Option Nat) (σ : oSt) : oRs :=
  obn (oob σ x0 9) fun a1 =>
  ocv (call 105 [va_rf x0] σ) fun s3 =>
  obn (oob s3 x0 9) fun a6 =>
  oin (call 104 [va_rf x0] s3) fun r10 s8 =>
  if r10 = 210 then
    oj_X7_readQual_30 n call κ x0 r10 s8
  else
    if r10 = 200 then
      oj_X7_readQual_30 n call κ x0 r10 s8
    else
      if r10 = 213 then
        oj_X7_readQual_30 n call κ x0 r10 s8
      else
        obn (oob s8 x0 9) fun a14 =>
        ocv (call 107 [va_rf x0] s8) fun s16 =>
        oj_X7_readQual_51 n call κ x0 s16
set_option maxHeartbeats 4000000 in
theorem qj_X7_readQual_98 {κ : oKv} {n : Nat} {call : oCl} {kc : Nat → List Value → oSt → Option Value × oSt → Prop} {v : Option Value × oSt} {X : Nat → zLv → List Value → oSt → Prop} (hX : oSem RX7 cX7_readQual 2 0 none κ kc v X) (hc : ∀ j av s w, call j av s = some w → kc j av s w) {x0 : Option Nat} {σ : oSt} (h : oj_X7_readQual_98 n call κ x0 σ = some v) : X 98 [some (va_rf x0), none] [] σ := by
  rw [oj_X7_readQual_98] at h
  refine os_aload_n (r := x0) hX dX7_readQual_98 rfl rfl ?_
  obtain ⟨a1, e2, h⟩ := obn_e h
  obtain ⟨s3, e4, h⟩ := ocv_e h
  refine oc_RX7_117 (rb := x0)  hX dX7_readQual_99 (Nat.le_of_ble_eq_true rfl) e2 (hc _ _ _ _ e4) ?_
  refine os_aload_n (r := x0) hX dX7_readQual_102 rfl rfl ?_
  refine os_bipush (v := 59) hX dX7_readQual_103 (by decide) ?_
  obtain ⟨a6, e7, h⟩ := obn_e h
  obtain ⟨s8, e9, h⟩ := ocv_e h
  refine oc_RX7_109 (rb := x0) (a1 := .int 59) hX dX7_readQual_105 (Nat.le_of_ble_eq_true rfl) e7 (hc _ _ _ _ e9) ?_
  exact os_vret hX dX7_readQual_108 rfl (Option.some.inj h)
set_option maxHeartbeats 4000000 in
theorem qj_X7_readQual_51 {κ : oKv} {n : Nat} {call : oCl} {kc : Nat → List Value → oSt → Option Value × oSt → Prop} {v : Option Value × oSt} {X : Nat → zLv → List Value → oSt → Prop} (hX : oSem RX7 cX7_readQual 2 0 none κ kc v X) (hc : ∀ j av s w, call j av s = some w → kc j av s w) {x0 : Option Nat} {σ : oSt} (h : oj_X7_readQual_51 n call κ x0 σ = some v) : X 51 [some (va_rf x0), none] [] σ := by
  rw [oj_X7_readQual_51] at h
  refine os_aload_n (r := x0) hX dX7_readQual_51 rfl rfl ?_
  refine os_bipush (v := 58) hX dX7_readQual_52 (by decide) ?_
  obtain ⟨a1, e2, h⟩ := obn_e h
  obtain ⟨s3, e4, h⟩ := ocv_e h
  refine oc_RX7_109 (rb := x0) (a1 := .int 58) hX dX7_readQual_54 (Nat.le_of_ble_eq_true rfl) e2 (hc _ _ _ _ e4) ?_
  refine os_aload_n (r := x0) hX dX7_readQual_57 rfl rfl ?_
  refine os_sipush (v := 224) hX dX7_readQual_58 (by decide) ?_
  obtain ⟨a6, e7, h⟩ := obn_e h
  obtain ⟨s8, e9, h⟩ := ocv_e h
  refine oc_RX7_109 (rb := x0) (a1 := .int 224) hX dX7_readQual_61 (Nat.le_of_ble_eq_true rfl) e7 (hc _ _ _ _ e9) ?_
  refine os_aload_n (r := x0) hX dX7_readQual_64 rfl rfl ?_
  obtain ⟨v11, e12, h⟩ := obn_e h
  refine ow_get (r := x0) hX dX7_readQual_65 oF_RX7_31 (ovr_e e12) ?_
  refine os_aload_n (r := x0) hX dX7_readQual_68 rfl rfl ?_
  obtain ⟨v13, e14, h⟩ := obn_e h
  refine ow_get (r := x0) hX dX7_readQual_69 oF_RX7_54 (ovi_e e14) ?_
  refine os_aload_n (r := x0) hX dX7_readQual_72 rfl rfl ?_
  obtain ⟨a15, e16, h⟩ := obn_e h
  obtain ⟨r19, s17, e18, h⟩ := oin_e h
  refine oc_RX7_57 (rb := x0)  hX dX7_readQual_73 (by simp only [List.map_cons, List.map_nil, List.sum_cons, List.sum_nil, ocat]; exact Nat.le_of_ble_eq_true rfl) e16 (hc _ _ _ _ e18) ?_
  obtain ⟨s20, e21, h⟩ := obn_e h
  refine ow_si (r := v11) (i := v13) (x := r19) hX dX7_readQual_76 e21 ?_
  refine os_aload_n (r := x0) hX dX7_readQual_77 rfl rfl ?_
  obtain ⟨a22, e23, h⟩ := obn_e h
  obtain ⟨r26, s24, e25, h⟩ := oin_e h
  refine oc_RX7_57 (rb := x0)  hX dX7_readQual_78 (Nat.le_of_ble_eq_true rfl) e23 (hc _ _ _ _ e25) ?_
  obtain ⟨r29, s27, e28, h⟩ := oin_e h
  refine oc_RX7_113 (a1 := .int r26) hX dX7_readQual_81 (Nat.le_of_ble_eq_true rfl) (hc _ _ _ _ e28) ?_
  refine os_if_eq (tgt := 94) hX dX7_readQual_84 (by decide) (fun c30 => ?_) (fun c30 => ?_)
  · rw [if_pos c30] at h
    refine os_aload_n (r := x0) hX dX7_readQual_94 rfl rfl ?_
    obtain ⟨a31, e32, h⟩ := obn_e h
    obtain ⟨s33, e34, h⟩ := ocv_e h
    refine oc_RX7_78 (rb := x0)  hX dX7_readQual_95 (Nat.le_of_ble_eq_true rfl) e32 (hc _ _ _ _ e34) ?_
    exact qj_X7_readQual_98 hX hc h
  · rw [if_neg c30] at h
    refine os_aload_n (r := x0) hX dX7_readQual_87 rfl rfl ?_
    obtain ⟨a36, e37, h⟩ := obn_e h
    obtain ⟨s38, e39, h⟩ := ocv_e h
    refine oc_RX7_98 (rb := x0)  hX dX7_readQual_88 (Nat.le_of_ble_eq_true rfl) e37 (hc _ _ _ _ e39) ?_
    refine os_goto (tgt := 98) hX dX7_readQual_91 (by decide) ?_
    exact qj_X7_readQual_98 hX hc h
set_option maxHeartbeats 4000000 in
theorem qj_X7_readQual_30 {κ : oKv} {n : Nat} {call : oCl} {kc : Nat → List Value → oSt → Option Value × oSt → Prop} {v : Option Value × oSt} {X : Nat → zLv → List Value → oSt → Prop} (hX : oSem RX7 cX7_readQual 2 0 none κ kc v X) (hc : ∀ j av s w, call j av s = some w → kc j av s w) {x0 : Option Nat} {x1 : Int32} {σ : oSt} (h : oj_X7_readQual_30 n call κ x0 x1 σ = some v) : X 30 [some (va_rf x0), some (.int x1)] [] σ := by
  rw [oj_X7_readQual_30] at h
  refine os_aload_n (r := x0) hX dX7_readQual_30 rfl rfl ?_
  obtain ⟨v1, e2, h⟩ := obn_e h
  refine ow_get (r := x0) hX dX7_readQual_31 oF_RX7_27 (ovr_e e2) ?_
  refine os_aload_n (r := x0) hX dX7_readQual_34 rfl rfl ?_
  obtain ⟨v3, e4, h⟩ := obn_e h
  refine ow_get (r := x0) hX dX7_readQual_35 oF_RX7_54 (ovi_e e4) ?_
  refine os_iload_n hX dX7_readQual_38 rfl rfl ?_
  obtain ⟨s5, e6, h⟩ := obn_e h
  refine ow_si (r := v1) (i := v3) (x := x1) hX dX7_readQual_39 e6 ?_
  refine os_aload_n (r := x0) hX dX7_readQual_40 rfl rfl ?_
  obtain ⟨a7, e8, h⟩ := obn_e h
  obtain ⟨s9, e10, h⟩ := ocv_e h
  refine oc_RX7_98 (rb := x0)  hX dX7_readQual_41 (Nat.le_of_ble_eq_true rfl) e8 (hc _ _ _ _ e10) ?_
  refine os_goto (tgt := 51) hX dX7_readQual_44 (by decide) ?_
  refine os_weak hX (lw := [some (va_rf x0), none]) ⟨rfl, trivial⟩ ?_
  exact qj_X7_readQual_51 hX hc h
set_option maxHeartbeats 4000000 in
theorem qb_X7_readQual {κ : oKv} {n : Nat} {call : oCl} {kc : Nat → List Value → oSt → Option Value × oSt → Prop} {v : Option Value × oSt} {X : Nat → zLv → List Value → oSt → Prop} (hX : oSem RX7 cX7_readQual 2 0 none κ kc v X) (hc : ∀ j av s w, call j av s = some w → kc j av s w) {x0 : Option Nat} {σ : oSt} (h : ob_X7_readQual n call κ x0 σ = some v) : X 0 [some (va_rf x0), none] [] σ := by
  rw [ob_X7_readQual] at h
  refine os_aload_n (r := x0) hX dX7_readQual_0 rfl rfl ?_
  obtain ⟨a1, e2, h⟩ := obn_e h
  obtain ⟨s3, e4, h⟩ := ocv_e h
  refine oc_RX7_98 (rb := x0)  hX dX7_readQual_1 (Nat.le_of_ble_eq_true rfl) e2 (hc _ _ _ _ e4) ?_
  refine os_aload_n (r := x0) hX dX7_readQual_4 rfl rfl ?_
  obtain ⟨a6, e7, h⟩ := obn_e h
  obtain ⟨r10, s8, e9, h⟩ := oin_e h
  refine oc_RX7_57 (rb := x0)  hX dX7_readQual_5 (Nat.le_of_ble_eq_true rfl) e7 (hc _ _ _ _ e9) ?_
  refine os_istore_n hX dX7_readQual_8 rfl (by decide) (ozlo (i := 0) (r := x0) rfl) ?_
  dsimp only [List.set]
  refine os_iload_n hX dX7_readQual_9 rfl rfl ?_
  refine os_sipush (v := 210) hX dX7_readQual_10 (by decide) ?_
  refine os_icmp_eq (tgt := 30) hX dX7_readQual_13 (by decide) (fun c11 => ?_) (fun c11 => ?_)
  · rw [if_pos c11] at h
    exact qj_X7_readQual_30 hX hc h
  · rw [if_neg c11] at h
    refine os_iload_n hX dX7_readQual_16 rfl rfl ?_
    refine os_sipush (v := 200) hX dX7_readQual_17 (by decide) ?_
    refine os_icmp_eq (tgt := 30) hX dX7_readQual_20 (by decide) (fun c12 => ?_) (fun c12 => ?_)
    · rw [if_pos c12] at h
      exact qj_X7_readQual_30 hX hc h
    · rw [if_neg c12] at h
      refine os_iload_n hX dX7_readQual_23 rfl rfl ?_
      refine os_sipush (v := 213) hX dX7_readQual_24 (by decide) ?_
      refine os_icmp_ne (tgt := 47) hX dX7_readQual_27 (by decide) (fun c13 => ?_) (fun c13 => ?_)
      · rw [if_neg c13] at h
        refine os_aload_n (r := x0) hX dX7_readQual_47 rfl rfl ?_
        obtain ⟨a14, e15, h⟩ := obn_e h
        obtain ⟨s16, e17, h⟩ := ocv_e h
        refine oc_RX7_78 (rb := x0)  hX dX7_readQual_48 (Nat.le_of_ble_eq_true rfl) e15 (hc _ _ _ _ e17) ?_
        refine os_weak hX (lw := [some (va_rf x0), none]) ⟨rfl, trivial⟩ ?_
        exact qj_X7_readQual_51 hX hc h
      · rw [if_pos c13] at h
        exact qj_X7_readQual_30 hX hc h
def ob_X11_textOf (n : Nat) (call : oCl) (κ : oKv) (x0 : Option Nat) (x1 : Int32) (σ : oSt) : oRs :=
  obn (ovr (ofd σ x0 13 0)) fun v1 =>
  obn (ovr (ofd σ x0 13 2)) fun v3 =>
  obn (oai σ v3 .int x1) fun v5 =>
  obn (ovr (ofd σ x0 13 3)) fun v7 =>
  obn (oai σ v7 .int x1) fun v9 =>
  obn (oob σ v1 0) fun a11 =>
  orn (call 209 [va_rf v1, .int v5, .int v9] σ) fun r15 s13 =>
  some (some (va_rf r15), s13)
set_option maxHeartbeats 4000000 in
theorem qb_X11_textOf {κ : oKv} {n : Nat} {call : oCl} {kc : Nat → List Value → oSt → Option Value × oSt → Prop} {v : Option Value × oSt} {X : Nat → zLv → List Value → oSt → Prop} (hX : oSem RX11 cX11_textOf 2 0 (some (.object "java/lang/String")) κ kc v X) (hc : ∀ j av s w, call j av s = some w → kc j av s w) {x0 : Option Nat} {x1 : Int32} {σ : oSt} (h : ob_X11_textOf n call κ x0 x1 σ = some v) : X 0 [some (va_rf x0), some (.int x1)] [] σ := by
  rw [ob_X11_textOf] at h
  refine os_aload_n (r := x0) hX dX11_textOf_0 rfl rfl ?_
  obtain ⟨v1, e2, h⟩ := obn_e h
  refine ow_get (r := x0) hX dX11_textOf_1 oF_RX11_15 (ovr_e e2) ?_
  refine os_aload_n (r := x0) hX dX11_textOf_4 rfl rfl ?_
  obtain ⟨v3, e4, h⟩ := obn_e h
  refine ow_get (r := x0) hX dX11_textOf_5 oF_RX11_29 (ovr_e e4) ?_
  refine os_iload_n hX dX11_textOf_8 rfl rfl ?_
  obtain ⟨v5, e6, h⟩ := obn_e h
  refine ow_ai (r := v3) (i := x1) hX dX11_textOf_9 e6 ?_
  refine os_aload_n (r := x0) hX dX11_textOf_10 rfl rfl ?_
  obtain ⟨v7, e8, h⟩ := obn_e h
  refine ow_get (r := x0) hX dX11_textOf_11 oF_RX11_32 (ovr_e e8) ?_
  refine os_iload_n hX dX11_textOf_14 rfl rfl ?_
  obtain ⟨v9, e10, h⟩ := obn_e h
  refine ow_ai (r := v7) (i := x1) hX dX11_textOf_15 e10 ?_
  obtain ⟨a11, e12, h⟩ := obn_e h
  obtain ⟨r15, s13, e14, h⟩ := orn_e h
  refine oc_RX11_82 (rb := v1) (a1 := .int v5) (a2 := .int v9) hX dX11_textOf_16 (Nat.le_of_ble_eq_true rfl) e12 (hc _ _ _ _ e14) ?_
  exact os_aret (r := r15) hX dX11_textOf_19 rfl (Option.some.inj h)
def ol_X7_counts_2 (n : Nat) (call : oCl) (κ : oKv) : Nat → Option Nat → Option Nat → Int32 → oSt → oRs
  | 0, _, _, _, _ => none
  | f + 1, x0, x1, x2, σ =>
    obn (ovi (ofd σ x0 9 12)) fun v1 =>
    if v1 ≤ x2 then
      some (some (va_rf none), σ)
    else
      if 12 ≤ x2 then
        some (some (va_rf none), σ)
      else
        obn (ovr (ofd σ x0 9 1)) fun v5 =>
        obn (oar σ v5 x2) fun v7 =>
        obn (ovr (ofd σ v7 6 0)) fun v9 =>
        obn (oSt' κ σ v9) fun a11 =>
        oin (call 217 [va_rf v9, va_rf x1] σ) fun r15 s13 =>
        if r15 = 0 then
          ol_X7_counts_2 n call κ f x0 x1 (x2 + 1) s13
        else
          obn (ovr (ofd s13 x0 9 1)) fun v17 =>
          obn (oar s13 v17 x2) fun v19 =>
          some (some (va_rf v19), s13)
def ob_X7_counts (n : Nat) (call : oCl) (κ : oKv) (x0 : Option Nat) (x1 : Option Nat) (σ : oSt) : oRs :=
  ol_X7_counts_2 n call κ n x0 x1 0 σ
set_option maxHeartbeats 4000000 in
theorem ql_X7_counts_2 {κ : oKv} {n : Nat} {call : oCl} {kc : Nat → List Value → oSt → Option Value × oSt → Prop} {v : Option Value × oSt} {X : Nat → zLv → List Value → oSt → Prop} (hX : oSem RX7 cX7_counts 3 0 (some (.object "LiquidTongue$Name")) κ kc v X) (hc : ∀ j av s w, call j av s = some w → kc j av s w) : ∀ (f : Nat) (x0 : Option Nat) (x1 : Option Nat) (x2 : Int32) (σ : oSt), ol_X7_counts_2 n call κ f x0 x1 x2 σ = some v → X 2 [some (va_rf x0), some (va_rf x1), some (.int x2)] [] σ := by
  intro f
  induction f with
  | zero => intro x0 x1 x2 σ h; cases h
  | succ f hk2 =>
    intro x0 x1 x2 σ h
    rw [ol_X7_counts_2] at h
    refine os_iload_n hX dX7_counts_2 rfl rfl ?_
    refine os_aload_n (r := x0) hX dX7_counts_3 rfl rfl ?_
    obtain ⟨v1, e2, h⟩ := obn_e h
    refine ow_get (r := x0) hX dX7_counts_4 oF_RX7_103 (ovi_e e2) ?_
    refine os_icmp_ge (tgt := 45) hX dX7_counts_7 (by decide) (fun c3 => ?_) (fun c3 => ?_)
    · rw [if_pos c3] at h
      refine os_null hX dX7_counts_45 ?_
      exact os_aret (r := none) hX dX7_counts_46 rfl (Option.some.inj h)
    · rw [if_neg c3] at h
      refine os_iload_n hX dX7_counts_10 rfl rfl ?_
      refine os_bipush (v := 12) hX dX7_counts_11 (by decide) ?_
      refine os_icmp_ge (tgt := 45) hX dX7_counts_13 (by decide) (fun c4 => ?_) (fun c4 => ?_)
      · rw [if_pos c4] at h
        refine os_null hX dX7_counts_45 ?_
        exact os_aret (r := none) hX dX7_counts_46 rfl (Option.some.inj h)
      · rw [if_neg c4] at h
        refine os_aload_n (r := x0) hX dX7_counts_16 rfl rfl ?_
        obtain ⟨v5, e6, h⟩ := obn_e h
        refine ow_get (r := x0) hX dX7_counts_17 oF_RX7_11 (ovr_e e6) ?_
        refine os_iload_n hX dX7_counts_20 rfl rfl ?_
        obtain ⟨v7, e8, h⟩ := obn_e h
        refine ow_ar (r := v5) (i := x2) hX dX7_counts_21 e8 ?_
        obtain ⟨v9, e10, h⟩ := obn_e h
        refine ow_get (r := v7) hX dX7_counts_22 oF_RX7_143 (ovr_e e10) ?_
        refine os_aload_n (r := x1) hX dX7_counts_25 rfl rfl ?_
        obtain ⟨a11, e12, h⟩ := obn_e h
        obtain ⟨r15, s13, e14, h⟩ := oin_e h
        refine oc_RX7_158 (rb := v9) (a1 := va_rf x1) hX dX7_counts_26 (Nat.le_of_ble_eq_true rfl) e12 (hc _ _ _ _ e14) ?_
        refine os_if_eq (tgt := 39) hX dX7_counts_29 (by decide) (fun c16 => ?_) (fun c16 => ?_)
        · rw [if_pos c16] at h
          refine os_iinc (v := x2 + 1) hX dX7_counts_39 rfl rfl (by decide) (ozlo (i := 1) (r := x1) rfl) ?_
          dsimp only [List.set]
          refine os_goto (tgt := 2) hX dX7_counts_42 (by decide) ?_
          exact hk2 _ _ _ _ h
        · rw [if_neg c16] at h
          refine os_aload_n (r := x0) hX dX7_counts_32 rfl rfl ?_
          obtain ⟨v17, e18, h⟩ := obn_e h
          refine ow_get (r := x0) hX dX7_counts_33 oF_RX7_11 (ovr_e e18) ?_
          refine os_iload_n hX dX7_counts_36 rfl rfl ?_
          obtain ⟨v19, e20, h⟩ := obn_e h
          refine ow_ar (r := v17) (i := x2) hX dX7_counts_37 e20 ?_
          exact os_aret (r := v19) hX dX7_counts_38 rfl (Option.some.inj h)
set_option maxHeartbeats 4000000 in
theorem qb_X7_counts {κ : oKv} {n : Nat} {call : oCl} {kc : Nat → List Value → oSt → Option Value × oSt → Prop} {v : Option Value × oSt} {X : Nat → zLv → List Value → oSt → Prop} (hX : oSem RX7 cX7_counts 3 0 (some (.object "LiquidTongue$Name")) κ kc v X) (hc : ∀ j av s w, call j av s = some w → kc j av s w) {x0 : Option Nat} {x1 : Option Nat} {σ : oSt} (h : ob_X7_counts n call κ x0 x1 σ = some v) : X 0 [some (va_rf x0), some (va_rf x1), none] [] σ := by
  rw [ob_X7_counts] at h
  refine os_iconst (v := 0) hX dX7_counts_0 (by decide) ?_
  refine os_istore_n hX dX7_counts_1 rfl (by decide) (ozlo (i := 1) (r := x1) rfl) ?_
  dsimp only [List.set]
  exact ql_X7_counts_2 hX hc n _ _ _ _ h
def oj_X7_tell_82 (n : Nat) (call : oCl) (κ : oKv) (x0 : Option Nat) (x1 : Option Nat) (σ : oSt) : oRs :=
  obn (ovr (ofd σ x0 9 2)) fun v1 =>
  obn (oob σ v1 1) fun a3 =>
  oin (call 227 [va_rf v1, va_rf x1] σ) fun r7 s5 =>
  obn (oob s5 x0 9) fun a8 =>
  ocv (call 105 [va_rf x0] s5) fun s10 =>
  some (some (va_rf x1), s10)
def oj_X7_tell_74 (n : Nat) (call : oCl) (κ : oKv) (x0 : Option Nat) (x1 : Option Nat) (σ : oSt) : oRs :=
  obn (oob σ x0 9) fun a1 =>
  oin (call 106 [va_rf x0] σ) fun r5 s3 =>
  obn (opf s3 x0 9 16 (.int r5)) fun s6 =>
  oj_X7_tell_82 n call κ x0 x1 s6
def ob_X7_tell (n : Nat) (call : oCl) (κ : oKv) (x0 : Option Nat) (σ : oSt) : oRs :=
  obn (oob σ x0 9) fun a1 =>
  oin (call 104 [va_rf x0] σ) fun r5 s3 =>
  if r5 = 1 then
    olet (onew s3 (.inr (6, odef 6)) (oq 6).2.2) fun s7 =>
    obn (ovr (ofd s7 x0 9 0)) fun v9 =>
    obn (ovi (ofd s7 x0 9 11)) fun v11 =>
    obn (oob s7 v9 13) fun a13 =>
    orn (call 113 [va_rf v9, .int v11] s7) fun r17 s15 =>
    obn ((some s3.2.1)) fun a18 =>
    ocv (call 7 [va_rf (some s3.2.1), va_rf r17, .int 210] s15) fun s20 =>
    obn (ovi (ofd s20 x0 9 16)) fun v23 =>
    if 0 ≤ v23 then
      oj_X7_tell_82 n call κ x0 (some s3.2.1) s20
    else
      obn (ovi (ofd s20 x0 9 12)) fun v26 =>
      if 12 ≤ v26 then
        oj_X7_tell_74 n call κ x0 (some s3.2.1) s20
      else
        obn (ovr (ofd s20 (some s3.2.1) 6 0)) fun v29 =>
        obn (oob s20 x0 9) fun a31 =>
        orn (call 114 [va_rf x0, va_rf v29] s20) fun r35 s33 =>
        if r35 = none then
          oj_X7_tell_82 n call κ x0 (some s3.2.1) s33
        else
          oj_X7_tell_74 n call κ x0 (some s3.2.1) s33
  else
    obn (oob s3 x0 9) fun a37 =>
    ocv (call 107 [va_rf x0] s3) fun s39 =>
    olet (onew s39 (.inr (6, odef 6)) (oq 6).2.2) fun s42 =>
    obn ((some s39.2.1)) fun a44 =>
    ocv (call 7 [va_rf (some s39.2.1), va_rf (some (κ.1 3)), .int 210] s42) fun s46 =>
    some (some (va_rf (some s39.2.1)), s46)
set_option maxHeartbeats 4000000 in
theorem qj_X7_tell_82 {κ : oKv} {n : Nat} {call : oCl} {kc : Nat → List Value → oSt → Option Value × oSt → Prop} {v : Option Value × oSt} {X : Nat → zLv → List Value → oSt → Prop} (hX : oSem RX7 cX7_tell 2 0 (some (.object "LiquidTongue$Name")) κ kc v X) (hc : ∀ j av s w, call j av s = some w → kc j av s w) {x0 : Option Nat} {x1 : Option Nat} {σ : oSt} (h : oj_X7_tell_82 n call κ x0 x1 σ = some v) : X 82 [some (va_rf x0), some (va_rf x1)] [] σ := by
  rw [oj_X7_tell_82] at h
  refine os_aload_n (r := x0) hX dX7_tell_82 rfl rfl ?_
  obtain ⟨v1, e2, h⟩ := obn_e h
  refine ow_get (r := x0) hX dX7_tell_83 oF_RX7_20 (ovr_e e2) ?_
  refine os_aload_n (r := x1) hX dX7_tell_86 rfl rfl ?_
  obtain ⟨a3, e4, h⟩ := obn_e h
  obtain ⟨r7, s5, e6, h⟩ := oin_e h
  refine oc_RX7_151 (rb := v1) (a1 := va_rf x1) hX dX7_tell_87 (Nat.le_of_ble_eq_true rfl) e4 (hc _ _ _ _ e6) ?_
  refine os_pop hX dX7_tell_90 rfl ?_
  refine os_aload_n (r := x0) hX dX7_tell_91 rfl rfl ?_
  obtain ⟨a8, e9, h⟩ := obn_e h
  obtain ⟨s10, e11, h⟩ := ocv_e h
  refine oc_RX7_98 (rb := x0)  hX dX7_tell_92 (Nat.le_of_ble_eq_true rfl) e9 (hc _ _ _ _ e11) ?_
  refine os_aload_n (r := x1) hX dX7_tell_95 rfl rfl ?_
  exact os_aret (r := x1) hX dX7_tell_96 rfl (Option.some.inj h)
set_option maxHeartbeats 4000000 in
theorem qj_X7_tell_74 {κ : oKv} {n : Nat} {call : oCl} {kc : Nat → List Value → oSt → Option Value × oSt → Prop} {v : Option Value × oSt} {X : Nat → zLv → List Value → oSt → Prop} (hX : oSem RX7 cX7_tell 2 0 (some (.object "LiquidTongue$Name")) κ kc v X) (hc : ∀ j av s w, call j av s = some w → kc j av s w) {x0 : Option Nat} {x1 : Option Nat} {σ : oSt} (h : oj_X7_tell_74 n call κ x0 x1 σ = some v) : X 74 [some (va_rf x0), some (va_rf x1)] [] σ := by
  rw [oj_X7_tell_74] at h
  refine os_aload_n (r := x0) hX dX7_tell_74 rfl rfl ?_
  refine os_aload_n (r := x0) hX dX7_tell_75 rfl rfl ?_
  obtain ⟨a1, e2, h⟩ := obn_e h
  obtain ⟨r5, s3, e4, h⟩ := oin_e h
  refine oc_RX7_95 (rb := x0)  hX dX7_tell_76 (by simp only [List.map_cons, List.map_nil, List.sum_cons, List.sum_nil, ocat]; exact Nat.le_of_ble_eq_true rfl) e2 (hc _ _ _ _ e4) ?_
  obtain ⟨s6, e7, h⟩ := obn_e h
  refine ow_put (r := x0) (x := .int r5) hX dX7_tell_79 oF_RX7_44 (by decide) (opn_I oT_9_16) e7 ?_
  exact qj_X7_tell_82 hX hc h
set_option maxHeartbeats 4000000 in
theorem qb_X7_tell {κ : oKv} {n : Nat} {call : oCl} {kc : Nat → List Value → oSt → Option Value × oSt → Prop} {v : Option Value × oSt} {X : Nat → zLv → List Value → oSt → Prop} (hX : oSem RX7 cX7_tell 2 0 (some (.object "LiquidTongue$Name")) κ kc v X) (hc : ∀ j av s w, call j av s = some w → kc j av s w) {x0 : Option Nat} {σ : oSt} (h : ob_X7_tell n call κ x0 σ = some v) : X 0 [some (va_rf x0), none] [] σ := by
  rw [ob_X7_tell] at h
  refine os_aload_n (r := x0) hX dX7_tell_0 rfl rfl ?_
  obtain ⟨a1, e2, h⟩ := obn_e h
  obtain ⟨r5, s3, e4, h⟩ := oin_e h
  refine oc_RX7_57 (rb := x0)  hX dX7_tell_1 (Nat.le_of_ble_eq_true rfl) e2 (hc _ _ _ _ e4) ?_
  refine os_iconst (v := 1) hX dX7_tell_4 (by decide) ?_
  refine os_icmp_eq (tgt := 25) hX dX7_tell_5 (by decide) (fun c6 => ?_) (fun c6 => ?_)
  · rw [if_pos c6] at h
    obtain ⟨s7, e8, h⟩ := olet_e h
    refine os_new hX dX7_tell_25 oN_RX7_9 ?_
    rw [← e8]
    refine os_dup hX dX7_tell_28 (ocat (some s3.2.1)) ?_
    refine os_aload_n (r := x0) hX dX7_tell_29 rfl rfl ?_
    obtain ⟨v9, e10, h⟩ := obn_e h
    refine ow_get (r := x0) hX dX7_tell_30 oF_RX7_50 (ovr_e e10) ?_
    refine os_aload_n (r := x0) hX dX7_tell_33 rfl rfl ?_
    obtain ⟨v11, e12, h⟩ := obn_e h
    refine ow_get (r := x0) hX dX7_tell_34 oF_RX7_86 (ovi_e e12) ?_
    obtain ⟨a13, e14, h⟩ := obn_e h
    obtain ⟨r17, s15, e16, h⟩ := orn_e h
    refine oc_RX7_139 (rb := v9) (a1 := .int v11) hX dX7_tell_37 (by simp only [List.map_cons, List.map_nil, List.sum_cons, List.sum_nil, ocat]; exact Nat.le_of_ble_eq_true rfl) e14 (hc _ _ _ _ e16) ?_
    refine os_sipush (v := 210) hX dX7_tell_40 (by decide) ?_
    obtain ⟨a18, e19, h⟩ := obn_e h
    obtain ⟨s20, e21, h⟩ := ocv_e h
    refine oc_RX7_136 (rb := (some s3.2.1)) (a1 := va_rf r17) (a2 := .int 210) hX dX7_tell_43 (by simp only [List.map_cons, List.map_nil, List.sum_cons, List.sum_nil, ocat]; exact Nat.le_of_ble_eq_true rfl) e19 (hc _ _ _ _ e21) ?_
    refine os_astore_n (r := (some s3.2.1)) hX dX7_tell_46 rfl (by decide) (ozlo (i := 0) (r := x0) rfl) ?_
    dsimp only [List.set]
    refine os_aload_n (r := x0) hX dX7_tell_47 rfl rfl ?_
    obtain ⟨v23, e24, h⟩ := obn_e h
    refine ow_get (r := x0) hX dX7_tell_48 oF_RX7_44 (ovi_e e24) ?_
    refine os_if_ge (tgt := 82) hX dX7_tell_51 (by decide) (fun c25 => ?_) (fun c25 => ?_)
    · rw [if_pos c25] at h
      exact qj_X7_tell_82 hX hc h
    · rw [if_neg c25] at h
      refine os_aload_n (r := x0) hX dX7_tell_54 rfl rfl ?_
      obtain ⟨v26, e27, h⟩ := obn_e h
      refine ow_get (r := x0) hX dX7_tell_55 oF_RX7_103 (ovi_e e27) ?_
      refine os_bipush (v := 12) hX dX7_tell_58 (by decide) ?_
      refine os_icmp_ge (tgt := 74) hX dX7_tell_60 (by decide) (fun c28 => ?_) (fun c28 => ?_)
      · rw [if_pos c28] at h
        exact qj_X7_tell_74 hX hc h
      · rw [if_neg c28] at h
        refine os_aload_n (r := x0) hX dX7_tell_63 rfl rfl ?_
        refine os_aload_n (r := (some s3.2.1)) hX dX7_tell_64 rfl rfl ?_
        obtain ⟨v29, e30, h⟩ := obn_e h
        refine ow_get (r := (some s3.2.1)) hX dX7_tell_65 oF_RX7_143 (ovr_e e30) ?_
        obtain ⟨a31, e32, h⟩ := obn_e h
        obtain ⟨r35, s33, e34, h⟩ := orn_e h
        refine oc_RX7_147 (rb := x0) (a1 := va_rf v29) hX dX7_tell_68 (Nat.le_of_ble_eq_true rfl) e32 (hc _ _ _ _ e34) ?_
        refine os_ifnull (r := r35) (tgt := 82) hX dX7_tell_71 (by decide) (fun c36 => ?_) (fun c36 => ?_)
        · rw [if_pos c36] at h
          exact qj_X7_tell_82 hX hc h
        · rw [if_neg c36] at h
          exact qj_X7_tell_74 hX hc h
  · rw [if_neg c6] at h
    refine os_aload_n (r := x0) hX dX7_tell_8 rfl rfl ?_
    obtain ⟨a37, e38, h⟩ := obn_e h
    obtain ⟨s39, e40, h⟩ := ocv_e h
    refine oc_RX7_78 (rb := x0)  hX dX7_tell_9 (Nat.le_of_ble_eq_true rfl) e38 (hc _ _ _ _ e40) ?_
    obtain ⟨s42, e43, h⟩ := olet_e h
    refine os_new hX dX7_tell_12 oN_RX7_9 ?_
    rw [← e43]
    refine os_dup hX dX7_tell_15 (ocat (some s39.2.1)) ?_
    refine os_ldcS (q := (RX7, 134, "")) hX dX7_tell_16 (show okt[3]? = some _ from rfl) rfl ?_
    refine os_sipush (v := 210) hX dX7_tell_18 (by decide) ?_
    obtain ⟨a44, e45, h⟩ := obn_e h
    obtain ⟨s46, e47, h⟩ := ocv_e h
    refine oc_RX7_136 (rb := (some s39.2.1)) (a1 := va_rf (some (κ.1 3))) (a2 := .int 210) hX dX7_tell_21 (by simp only [List.map_cons, List.map_nil, List.sum_cons, List.sum_nil, ocat]; exact Nat.le_of_ble_eq_true rfl) e45 (hc _ _ _ _ e47) ?_
    exact os_aret (r := (some s39.2.1)) hX dX7_tell_24 rfl (Option.some.inj h)
def oj_X7_count_27 (n : Nat) (call : oCl) (κ : oKv) (x0 : Option Nat) (σ : oSt) : oRs :=
  obn (ovi (ofd σ x0 9 12)) fun v1 =>
  obn (opf σ x0 9 12 (.int (v1 + 1))) fun s3 =>
  some (none, s3)
def ob_X7_count (n : Nat) (call : oCl) (κ : oKv) (x0 : Option Nat) (x1 : Option Nat) (σ : oSt) : oRs :=
  obn (ovi (ofd σ x0 9 12)) fun v1 =>
  obn (opf σ x1 6 1 (.int v1)) fun s3 =>
  obn (ovi (ofd s3 x0 9 12)) fun v5 =>
  if 12 ≤ v5 then
    oj_X7_count_27 n call κ x0 s3
  else
    obn (ovr (ofd s3 x0 9 1)) fun v8 =>
    obn (ovi (ofd s3 x0 9 12)) fun v10 =>
    obn (osr s3 v8 v10 x1) fun s12 =>
    oj_X7_count_27 n call κ x0 s12
set_option maxHeartbeats 4000000 in
theorem qj_X7_count_27 {κ : oKv} {n : Nat} {call : oCl} {kc : Nat → List Value → oSt → Option Value × oSt → Prop} {v : Option Value × oSt} {X : Nat → zLv → List Value → oSt → Prop} (hX : oSem RX7 cX7_count 2 0 none κ kc v X) (hc : ∀ j av s w, call j av s = some w → kc j av s w) {x0 : Option Nat} {σ : oSt} (h : oj_X7_count_27 n call κ x0 σ = some v) : X 27 [some (va_rf x0), none] [] σ := by
  rw [oj_X7_count_27] at h
  refine os_aload_n (r := x0) hX dX7_count_27 rfl rfl ?_
  refine os_dup hX dX7_count_28 (ocat x0) ?_
  obtain ⟨v1, e2, h⟩ := obn_e h
  refine ow_get (r := x0) hX dX7_count_29 oF_RX7_103 (ovi_e e2) ?_
  refine os_iconst (v := 1) hX dX7_count_32 (by decide) ?_
  refine os_iadd hX dX7_count_33 ?_
  obtain ⟨s3, e4, h⟩ := obn_e h
  refine ow_put (r := x0) (x := .int (v1 + 1)) hX dX7_count_34 oF_RX7_103 (by decide) (opn_I oT_9_12) e4 ?_
  exact os_vret hX dX7_count_37 rfl (Option.some.inj h)
set_option maxHeartbeats 4000000 in
theorem qb_X7_count {κ : oKv} {n : Nat} {call : oCl} {kc : Nat → List Value → oSt → Option Value × oSt → Prop} {v : Option Value × oSt} {X : Nat → zLv → List Value → oSt → Prop} (hX : oSem RX7 cX7_count 2 0 none κ kc v X) (hc : ∀ j av s w, call j av s = some w → kc j av s w) {x0 : Option Nat} {x1 : Option Nat} {σ : oSt} (h : ob_X7_count n call κ x0 x1 σ = some v) : X 0 [some (va_rf x0), some (va_rf x1)] [] σ := by
  rw [ob_X7_count] at h
  refine os_aload_n (r := x1) hX dX7_count_0 rfl rfl ?_
  refine os_aload_n (r := x0) hX dX7_count_1 rfl rfl ?_
  obtain ⟨v1, e2, h⟩ := obn_e h
  refine ow_get (r := x0) hX dX7_count_2 oF_RX7_103 (ovi_e e2) ?_
  obtain ⟨s3, e4, h⟩ := obn_e h
  refine ow_put (r := x1) (x := .int v1) hX dX7_count_5 oF_RX7_155 (by decide) (opn_I oT_6_1) e4 ?_
  refine os_aload_n (r := x0) hX dX7_count_8 rfl rfl ?_
  obtain ⟨v5, e6, h⟩ := obn_e h
  refine ow_get (r := x0) hX dX7_count_9 oF_RX7_103 (ovi_e e6) ?_
  refine os_bipush (v := 12) hX dX7_count_12 (by decide) ?_
  refine os_icmp_ge (tgt := 27) hX dX7_count_14 (by decide) (fun c7 => ?_) (fun c7 => ?_)
  · rw [if_pos c7] at h
    refine os_weak hX (lw := [some (va_rf x0), none]) ⟨rfl, trivial⟩ ?_
    exact qj_X7_count_27 hX hc h
  · rw [if_neg c7] at h
    refine os_aload_n (r := x0) hX dX7_count_17 rfl rfl ?_
    obtain ⟨v8, e9, h⟩ := obn_e h
    refine ow_get (r := x0) hX dX7_count_18 oF_RX7_11 (ovr_e e9) ?_
    refine os_aload_n (r := x0) hX dX7_count_21 rfl rfl ?_
    obtain ⟨v10, e11, h⟩ := obn_e h
    refine ow_get (r := x0) hX dX7_count_22 oF_RX7_103 (ovi_e e11) ?_
    refine os_aload_n (r := x1) hX dX7_count_25 rfl rfl ?_
    obtain ⟨s12, e13, h⟩ := obn_e h
    refine ow_sr (r := v8) (i := v10) (y := x1) hX dX7_count_26 e13 ?_
    refine os_weak hX (lw := [some (va_rf x0), none]) ⟨rfl, trivial⟩ ?_
    exact qj_X7_count_27 hX hc h
def oj_X7_readInput_57 (n : Nat) (call : oCl) (κ : oKv) (x0 : Option Nat) (x1 : Option Nat) (σ : oSt) : oRs :=
  obn (oob σ x0 9) fun a1 =>
  ocv (call 108 [va_rf x0, .int 59] σ) fun s3 =>
  obn (oob s3 x0 9) fun a6 =>
  ocv (call 116 [va_rf x0, va_rf x1] s3) fun s8 =>
  some (none, s8)
def oj_X7_readInput_41 (n : Nat) (call : oCl) (κ : oKv) (x0 : Option Nat) (x1 : Option Nat) (x2 : Int32) (σ : oSt) : oRs :=
  obn (opf σ x1 6 3 (.int x2)) fun s1 =>
  obn (oob s1 x0 9) fun a3 =>
  ocv (call 105 [va_rf x0] s1) fun s5 =>
  oj_X7_readInput_57 n call κ x0 x1 s5
def ob_X7_readInput (n : Nat) (call : oCl) (κ : oKv) (x0 : Option Nat) (σ : oSt) : oRs :=
  obn (oob σ x0 9) fun a1 =>
  ocv (call 105 [va_rf x0] σ) fun s3 =>
  obn (oob s3 x0 9) fun a6 =>
  orn (call 115 [va_rf x0] s3) fun r10 s8 =>
  obn (oob s8 x0 9) fun a11 =>
  ocv (call 108 [va_rf x0, .int 58] s8) fun s13 =>
  obn (oob s13 x0 9) fun a16 =>
  oin (call 104 [va_rf x0] s13) fun r20 s18 =>
  if r20 = 210 then
    oj_X7_readInput_41 n call κ x0 r10 r20 s18
  else
    if r20 = 202 then
      oj_X7_readInput_41 n call κ x0 r10 r20 s18
    else
      if r20 = 200 then
        oj_X7_readInput_41 n call κ x0 r10 r20 s18
      else
        obn (oob s18 x0 9) fun a24 =>
        ocv (call 107 [va_rf x0] s18) fun s26 =>
        oj_X7_readInput_57 n call κ x0 r10 s26
set_option maxHeartbeats 4000000 in
theorem qj_X7_readInput_57 {κ : oKv} {n : Nat} {call : oCl} {kc : Nat → List Value → oSt → Option Value × oSt → Prop} {v : Option Value × oSt} {X : Nat → zLv → List Value → oSt → Prop} (hX : oSem RX7 cX7_readInput 3 0 none κ kc v X) (hc : ∀ j av s w, call j av s = some w → kc j av s w) {x0 : Option Nat} {x1 : Option Nat} {σ : oSt} (h : oj_X7_readInput_57 n call κ x0 x1 σ = some v) : X 57 [some (va_rf x0), some (va_rf x1), none] [] σ := by
  rw [oj_X7_readInput_57] at h
  refine os_aload_n (r := x0) hX dX7_readInput_57 rfl rfl ?_
  refine os_bipush (v := 59) hX dX7_readInput_58 (by decide) ?_
  obtain ⟨a1, e2, h⟩ := obn_e h
  obtain ⟨s3, e4, h⟩ := ocv_e h
  refine oc_RX7_109 (rb := x0) (a1 := .int 59) hX dX7_readInput_60 (Nat.le_of_ble_eq_true rfl) e2 (hc _ _ _ _ e4) ?_
  refine os_aload_n (r := x0) hX dX7_readInput_63 rfl rfl ?_
  refine os_aload_n (r := x1) hX dX7_readInput_64 rfl rfl ?_
  obtain ⟨a6, e7, h⟩ := obn_e h
  obtain ⟨s8, e9, h⟩ := ocv_e h
  refine oc_RX7_131 (rb := x0) (a1 := va_rf x1) hX dX7_readInput_65 (Nat.le_of_ble_eq_true rfl) e7 (hc _ _ _ _ e9) ?_
  exact os_vret hX dX7_readInput_68 rfl (Option.some.inj h)
set_option maxHeartbeats 4000000 in
theorem qj_X7_readInput_41 {κ : oKv} {n : Nat} {call : oCl} {kc : Nat → List Value → oSt → Option Value × oSt → Prop} {v : Option Value × oSt} {X : Nat → zLv → List Value → oSt → Prop} (hX : oSem RX7 cX7_readInput 3 0 none κ kc v X) (hc : ∀ j av s w, call j av s = some w → kc j av s w) {x0 : Option Nat} {x1 : Option Nat} {x2 : Int32} {σ : oSt} (h : oj_X7_readInput_41 n call κ x0 x1 x2 σ = some v) : X 41 [some (va_rf x0), some (va_rf x1), some (.int x2)] [] σ := by
  rw [oj_X7_readInput_41] at h
  refine os_aload_n (r := x1) hX dX7_readInput_41 rfl rfl ?_
  refine os_iload_n hX dX7_readInput_42 rfl rfl ?_
  obtain ⟨s1, e2, h⟩ := obn_e h
  refine ow_put (r := x1) (x := .int x2) hX dX7_readInput_43 oF_RX7_128 (by decide) (opn_I oT_6_3) e2 ?_
  refine os_aload_n (r := x0) hX dX7_readInput_46 rfl rfl ?_
  obtain ⟨a3, e4, h⟩ := obn_e h
  obtain ⟨s5, e6, h⟩ := ocv_e h
  refine oc_RX7_98 (rb := x0)  hX dX7_readInput_47 (Nat.le_of_ble_eq_true rfl) e4 (hc _ _ _ _ e6) ?_
  refine os_goto (tgt := 57) hX dX7_readInput_50 (by decide) ?_
  refine os_weak hX (lw := [some (va_rf x0), some (va_rf x1), none]) ⟨rfl, rfl, trivial⟩ ?_
  exact qj_X7_readInput_57 hX hc h
set_option maxHeartbeats 4000000 in
theorem qb_X7_readInput {κ : oKv} {n : Nat} {call : oCl} {kc : Nat → List Value → oSt → Option Value × oSt → Prop} {v : Option Value × oSt} {X : Nat → zLv → List Value → oSt → Prop} (hX : oSem RX7 cX7_readInput 3 0 none κ kc v X) (hc : ∀ j av s w, call j av s = some w → kc j av s w) {x0 : Option Nat} {σ : oSt} (h : ob_X7_readInput n call κ x0 σ = some v) : X 0 [some (va_rf x0), none, none] [] σ := by
  rw [ob_X7_readInput] at h
  refine os_aload_n (r := x0) hX dX7_readInput_0 rfl rfl ?_
  obtain ⟨a1, e2, h⟩ := obn_e h
  obtain ⟨s3, e4, h⟩ := ocv_e h
  refine oc_RX7_98 (rb := x0)  hX dX7_readInput_1 (Nat.le_of_ble_eq_true rfl) e2 (hc _ _ _ _ e4) ?_
  refine os_aload_n (r := x0) hX dX7_readInput_4 rfl rfl ?_
  obtain ⟨a6, e7, h⟩ := obn_e h
  obtain ⟨r10, s8, e9, h⟩ := orn_e h
  refine oc_RX7_124 (rb := x0)  hX dX7_readInput_5 (Nat.le_of_ble_eq_true rfl) e7 (hc _ _ _ _ e9) ?_
  refine os_astore_n (r := r10) hX dX7_readInput_8 rfl (by decide) (ozlo (i := 0) (r := x0) rfl) ?_
  dsimp only [List.set]
  refine os_aload_n (r := x0) hX dX7_readInput_9 rfl rfl ?_
  refine os_bipush (v := 58) hX dX7_readInput_10 (by decide) ?_
  obtain ⟨a11, e12, h⟩ := obn_e h
  obtain ⟨s13, e14, h⟩ := ocv_e h
  refine oc_RX7_109 (rb := x0) (a1 := .int 58) hX dX7_readInput_12 (Nat.le_of_ble_eq_true rfl) e12 (hc _ _ _ _ e14) ?_
  refine os_aload_n (r := x0) hX dX7_readInput_15 rfl rfl ?_
  obtain ⟨a16, e17, h⟩ := obn_e h
  obtain ⟨r20, s18, e19, h⟩ := oin_e h
  refine oc_RX7_57 (rb := x0)  hX dX7_readInput_16 (Nat.le_of_ble_eq_true rfl) e17 (hc _ _ _ _ e19) ?_
  refine os_istore_n hX dX7_readInput_19 rfl (by decide) (ozlo (i := 1) (r := r10) rfl) ?_
  dsimp only [List.set]
  refine os_iload_n hX dX7_readInput_20 rfl rfl ?_
  refine os_sipush (v := 210) hX dX7_readInput_21 (by decide) ?_
  refine os_icmp_eq (tgt := 41) hX dX7_readInput_24 (by decide) (fun c21 => ?_) (fun c21 => ?_)
  · rw [if_pos c21] at h
    exact qj_X7_readInput_41 hX hc h
  · rw [if_neg c21] at h
    refine os_iload_n hX dX7_readInput_27 rfl rfl ?_
    refine os_sipush (v := 202) hX dX7_readInput_28 (by decide) ?_
    refine os_icmp_eq (tgt := 41) hX dX7_readInput_31 (by decide) (fun c22 => ?_) (fun c22 => ?_)
    · rw [if_pos c22] at h
      exact qj_X7_readInput_41 hX hc h
    · rw [if_neg c22] at h
      refine os_iload_n hX dX7_readInput_34 rfl rfl ?_
      refine os_sipush (v := 200) hX dX7_readInput_35 (by decide) ?_
      refine os_icmp_ne (tgt := 53) hX dX7_readInput_38 (by decide) (fun c23 => ?_) (fun c23 => ?_)
      · rw [if_neg c23] at h
        refine os_aload_n (r := x0) hX dX7_readInput_53 rfl rfl ?_
        obtain ⟨a24, e25, h⟩ := obn_e h
        obtain ⟨s26, e27, h⟩ := ocv_e h
        refine oc_RX7_78 (rb := x0)  hX dX7_readInput_54 (Nat.le_of_ble_eq_true rfl) e25 (hc _ _ _ _ e27) ?_
        refine os_weak hX (lw := [some (va_rf x0), some (va_rf r10), none]) ⟨rfl, rfl, trivial⟩ ?_
        exact qj_X7_readInput_57 hX hc h
      · rw [if_pos c23] at h
        exact qj_X7_readInput_41 hX hc h
def ob_X7_node (n : Nat) (call : oCl) (κ : oKv) (x0 : Option Nat) (x1 : Int32) (σ : oSt) : oRs :=
  olet (onew σ (.inr (7, odef 7)) (oq 7).2.2) fun s1 =>
  obn (oob s1 x0 9) fun a3 =>
  oin (call 106 [va_rf x0] s1) fun r7 s5 =>
  obn (ovi (ofd s5 x0 9 12)) fun v8 =>
  obn ((some σ.2.1)) fun a10 =>
  ocv (call 102 [va_rf (some σ.2.1), .int x1, .int r7, .int v8] s5) fun s12 =>
  some (some (va_rf (some σ.2.1)), s12)
set_option maxHeartbeats 4000000 in
theorem qb_X7_node {κ : oKv} {n : Nat} {call : oCl} {kc : Nat → List Value → oSt → Option Value × oSt → Prop} {v : Option Value × oSt} {X : Nat → zLv → List Value → oSt → Prop} (hX : oSem RX7 cX7_node 2 0 (some (.object "LiquidTongue$Node")) κ kc v X) (hc : ∀ j av s w, call j av s = some w → kc j av s w) {x0 : Option Nat} {x1 : Int32} {σ : oSt} (h : ob_X7_node n call κ x0 x1 σ = some v) : X 0 [some (va_rf x0), some (.int x1)] [] σ := by
  rw [ob_X7_node] at h
  obtain ⟨s1, e2, h⟩ := olet_e h
  refine os_new hX dX7_node_0 oN_RX7_101 ?_
  rw [← e2]
  refine os_dup hX dX7_node_3 (ocat (some σ.2.1)) ?_
  refine os_iload_n hX dX7_node_4 rfl rfl ?_
  refine os_aload_n (r := x0) hX dX7_node_5 rfl rfl ?_
  obtain ⟨a3, e4, h⟩ := obn_e h
  obtain ⟨r7, s5, e6, h⟩ := oin_e h
  refine oc_RX7_95 (rb := x0)  hX dX7_node_6 (by simp only [List.map_cons, List.map_nil, List.sum_cons, List.sum_nil, ocat]; exact Nat.le_of_ble_eq_true rfl) e4 (hc _ _ _ _ e6) ?_
  refine os_aload_n (r := x0) hX dX7_node_9 rfl rfl ?_
  obtain ⟨v8, e9, h⟩ := obn_e h
  refine ow_get (r := x0) hX dX7_node_10 oF_RX7_103 (ovi_e e9) ?_
  obtain ⟨a10, e11, h⟩ := obn_e h
  obtain ⟨s12, e13, h⟩ := ocv_e h
  refine oc_RX7_106 (rb := (some σ.2.1)) (a1 := .int x1) (a2 := .int r7) (a3 := .int v8) hX dX7_node_13 (by simp only [List.map_cons, List.map_nil, List.sum_cons, List.sum_nil, ocat]; exact Nat.le_of_ble_eq_true rfl) e11 (hc _ _ _ _ e13) ?_
  exact os_aret (r := (some σ.2.1)) hX dX7_node_16 rfl (Option.some.inj h)
def oj_X7_use_49 (n : Nat) (call : oCl) (κ : oKv) (x0 : Option Nat) (x1 : Option Nat) (σ : oSt) : oRs :=
  obn (oob σ x0 9) fun a1 =>
  ocv (call 105 [va_rf x0] σ) fun s3 =>
  some (some (va_rf x1), s3)
def ob_X7_use (n : Nat) (call : oCl) (κ : oKv) (x0 : Option Nat) (σ : oSt) : oRs :=
  obn (oob σ x0 9) fun a1 =>
  oin (call 104 [va_rf x0] σ) fun r5 s3 =>
  if r5 = 1 then
    obn (ovr (ofd s3 x0 9 0)) fun v7 =>
    obn (ovi (ofd s3 x0 9 11)) fun v9 =>
    obn (oob s3 v7 13) fun a11 =>
    orn (call 113 [va_rf v7, .int v9] s3) fun r15 s13 =>
    obn (oob s13 x0 9) fun a16 =>
    orn (call 114 [va_rf x0, va_rf r15] s13) fun r20 s18 =>
    if r20 = none then
      obn (ovi (ofd s18 x0 9 16)) fun v22 =>
      if 0 ≤ v22 then
        oj_X7_use_49 n call κ x0 r20 s18
      else
        obn (oob s18 x0 9) fun a25 =>
        oin (call 106 [va_rf x0] s18) fun r29 s27 =>
        obn (opf s27 x0 9 16 (.int r29)) fun s30 =>
        oj_X7_use_49 n call κ x0 r20 s30
    else
      oj_X7_use_49 n call κ x0 r20 s18
  else
    obn (oob s3 x0 9) fun a32 =>
    ocv (call 107 [va_rf x0] s3) fun s34 =>
    some (some (va_rf none), s34)
set_option maxHeartbeats 4000000 in
theorem qj_X7_use_49 {κ : oKv} {n : Nat} {call : oCl} {kc : Nat → List Value → oSt → Option Value × oSt → Prop} {v : Option Value × oSt} {X : Nat → zLv → List Value → oSt → Prop} (hX : oSem RX7 cX7_use 2 0 (some (.object "LiquidTongue$Name")) κ kc v X) (hc : ∀ j av s w, call j av s = some w → kc j av s w) {x0 : Option Nat} {x1 : Option Nat} {σ : oSt} (h : oj_X7_use_49 n call κ x0 x1 σ = some v) : X 49 [some (va_rf x0), some (va_rf x1)] [] σ := by
  rw [oj_X7_use_49] at h
  refine os_aload_n (r := x0) hX dX7_use_49 rfl rfl ?_
  obtain ⟨a1, e2, h⟩ := obn_e h
  obtain ⟨s3, e4, h⟩ := ocv_e h
  refine oc_RX7_98 (rb := x0)  hX dX7_use_50 (Nat.le_of_ble_eq_true rfl) e2 (hc _ _ _ _ e4) ?_
  refine os_aload_n (r := x1) hX dX7_use_53 rfl rfl ?_
  exact os_aret (r := x1) hX dX7_use_54 rfl (Option.some.inj h)
set_option maxHeartbeats 4000000 in
theorem qb_X7_use {κ : oKv} {n : Nat} {call : oCl} {kc : Nat → List Value → oSt → Option Value × oSt → Prop} {v : Option Value × oSt} {X : Nat → zLv → List Value → oSt → Prop} (hX : oSem RX7 cX7_use 2 0 (some (.object "LiquidTongue$Name")) κ kc v X) (hc : ∀ j av s w, call j av s = some w → kc j av s w) {x0 : Option Nat} {σ : oSt} (h : ob_X7_use n call κ x0 σ = some v) : X 0 [some (va_rf x0), none] [] σ := by
  rw [ob_X7_use] at h
  refine os_aload_n (r := x0) hX dX7_use_0 rfl rfl ?_
  obtain ⟨a1, e2, h⟩ := obn_e h
  obtain ⟨r5, s3, e4, h⟩ := oin_e h
  refine oc_RX7_57 (rb := x0)  hX dX7_use_1 (Nat.le_of_ble_eq_true rfl) e2 (hc _ _ _ _ e4) ?_
  refine os_iconst (v := 1) hX dX7_use_4 (by decide) ?_
  refine os_icmp_eq (tgt := 14) hX dX7_use_5 (by decide) (fun c6 => ?_) (fun c6 => ?_)
  · rw [if_pos c6] at h
    refine os_aload_n (r := x0) hX dX7_use_14 rfl rfl ?_
    refine os_aload_n (r := x0) hX dX7_use_15 rfl rfl ?_
    obtain ⟨v7, e8, h⟩ := obn_e h
    refine ow_get (r := x0) hX dX7_use_16 oF_RX7_50 (ovr_e e8) ?_
    refine os_aload_n (r := x0) hX dX7_use_19 rfl rfl ?_
    obtain ⟨v9, e10, h⟩ := obn_e h
    refine ow_get (r := x0) hX dX7_use_20 oF_RX7_86 (ovi_e e10) ?_
    obtain ⟨a11, e12, h⟩ := obn_e h
    obtain ⟨r15, s13, e14, h⟩ := orn_e h
    refine oc_RX7_139 (rb := v7) (a1 := .int v9) hX dX7_use_23 (by simp only [List.map_cons, List.map_nil, List.sum_cons, List.sum_nil, ocat]; exact Nat.le_of_ble_eq_true rfl) e12 (hc _ _ _ _ e14) ?_
    obtain ⟨a16, e17, h⟩ := obn_e h
    obtain ⟨r20, s18, e19, h⟩ := orn_e h
    refine oc_RX7_147 (rb := x0) (a1 := va_rf r15) hX dX7_use_26 (Nat.le_of_ble_eq_true rfl) e17 (hc _ _ _ _ e19) ?_
    refine os_astore_n (r := r20) hX dX7_use_29 rfl (by decide) (ozlo (i := 0) (r := x0) rfl) ?_
    dsimp only [List.set]
    refine os_aload_n (r := r20) hX dX7_use_30 rfl rfl ?_
    refine os_ifnonnull (r := r20) (tgt := 49) hX dX7_use_31 (by decide) (fun c21 => ?_) (fun c21 => ?_)
    · rw [if_neg c21] at h
      exact qj_X7_use_49 hX hc h
    · rw [if_pos c21] at h
      refine os_aload_n (r := x0) hX dX7_use_34 rfl rfl ?_
      obtain ⟨v22, e23, h⟩ := obn_e h
      refine ow_get (r := x0) hX dX7_use_35 oF_RX7_44 (ovi_e e23) ?_
      refine os_if_ge (tgt := 49) hX dX7_use_38 (by decide) (fun c24 => ?_) (fun c24 => ?_)
      · rw [if_pos c24] at h
        exact qj_X7_use_49 hX hc h
      · rw [if_neg c24] at h
        refine os_aload_n (r := x0) hX dX7_use_41 rfl rfl ?_
        refine os_aload_n (r := x0) hX dX7_use_42 rfl rfl ?_
        obtain ⟨a25, e26, h⟩ := obn_e h
        obtain ⟨r29, s27, e28, h⟩ := oin_e h
        refine oc_RX7_95 (rb := x0)  hX dX7_use_43 (by simp only [List.map_cons, List.map_nil, List.sum_cons, List.sum_nil, ocat]; exact Nat.le_of_ble_eq_true rfl) e26 (hc _ _ _ _ e28) ?_
        obtain ⟨s30, e31, h⟩ := obn_e h
        refine ow_put (r := x0) (x := .int r29) hX dX7_use_46 oF_RX7_44 (by decide) (opn_I oT_9_16) e31 ?_
        exact qj_X7_use_49 hX hc h
  · rw [if_neg c6] at h
    refine os_aload_n (r := x0) hX dX7_use_8 rfl rfl ?_
    obtain ⟨a32, e33, h⟩ := obn_e h
    obtain ⟨s34, e35, h⟩ := ocv_e h
    refine oc_RX7_78 (rb := x0)  hX dX7_use_9 (Nat.le_of_ble_eq_true rfl) e33 (hc _ _ _ _ e35) ?_
    refine os_null hX dX7_use_12 ?_
    exact os_aret (r := none) hX dX7_use_13 rfl (Option.some.inj h)
def oj_X7_sum__260 (n : Nat) (call : oCl) (κ : oKv) (k43 : Option Nat → Int32 → Option Nat → Int32 → Int32 → oSt → oRs) (x0 : Option Nat) (x1 : Int32) (x2 : Option Nat) (x4 : Int32) (t0 : Int32) (σ : oSt) : oRs :=
  k43 x0 x1 x2 t0 (x4 + 1) σ
def oj_X7_sum__255 (n : Nat) (call : oCl) (κ : oKv) (k43 : Option Nat → Int32 → Option Nat → Int32 → Int32 → oSt → oRs) (x0 : Option Nat) (x1 : Int32) (x2 : Option Nat) (x4 : Int32) (σ : oSt) : oRs :=
  oj_X7_sum__260 n call κ k43 x0 x1 x2 x4 1 σ
def oj_X7_sum__237 (n : Nat) (call : oCl) (κ : oKv) (k43 : Option Nat → Int32 → Option Nat → Int32 → Int32 → oSt → oRs) (x0 : Option Nat) (x1 : Int32) (x2 : Option Nat) (x4 : Int32) (σ : oSt) : oRs :=
  obn (oob σ x0 9) fun a1 =>
  oin (call 104 [va_rf x0] σ) fun r5 s3 =>
  if r5 = 43 then
    oj_X7_sum__255 n call κ k43 x0 x1 x2 x4 s3
  else
    obn (oob s3 x0 9) fun a7 =>
    oin (call 104 [va_rf x0] s3) fun r11 s9 =>
    if r11 = 45 then
      oj_X7_sum__255 n call κ k43 x0 x1 x2 x4 s9
    else
      oj_X7_sum__260 n call κ k43 x0 x1 x2 x4 0 s9
def oj_X7_sum__190 (n : Nat) (call : oCl) (κ : oKv) (k43 : Option Nat → Int32 → Option Nat → Int32 → Int32 → oSt → oRs) (x0 : Option Nat) (x1 : Int32) (x2 : Option Nat) (x4 : Int32) (x5 : Int32) (t0 : Option Nat) (t1 : Int32) (σ : oSt) : oRs :=
  obn (oob σ t0 9) fun a1 =>
  orn (call 118 [va_rf t0, .int t1] σ) fun r5 s3 =>
  obn (oob s3 x0 9) fun a6 =>
  orn (call 119 [va_rf x0] s3) fun r10 s8 =>
  obn (opf s8 r5 7 9 (va_rf r10)) fun s11 =>
  obn (ovr (ofd s11 r5 7 9)) fun v13 =>
  obn (opf s11 x2 7 9 (va_rf v13)) fun s15 =>
  obn (ovr (ofd s15 x2 7 18)) fun v17 =>
  obn (oob s15 v17 1) fun a19 =>
  oin (call 227 [va_rf v17, va_rf r5] s15) fun r23 s21 =>
  obn (ovr (ofd s21 x2 7 19)) fun v24 =>
  obn (ovr (ofd s21 r5 7 9)) fun v26 =>
  obn (oob s21 v24 11) fun a28 =>
  ocv (call 10 [va_rf v24, va_rf v26, .int x5] s21) fun s30 =>
  oj_X7_sum__237 n call κ k43 x0 x1 x2 x4 s30
def oj_X7_sum__158 (n : Nat) (call : oCl) (κ : oKv) (k43 : Option Nat → Int32 → Option Nat → Int32 → Int32 → oSt → oRs) (x0 : Option Nat) (x1 : Int32) (x2 : Option Nat) (x4 : Int32) (x5 : Int32) (x6 : Int32) (σ : oSt) : oRs :=
  if x6 = 211 then
    oj_X7_sum__190 n call κ k43 x0 x1 x2 x4 x5 x0 200 σ
  else
    if x6 = 221 then
      oj_X7_sum__190 n call κ k43 x0 x1 x2 x4 x5 x0 213 σ
    else
      oj_X7_sum__190 n call κ k43 x0 x1 x2 x4 x5 x0 210 σ
def oj_X7_sum__154 (n : Nat) (call : oCl) (κ : oKv) (k43 : Option Nat → Int32 → Option Nat → Int32 → Int32 → oSt → oRs) (x0 : Option Nat) (x1 : Int32) (x2 : Option Nat) (x4 : Int32) (x5 : Int32) (x6 : Int32) (σ : oSt) : oRs :=
  obn (oob σ x0 9) fun a1 =>
  ocv (call 105 [va_rf x0] σ) fun s3 =>
  oj_X7_sum__158 n call κ k43 x0 x1 x2 x4 x5 x6 s3
def oj_X7_sum__92 (n : Nat) (call : oCl) (κ : oKv) (k43 : Option Nat → Int32 → Option Nat → Int32 → Int32 → oSt → oRs) (x0 : Option Nat) (x1 : Int32) (x2 : Option Nat) (x4 : Int32) (x5 : Int32) (σ : oSt) : oRs :=
  obn (oob σ x0 9) fun a1 =>
  oin (call 104 [va_rf x0] σ) fun r5 s3 =>
  if r5 = 2 then
    obn (ovr (ofd s3 x2 7 19)) fun v9 =>
    obn (ovl (ofd s3 v9 11 3)) fun v11 =>
    obn (ovr (ofd s3 x0 9 0)) fun v13 =>
    obn (ovi (ofd s3 x0 9 11)) fun v15 =>
    obn (oob s3 v13 13) fun a17 =>
    oin (call 110 [va_rf v13, .int v15] s3) fun r21 s19 =>
    obn (opf s19 v9 11 3 (.long (v11 + ((x5 * r21).toInt64)))) fun s22 =>
    obn (oob s22 x0 9) fun a24 =>
    ocv (call 105 [va_rf x0] s22) fun s26 =>
    oj_X7_sum__237 n call κ k43 x0 x1 x2 x4 s26
  else
    if r5 = 211 then
      oj_X7_sum__154 n call κ k43 x0 x1 x2 x4 x5 r5 s3
    else
      if r5 = 221 then
        oj_X7_sum__154 n call κ k43 x0 x1 x2 x4 x5 r5 s3
      else
        oj_X7_sum__158 n call κ k43 x0 x1 x2 x4 x5 r5 s3
def oj_X7_sum__83 (n : Nat) (call : oCl) (κ : oKv) (k43 : Option Nat → Int32 → Option Nat → Int32 → Int32 → oSt → oRs) (x0 : Option Nat) (x1 : Int32) (x2 : Option Nat) (x4 : Int32) (x5 : Int32) (σ : oSt) : oRs :=
  obn (opf σ x2 7 6 (.int 0)) fun s1 =>
  obn (oob s1 x0 9) fun a3 =>
  ocv (call 105 [va_rf x0] s1) fun s5 =>
  oj_X7_sum__92 n call κ k43 x0 x1 x2 x4 x5 s5
def oj_X7_sum__67 (n : Nat) (call : oCl) (κ : oKv) (k43 : Option Nat → Int32 → Option Nat → Int32 → Int32 → oSt → oRs) (x0 : Option Nat) (x1 : Int32) (x2 : Option Nat) (x4 : Int32) (t0 : Int32) (σ : oSt) : oRs :=
  obn (oob σ x0 9) fun a1 =>
  oin (call 104 [va_rf x0] σ) fun r5 s3 =>
  if r5 = 45 then
    oj_X7_sum__83 n call κ k43 x0 x1 x2 x4 t0 s3
  else
    if x4 ≤ 0 then
      oj_X7_sum__92 n call κ k43 x0 x1 x2 x4 t0 s3
    else
      oj_X7_sum__83 n call κ k43 x0 x1 x2 x4 t0 s3
def ol_X7_sum__43 (n : Nat) (call : oCl) (κ : oKv) : Nat → Option Nat → Int32 → Option Nat → Int32 → Int32 → oSt → oRs
  | 0, _, _, _, _, _, _ => none
  | f + 1, x0, x1, x2, x3, x4, σ =>
    if x1 ≤ x4 then
      some (some (va_rf x2), σ)
    else
      if x3 = 0 then
        some (some (va_rf x2), σ)
      else
        obn (oob σ x0 9) fun a3 =>
        oin (call 104 [va_rf x0] σ) fun r7 s5 =>
        if r7 = 45 then
          oj_X7_sum__67 n call κ (ol_X7_sum__43 n call κ f) x0 x1 x2 x4 (-1) s5
        else
          oj_X7_sum__67 n call κ (ol_X7_sum__43 n call κ f) x0 x1 x2 x4 1 s5
def ob_X7_sum_ (n : Nat) (call : oCl) (κ : oKv) (x0 : Option Nat) (x1 : Int32) (σ : oSt) : oRs :=
  obn (oob σ x0 9) fun a1 =>
  orn (call 118 [va_rf x0, .int 400] σ) fun r5 s3 =>
  olet (onew s3 (.inr (11, odef 11)) (oq 11).2.2) fun s6 =>
  obn ((some s3.2.1)) fun a8 =>
  ocv (call 8 [va_rf (some s3.2.1)] s6) fun s10 =>
  obn (opf s10 r5 7 19 (va_rf (some s3.2.1))) fun s13 =>
  olet (onew s13 (.inr (1, odef 1)) (oq 1).2.2) fun s15 =>
  obn ((some s13.2.1)) fun a17 =>
  ocv (call 224 [va_rf (some s13.2.1)] s15) fun s19 =>
  obn (opf s19 r5 7 18 (va_rf (some s13.2.1))) fun s22 =>
  obn (oob s22 x0 9) fun a24 =>
  oin (call 104 [va_rf x0] s22) fun r28 s26 =>
  obn (opf s26 r5 7 6 (.int r28)) fun s29 =>
  ol_X7_sum__43 n call κ n x0 x1 r5 1 0 s29
set_option maxHeartbeats 4000000 in
theorem qj_X7_sum__260 {κ : oKv} {n : Nat} {call : oCl} {kc : Nat → List Value → oSt → Option Value × oSt → Prop} {v : Option Value × oSt} {X : Nat → zLv → List Value → oSt → Prop} (hX : oSem RX7 cX7_sum_ 8 0 (some (.object "LiquidTongue$Node")) κ kc v X) (hc : ∀ j av s w, call j av s = some w → kc j av s w) {k43 : Option Nat → Int32 → Option Nat → Int32 → Int32 → oSt → oRs} (hk43 : ∀ (x0 : Option Nat) (x1 : Int32) (x2 : Option Nat) (x3 : Int32) (x4 : Int32) (s : oSt), k43 x0 x1 x2 x3 x4 s = some v → X 43 [some (va_rf x0), some (.int x1), some (va_rf x2), some (.int x3), some (.int x4), none, none, none] [] s) {x0 : Option Nat} {x1 : Int32} {x2 : Option Nat} {x4 : Int32} {t0 : Int32} {σ : oSt} (h : oj_X7_sum__260 n call κ k43 x0 x1 x2 x4 t0 σ = some v) : X 260 [some (va_rf x0), some (.int x1), some (va_rf x2), none, some (.int x4), none, none, none] [.int t0] σ := by
  rw [oj_X7_sum__260] at h
  refine os_istore_n hX dX7_sum__260 rfl (by decide) (ozlo (i := 2) (r := x2) rfl) ?_
  dsimp only [List.set]
  refine os_iinc (v := x4 + 1) hX dX7_sum__261 rfl rfl (by decide) rfl ?_
  dsimp only [List.set]
  refine os_goto (tgt := 43) hX dX7_sum__264 (by decide) ?_
  exact hk43 _ _ _ _ _ _ h
set_option maxHeartbeats 4000000 in
theorem qj_X7_sum__255 {κ : oKv} {n : Nat} {call : oCl} {kc : Nat → List Value → oSt → Option Value × oSt → Prop} {v : Option Value × oSt} {X : Nat → zLv → List Value → oSt → Prop} (hX : oSem RX7 cX7_sum_ 8 0 (some (.object "LiquidTongue$Node")) κ kc v X) (hc : ∀ j av s w, call j av s = some w → kc j av s w) {k43 : Option Nat → Int32 → Option Nat → Int32 → Int32 → oSt → oRs} (hk43 : ∀ (x0 : Option Nat) (x1 : Int32) (x2 : Option Nat) (x3 : Int32) (x4 : Int32) (s : oSt), k43 x0 x1 x2 x3 x4 s = some v → X 43 [some (va_rf x0), some (.int x1), some (va_rf x2), some (.int x3), some (.int x4), none, none, none] [] s) {x0 : Option Nat} {x1 : Int32} {x2 : Option Nat} {x4 : Int32} {σ : oSt} (h : oj_X7_sum__255 n call κ k43 x0 x1 x2 x4 σ = some v) : X 255 [some (va_rf x0), some (.int x1), some (va_rf x2), none, some (.int x4), none, none, none] [] σ := by
  rw [oj_X7_sum__255] at h
  refine os_iconst (v := 1) hX dX7_sum__255 (by decide) ?_
  refine os_goto (tgt := 260) hX dX7_sum__256 (by decide) ?_
  exact qj_X7_sum__260 hX hc hk43 h
set_option maxHeartbeats 4000000 in
theorem qj_X7_sum__237 {κ : oKv} {n : Nat} {call : oCl} {kc : Nat → List Value → oSt → Option Value × oSt → Prop} {v : Option Value × oSt} {X : Nat → zLv → List Value → oSt → Prop} (hX : oSem RX7 cX7_sum_ 8 0 (some (.object "LiquidTongue$Node")) κ kc v X) (hc : ∀ j av s w, call j av s = some w → kc j av s w) {k43 : Option Nat → Int32 → Option Nat → Int32 → Int32 → oSt → oRs} (hk43 : ∀ (x0 : Option Nat) (x1 : Int32) (x2 : Option Nat) (x3 : Int32) (x4 : Int32) (s : oSt), k43 x0 x1 x2 x3 x4 s = some v → X 43 [some (va_rf x0), some (.int x1), some (va_rf x2), some (.int x3), some (.int x4), none, none, none] [] s) {x0 : Option Nat} {x1 : Int32} {x2 : Option Nat} {x4 : Int32} {σ : oSt} (h : oj_X7_sum__237 n call κ k43 x0 x1 x2 x4 σ = some v) : X 237 [some (va_rf x0), some (.int x1), some (va_rf x2), none, some (.int x4), none, none, none] [] σ := by
  rw [oj_X7_sum__237] at h
  refine os_aload_n (r := x0) hX dX7_sum__237 rfl rfl ?_
  obtain ⟨a1, e2, h⟩ := obn_e h
  obtain ⟨r5, s3, e4, h⟩ := oin_e h
  refine oc_RX7_57 (rb := x0)  hX dX7_sum__238 (Nat.le_of_ble_eq_true rfl) e2 (hc _ _ _ _ e4) ?_
  refine os_bipush (v := 43) hX dX7_sum__241 (by decide) ?_
  refine os_icmp_eq (tgt := 255) hX dX7_sum__243 (by decide) (fun c6 => ?_) (fun c6 => ?_)
  · rw [if_pos c6] at h
    exact qj_X7_sum__255 hX hc hk43 h
  · rw [if_neg c6] at h
    refine os_aload_n (r := x0) hX dX7_sum__246 rfl rfl ?_
    obtain ⟨a7, e8, h⟩ := obn_e h
    obtain ⟨r11, s9, e10, h⟩ := oin_e h
    refine oc_RX7_57 (rb := x0)  hX dX7_sum__247 (Nat.le_of_ble_eq_true rfl) e8 (hc _ _ _ _ e10) ?_
    refine os_bipush (v := 45) hX dX7_sum__250 (by decide) ?_
    refine os_icmp_ne (tgt := 259) hX dX7_sum__252 (by decide) (fun c12 => ?_) (fun c12 => ?_)
    · rw [if_neg c12] at h
      refine os_iconst (v := 0) hX dX7_sum__259 (by decide) ?_
      exact qj_X7_sum__260 hX hc hk43 h
    · rw [if_pos c12] at h
      exact qj_X7_sum__255 hX hc hk43 h
set_option maxHeartbeats 4000000 in
theorem qj_X7_sum__190 {κ : oKv} {n : Nat} {call : oCl} {kc : Nat → List Value → oSt → Option Value × oSt → Prop} {v : Option Value × oSt} {X : Nat → zLv → List Value → oSt → Prop} (hX : oSem RX7 cX7_sum_ 8 0 (some (.object "LiquidTongue$Node")) κ kc v X) (hc : ∀ j av s w, call j av s = some w → kc j av s w) {k43 : Option Nat → Int32 → Option Nat → Int32 → Int32 → oSt → oRs} (hk43 : ∀ (x0 : Option Nat) (x1 : Int32) (x2 : Option Nat) (x3 : Int32) (x4 : Int32) (s : oSt), k43 x0 x1 x2 x3 x4 s = some v → X 43 [some (va_rf x0), some (.int x1), some (va_rf x2), some (.int x3), some (.int x4), none, none, none] [] s) {x0 : Option Nat} {x1 : Int32} {x2 : Option Nat} {x4 : Int32} {x5 : Int32} {t0 : Option Nat} {t1 : Int32} {σ : oSt} (h : oj_X7_sum__190 n call κ k43 x0 x1 x2 x4 x5 t0 t1 σ = some v) : X 190 [some (va_rf x0), some (.int x1), some (va_rf x2), none, some (.int x4), some (.int x5), none, none] [.int t1, va_rf t0] σ := by
  rw [oj_X7_sum__190] at h
  obtain ⟨a1, e2, h⟩ := obn_e h
  obtain ⟨r5, s3, e4, h⟩ := orn_e h
  refine oc_RX7_163 (rb := t0) (a1 := .int t1) hX dX7_sum__190 (Nat.le_of_ble_eq_true rfl) e2 (hc _ _ _ _ e4) ?_
  refine os_astore (r := r5) hX dX7_sum__193 (by decide) rfl ?_
  dsimp only [List.set]
  refine os_aload (r := r5) hX dX7_sum__195 rfl ?_
  refine os_aload_n (r := x0) hX dX7_sum__197 rfl rfl ?_
  obtain ⟨a6, e7, h⟩ := obn_e h
  obtain ⟨r10, s8, e9, h⟩ := orn_e h
  refine oc_RX7_205 (rb := x0)  hX dX7_sum__198 (by simp only [List.map_cons, List.map_nil, List.sum_cons, List.sum_nil, ocat]; exact Nat.le_of_ble_eq_true rfl) e7 (hc _ _ _ _ e9) ?_
  obtain ⟨s11, e12, h⟩ := obn_e h
  refine ow_put (r := r5) (x := va_rf r10) hX dX7_sum__201 oF_RX7_208 (by decide) (orf_n (Or.inl ⟨_, oT_7_9⟩) r10) e12 ?_
  refine os_aload_n (r := x2) hX dX7_sum__204 rfl rfl ?_
  refine os_aload (r := r5) hX dX7_sum__205 rfl ?_
  obtain ⟨v13, e14, h⟩ := obn_e h
  refine ow_get (r := r5) hX dX7_sum__207 oF_RX7_208 (ovr_e e14) ?_
  obtain ⟨s15, e16, h⟩ := obn_e h
  refine ow_put (r := x2) (x := va_rf v13) hX dX7_sum__210 oF_RX7_208 (by decide) (orf_n (Or.inl ⟨_, oT_7_9⟩) v13) e16 ?_
  refine os_aload_n (r := x2) hX dX7_sum__213 rfl rfl ?_
  obtain ⟨v17, e18, h⟩ := obn_e h
  refine ow_get (r := x2) hX dX7_sum__214 oF_RX7_271 (ovr_e e18) ?_
  refine os_aload (r := r5) hX dX7_sum__217 rfl ?_
  obtain ⟨a19, e20, h⟩ := obn_e h
  obtain ⟨r23, s21, e22, h⟩ := oin_e h
  refine oc_RX7_151 (rb := v17) (a1 := va_rf r5) hX dX7_sum__219 (Nat.le_of_ble_eq_true rfl) e20 (hc _ _ _ _ e22) ?_
  refine os_pop hX dX7_sum__222 rfl ?_
  refine os_aload_n (r := x2) hX dX7_sum__223 rfl rfl ?_
  obtain ⟨v24, e25, h⟩ := obn_e h
  refine ow_get (r := x2) hX dX7_sum__224 oF_RX7_192 (ovr_e e25) ?_
  refine os_aload (r := r5) hX dX7_sum__227 rfl ?_
  obtain ⟨v26, e27, h⟩ := obn_e h
  refine ow_get (r := r5) hX dX7_sum__229 oF_RX7_208 (ovr_e e27) ?_
  refine os_iload hX dX7_sum__232 rfl ?_
  obtain ⟨a28, e29, h⟩ := obn_e h
  obtain ⟨s30, e31, h⟩ := ocv_e h
  refine oc_RX7_268 (rb := v24) (a1 := va_rf v26) (a2 := .int x5) hX dX7_sum__234 (Nat.le_of_ble_eq_true rfl) e29 (hc _ _ _ _ e31) ?_
  refine os_weak hX (lw := [some (va_rf x0), some (.int x1), some (va_rf x2), none, some (.int x4), none, none, none]) ⟨rfl, rfl, rfl, rfl, trivial⟩ ?_
  exact qj_X7_sum__237 hX hc hk43 h
set_option maxHeartbeats 4000000 in
theorem qj_X7_sum__158 {κ : oKv} {n : Nat} {call : oCl} {kc : Nat → List Value → oSt → Option Value × oSt → Prop} {v : Option Value × oSt} {X : Nat → zLv → List Value → oSt → Prop} (hX : oSem RX7 cX7_sum_ 8 0 (some (.object "LiquidTongue$Node")) κ kc v X) (hc : ∀ j av s w, call j av s = some w → kc j av s w) {k43 : Option Nat → Int32 → Option Nat → Int32 → Int32 → oSt → oRs} (hk43 : ∀ (x0 : Option Nat) (x1 : Int32) (x2 : Option Nat) (x3 : Int32) (x4 : Int32) (s : oSt), k43 x0 x1 x2 x3 x4 s = some v → X 43 [some (va_rf x0), some (.int x1), some (va_rf x2), some (.int x3), some (.int x4), none, none, none] [] s) {x0 : Option Nat} {x1 : Int32} {x2 : Option Nat} {x4 : Int32} {x5 : Int32} {x6 : Int32} {σ : oSt} (h : oj_X7_sum__158 n call κ k43 x0 x1 x2 x4 x5 x6 σ = some v) : X 158 [some (va_rf x0), some (.int x1), some (va_rf x2), none, some (.int x4), some (.int x5), some (.int x6), none] [] σ := by
  rw [oj_X7_sum__158] at h
  refine os_aload_n (r := x0) hX dX7_sum__158 rfl rfl ?_
  refine os_iload hX dX7_sum__159 rfl ?_
  refine os_sipush (v := 211) hX dX7_sum__161 (by decide) ?_
  refine os_icmp_ne (tgt := 173) hX dX7_sum__164 (by decide) (fun c1 => ?_) (fun c1 => ?_)
  · rw [if_neg c1] at h
    refine os_iload hX dX7_sum__173 rfl ?_
    refine os_sipush (v := 221) hX dX7_sum__175 (by decide) ?_
    refine os_icmp_ne (tgt := 187) hX dX7_sum__178 (by decide) (fun c2 => ?_) (fun c2 => ?_)
    · rw [if_neg c2] at h
      refine os_sipush (v := 210) hX dX7_sum__187 (by decide) ?_
      refine os_weak hX (lw := [some (va_rf x0), some (.int x1), some (va_rf x2), none, some (.int x4), some (.int x5), none, none]) ⟨rfl, rfl, rfl, rfl, rfl, trivial⟩ ?_
      exact qj_X7_sum__190 hX hc hk43 h
    · rw [if_pos c2] at h
      refine os_sipush (v := 213) hX dX7_sum__181 (by decide) ?_
      refine os_goto (tgt := 190) hX dX7_sum__184 (by decide) ?_
      refine os_weak hX (lw := [some (va_rf x0), some (.int x1), some (va_rf x2), none, some (.int x4), some (.int x5), none, none]) ⟨rfl, rfl, rfl, rfl, rfl, trivial⟩ ?_
      exact qj_X7_sum__190 hX hc hk43 h
  · rw [if_pos c1] at h
    refine os_sipush (v := 200) hX dX7_sum__167 (by decide) ?_
    refine os_goto (tgt := 190) hX dX7_sum__170 (by decide) ?_
    refine os_weak hX (lw := [some (va_rf x0), some (.int x1), some (va_rf x2), none, some (.int x4), some (.int x5), none, none]) ⟨rfl, rfl, rfl, rfl, rfl, trivial⟩ ?_
    exact qj_X7_sum__190 hX hc hk43 h
set_option maxHeartbeats 4000000 in
theorem qj_X7_sum__154 {κ : oKv} {n : Nat} {call : oCl} {kc : Nat → List Value → oSt → Option Value × oSt → Prop} {v : Option Value × oSt} {X : Nat → zLv → List Value → oSt → Prop} (hX : oSem RX7 cX7_sum_ 8 0 (some (.object "LiquidTongue$Node")) κ kc v X) (hc : ∀ j av s w, call j av s = some w → kc j av s w) {k43 : Option Nat → Int32 → Option Nat → Int32 → Int32 → oSt → oRs} (hk43 : ∀ (x0 : Option Nat) (x1 : Int32) (x2 : Option Nat) (x3 : Int32) (x4 : Int32) (s : oSt), k43 x0 x1 x2 x3 x4 s = some v → X 43 [some (va_rf x0), some (.int x1), some (va_rf x2), some (.int x3), some (.int x4), none, none, none] [] s) {x0 : Option Nat} {x1 : Int32} {x2 : Option Nat} {x4 : Int32} {x5 : Int32} {x6 : Int32} {σ : oSt} (h : oj_X7_sum__154 n call κ k43 x0 x1 x2 x4 x5 x6 σ = some v) : X 154 [some (va_rf x0), some (.int x1), some (va_rf x2), none, some (.int x4), some (.int x5), some (.int x6), none] [] σ := by
  rw [oj_X7_sum__154] at h
  refine os_aload_n (r := x0) hX dX7_sum__154 rfl rfl ?_
  obtain ⟨a1, e2, h⟩ := obn_e h
  obtain ⟨s3, e4, h⟩ := ocv_e h
  refine oc_RX7_98 (rb := x0)  hX dX7_sum__155 (Nat.le_of_ble_eq_true rfl) e2 (hc _ _ _ _ e4) ?_
  exact qj_X7_sum__158 hX hc hk43 h
set_option maxHeartbeats 4000000 in
theorem qj_X7_sum__92 {κ : oKv} {n : Nat} {call : oCl} {kc : Nat → List Value → oSt → Option Value × oSt → Prop} {v : Option Value × oSt} {X : Nat → zLv → List Value → oSt → Prop} (hX : oSem RX7 cX7_sum_ 8 0 (some (.object "LiquidTongue$Node")) κ kc v X) (hc : ∀ j av s w, call j av s = some w → kc j av s w) {k43 : Option Nat → Int32 → Option Nat → Int32 → Int32 → oSt → oRs} (hk43 : ∀ (x0 : Option Nat) (x1 : Int32) (x2 : Option Nat) (x3 : Int32) (x4 : Int32) (s : oSt), k43 x0 x1 x2 x3 x4 s = some v → X 43 [some (va_rf x0), some (.int x1), some (va_rf x2), some (.int x3), some (.int x4), none, none, none] [] s) {x0 : Option Nat} {x1 : Int32} {x2 : Option Nat} {x4 : Int32} {x5 : Int32} {σ : oSt} (h : oj_X7_sum__92 n call κ k43 x0 x1 x2 x4 x5 σ = some v) : X 92 [some (va_rf x0), some (.int x1), some (va_rf x2), none, some (.int x4), some (.int x5), none, none] [] σ := by
  rw [oj_X7_sum__92] at h
  refine os_aload_n (r := x0) hX dX7_sum__92 rfl rfl ?_
  obtain ⟨a1, e2, h⟩ := obn_e h
  obtain ⟨r5, s3, e4, h⟩ := oin_e h
  refine oc_RX7_57 (rb := x0)  hX dX7_sum__93 (Nat.le_of_ble_eq_true rfl) e2 (hc _ _ _ _ e4) ?_
  refine os_istore hX dX7_sum__96 (by decide) rfl ?_
  dsimp only [List.set]
  refine os_iload hX dX7_sum__98 rfl ?_
  refine os_iconst (v := 2) hX dX7_sum__100 (by decide) ?_
  refine os_icmp_ne (tgt := 138) hX dX7_sum__101 (by decide) (fun c6 => ?_) (fun c6 => ?_)
  · rw [if_neg c6] at h
    refine os_iload hX dX7_sum__138 rfl ?_
    refine os_sipush (v := 211) hX dX7_sum__140 (by decide) ?_
    refine os_icmp_eq (tgt := 154) hX dX7_sum__143 (by decide) (fun c7 => ?_) (fun c7 => ?_)
    · rw [if_pos c7] at h
      exact qj_X7_sum__154 hX hc hk43 h
    · rw [if_neg c7] at h
      refine os_iload hX dX7_sum__146 rfl ?_
      refine os_sipush (v := 221) hX dX7_sum__148 (by decide) ?_
      refine os_icmp_ne (tgt := 158) hX dX7_sum__151 (by decide) (fun c8 => ?_) (fun c8 => ?_)
      · rw [if_neg c8] at h
        exact qj_X7_sum__158 hX hc hk43 h
      · rw [if_pos c8] at h
        exact qj_X7_sum__154 hX hc hk43 h
  · rw [if_pos c6] at h
    refine os_aload_n (r := x2) hX dX7_sum__104 rfl rfl ?_
    obtain ⟨v9, e10, h⟩ := obn_e h
    refine ow_get (r := x2) hX dX7_sum__105 oF_RX7_192 (ovr_e e10) ?_
    refine os_dup hX dX7_sum__108 (ocat v9) ?_
    obtain ⟨v11, e12, h⟩ := obn_e h
    refine ow_get (r := v9) hX dX7_sum__109 oF_RX7_303 (ovl_e e12) ?_
    refine os_iload hX dX7_sum__112 rfl ?_
    refine os_aload_n (r := x0) hX dX7_sum__114 rfl rfl ?_
    obtain ⟨v13, e14, h⟩ := obn_e h
    refine ow_get (r := x0) hX dX7_sum__115 oF_RX7_50 (ovr_e e14) ?_
    refine os_aload_n (r := x0) hX dX7_sum__118 rfl rfl ?_
    obtain ⟨v15, e16, h⟩ := obn_e h
    refine ow_get (r := x0) hX dX7_sum__119 oF_RX7_86 (ovi_e e16) ?_
    obtain ⟨a17, e18, h⟩ := obn_e h
    obtain ⟨r21, s19, e20, h⟩ := oin_e h
    refine oc_RX7_120 (rb := v13) (a1 := .int v15) hX dX7_sum__122 (by simp only [List.map_cons, List.map_nil, List.sum_cons, List.sum_nil, ocat]; exact Nat.le_of_ble_eq_true rfl) e18 (hc _ _ _ _ e20) ?_
    refine os_imul hX dX7_sum__125 ?_
    refine os_i2l hX dX7_sum__126 ?_
    refine os_ladd hX dX7_sum__127 ?_
    obtain ⟨s22, e23, h⟩ := obn_e h
    refine ow_put (r := v9) (x := .long (v11 + ((x5 * r21).toInt64))) hX dX7_sum__128 oF_RX7_303 (by decide) (opn_J oT_11_3) e23 ?_
    refine os_aload_n (r := x0) hX dX7_sum__131 rfl rfl ?_
    obtain ⟨a24, e25, h⟩ := obn_e h
    obtain ⟨s26, e27, h⟩ := ocv_e h
    refine oc_RX7_98 (rb := x0)  hX dX7_sum__132 (Nat.le_of_ble_eq_true rfl) e25 (hc _ _ _ _ e27) ?_
    refine os_goto (tgt := 237) hX dX7_sum__135 (by decide) ?_
    refine os_weak hX (lw := [some (va_rf x0), some (.int x1), some (va_rf x2), none, some (.int x4), none, none, none]) ⟨rfl, rfl, rfl, rfl, trivial⟩ ?_
    exact qj_X7_sum__237 hX hc hk43 h
set_option maxHeartbeats 4000000 in
theorem qj_X7_sum__83 {κ : oKv} {n : Nat} {call : oCl} {kc : Nat → List Value → oSt → Option Value × oSt → Prop} {v : Option Value × oSt} {X : Nat → zLv → List Value → oSt → Prop} (hX : oSem RX7 cX7_sum_ 8 0 (some (.object "LiquidTongue$Node")) κ kc v X) (hc : ∀ j av s w, call j av s = some w → kc j av s w) {k43 : Option Nat → Int32 → Option Nat → Int32 → Int32 → oSt → oRs} (hk43 : ∀ (x0 : Option Nat) (x1 : Int32) (x2 : Option Nat) (x3 : Int32) (x4 : Int32) (s : oSt), k43 x0 x1 x2 x3 x4 s = some v → X 43 [some (va_rf x0), some (.int x1), some (va_rf x2), some (.int x3), some (.int x4), none, none, none] [] s) {x0 : Option Nat} {x1 : Int32} {x2 : Option Nat} {x4 : Int32} {x5 : Int32} {σ : oSt} (h : oj_X7_sum__83 n call κ k43 x0 x1 x2 x4 x5 σ = some v) : X 83 [some (va_rf x0), some (.int x1), some (va_rf x2), none, some (.int x4), some (.int x5), none, none] [] σ := by
  rw [oj_X7_sum__83] at h
  refine os_aload_n (r := x2) hX dX7_sum__83 rfl rfl ?_
  refine os_iconst (v := 0) hX dX7_sum__84 (by decide) ?_
  obtain ⟨s1, e2, h⟩ := obn_e h
  refine ow_put (r := x2) (x := .int 0) hX dX7_sum__85 oF_RX7_292 (by decide) (opn_I oT_7_6) e2 ?_
  refine os_aload_n (r := x0) hX dX7_sum__88 rfl rfl ?_
  obtain ⟨a3, e4, h⟩ := obn_e h
  obtain ⟨s5, e6, h⟩ := ocv_e h
  refine oc_RX7_98 (rb := x0)  hX dX7_sum__89 (Nat.le_of_ble_eq_true rfl) e4 (hc _ _ _ _ e6) ?_
  exact qj_X7_sum__92 hX hc hk43 h
set_option maxHeartbeats 4000000 in
theorem qj_X7_sum__67 {κ : oKv} {n : Nat} {call : oCl} {kc : Nat → List Value → oSt → Option Value × oSt → Prop} {v : Option Value × oSt} {X : Nat → zLv → List Value → oSt → Prop} (hX : oSem RX7 cX7_sum_ 8 0 (some (.object "LiquidTongue$Node")) κ kc v X) (hc : ∀ j av s w, call j av s = some w → kc j av s w) {k43 : Option Nat → Int32 → Option Nat → Int32 → Int32 → oSt → oRs} (hk43 : ∀ (x0 : Option Nat) (x1 : Int32) (x2 : Option Nat) (x3 : Int32) (x4 : Int32) (s : oSt), k43 x0 x1 x2 x3 x4 s = some v → X 43 [some (va_rf x0), some (.int x1), some (va_rf x2), some (.int x3), some (.int x4), none, none, none] [] s) {x0 : Option Nat} {x1 : Int32} {x2 : Option Nat} {x4 : Int32} {t0 : Int32} {σ : oSt} (h : oj_X7_sum__67 n call κ k43 x0 x1 x2 x4 t0 σ = some v) : X 67 [some (va_rf x0), some (.int x1), some (va_rf x2), none, some (.int x4), none, none, none] [.int t0] σ := by
  rw [oj_X7_sum__67] at h
  refine os_istore hX dX7_sum__67 (by decide) rfl ?_
  dsimp only [List.set]
  refine os_aload_n (r := x0) hX dX7_sum__69 rfl rfl ?_
  obtain ⟨a1, e2, h⟩ := obn_e h
  obtain ⟨r5, s3, e4, h⟩ := oin_e h
  refine oc_RX7_57 (rb := x0)  hX dX7_sum__70 (Nat.le_of_ble_eq_true rfl) e2 (hc _ _ _ _ e4) ?_
  refine os_bipush (v := 45) hX dX7_sum__73 (by decide) ?_
  refine os_icmp_eq (tgt := 83) hX dX7_sum__75 (by decide) (fun c6 => ?_) (fun c6 => ?_)
  · rw [if_pos c6] at h
    exact qj_X7_sum__83 hX hc hk43 h
  · rw [if_neg c6] at h
    refine os_iload hX dX7_sum__78 rfl ?_
    refine os_if_le (tgt := 92) hX dX7_sum__80 (by decide) (fun c7 => ?_) (fun c7 => ?_)
    · rw [if_pos c7] at h
      exact qj_X7_sum__92 hX hc hk43 h
    · rw [if_neg c7] at h
      exact qj_X7_sum__83 hX hc hk43 h
set_option maxHeartbeats 4000000 in
theorem ql_X7_sum__43 {κ : oKv} {n : Nat} {call : oCl} {kc : Nat → List Value → oSt → Option Value × oSt → Prop} {v : Option Value × oSt} {X : Nat → zLv → List Value → oSt → Prop} (hX : oSem RX7 cX7_sum_ 8 0 (some (.object "LiquidTongue$Node")) κ kc v X) (hc : ∀ j av s w, call j av s = some w → kc j av s w) : ∀ (f : Nat) (x0 : Option Nat) (x1 : Int32) (x2 : Option Nat) (x3 : Int32) (x4 : Int32) (σ : oSt), ol_X7_sum__43 n call κ f x0 x1 x2 x3 x4 σ = some v → X 43 [some (va_rf x0), some (.int x1), some (va_rf x2), some (.int x3), some (.int x4), none, none, none] [] σ := by
  intro f
  induction f with
  | zero => intro x0 x1 x2 x3 x4 σ h; cases h
  | succ f hk43 =>
    intro x0 x1 x2 x3 x4 σ h
    rw [ol_X7_sum__43] at h
    refine os_iload hX dX7_sum__43 rfl ?_
    refine os_iload_n hX dX7_sum__45 rfl rfl ?_
    refine os_icmp_ge (tgt := 267) hX dX7_sum__46 (by decide) (fun c1 => ?_) (fun c1 => ?_)
    · rw [if_pos c1] at h
      refine os_aload_n (r := x2) hX dX7_sum__267 rfl rfl ?_
      exact os_aret (r := x2) hX dX7_sum__268 rfl (Option.some.inj h)
    · rw [if_neg c1] at h
      refine os_iload_n hX dX7_sum__49 rfl rfl ?_
      refine os_if_eq (tgt := 267) hX dX7_sum__50 (by decide) (fun c2 => ?_) (fun c2 => ?_)
      · rw [if_pos c2] at h
        refine os_aload_n (r := x2) hX dX7_sum__267 rfl rfl ?_
        exact os_aret (r := x2) hX dX7_sum__268 rfl (Option.some.inj h)
      · rw [if_neg c2] at h
        refine os_aload_n (r := x0) hX dX7_sum__53 rfl rfl ?_
        obtain ⟨a3, e4, h⟩ := obn_e h
        obtain ⟨r7, s5, e6, h⟩ := oin_e h
        refine oc_RX7_57 (rb := x0)  hX dX7_sum__54 (Nat.le_of_ble_eq_true rfl) e4 (hc _ _ _ _ e6) ?_
        refine os_bipush (v := 45) hX dX7_sum__57 (by decide) ?_
        refine os_icmp_ne (tgt := 66) hX dX7_sum__59 (by decide) (fun c8 => ?_) (fun c8 => ?_)
        · rw [if_neg c8] at h
          refine os_iconst (v := 1) hX dX7_sum__66 (by decide) ?_
          refine os_weak hX (lw := [some (va_rf x0), some (.int x1), some (va_rf x2), none, some (.int x4), none, none, none]) ⟨rfl, rfl, rfl, rfl, trivial⟩ ?_
          exact qj_X7_sum__67 hX hc hk43 h
        · rw [if_pos c8] at h
          refine os_iconst (v := (-1)) hX dX7_sum__62 (by decide) ?_
          refine os_goto (tgt := 67) hX dX7_sum__63 (by decide) ?_
          refine os_weak hX (lw := [some (va_rf x0), some (.int x1), some (va_rf x2), none, some (.int x4), none, none, none]) ⟨rfl, rfl, rfl, rfl, trivial⟩ ?_
          exact qj_X7_sum__67 hX hc hk43 h
set_option maxHeartbeats 4000000 in
theorem qb_X7_sum_ {κ : oKv} {n : Nat} {call : oCl} {kc : Nat → List Value → oSt → Option Value × oSt → Prop} {v : Option Value × oSt} {X : Nat → zLv → List Value → oSt → Prop} (hX : oSem RX7 cX7_sum_ 8 0 (some (.object "LiquidTongue$Node")) κ kc v X) (hc : ∀ j av s w, call j av s = some w → kc j av s w) {x0 : Option Nat} {x1 : Int32} {σ : oSt} (h : ob_X7_sum_ n call κ x0 x1 σ = some v) : X 0 [some (va_rf x0), some (.int x1), none, none, none, none, none, none] [] σ := by
  rw [ob_X7_sum_] at h
  refine os_aload_n (r := x0) hX dX7_sum__0 rfl rfl ?_
  refine os_sipush (v := 400) hX dX7_sum__1 (by decide) ?_
  obtain ⟨a1, e2, h⟩ := obn_e h
  obtain ⟨r5, s3, e4, h⟩ := orn_e h
  refine oc_RX7_163 (rb := x0) (a1 := .int 400) hX dX7_sum__4 (Nat.le_of_ble_eq_true rfl) e2 (hc _ _ _ _ e4) ?_
  refine os_astore_n (r := r5) hX dX7_sum__7 rfl (by decide) rfl ?_
  dsimp only [List.set]
  refine os_aload_n (r := r5) hX dX7_sum__8 rfl rfl ?_
  obtain ⟨s6, e7, h⟩ := olet_e h
  refine os_new hX dX7_sum__9 oN_RX7_261 ?_
  rw [← e7]
  refine os_dup hX dX7_sum__12 (ocat (some s3.2.1)) ?_
  obtain ⟨a8, e9, h⟩ := obn_e h
  obtain ⟨s10, e11, h⟩ := ocv_e h
  refine oc_RX7_263 (rb := (some s3.2.1))  hX dX7_sum__13 (by simp only [List.map_cons, List.map_nil, List.sum_cons, List.sum_nil, ocat]; exact Nat.le_of_ble_eq_true rfl) e9 (hc _ _ _ _ e11) ?_
  obtain ⟨s13, e14, h⟩ := obn_e h
  refine ow_put (r := r5) (x := va_rf (some s3.2.1)) hX dX7_sum__16 oF_RX7_192 (by decide) (orf_n (Or.inl ⟨_, oT_7_19⟩) (some s3.2.1)) e14 ?_
  refine os_aload_n (r := r5) hX dX7_sum__19 rfl rfl ?_
  obtain ⟨s15, e16, h⟩ := olet_e h
  refine os_new hX dX7_sum__20 oN_RX7_17 ?_
  rw [← e16]
  refine os_dup hX dX7_sum__23 (ocat (some s13.2.1)) ?_
  obtain ⟨a17, e18, h⟩ := obn_e h
  obtain ⟨s19, e20, h⟩ := ocv_e h
  refine oc_RX7_19 (rb := (some s13.2.1))  hX dX7_sum__24 (by simp only [List.map_cons, List.map_nil, List.sum_cons, List.sum_nil, ocat]; exact Nat.le_of_ble_eq_true rfl) e18 (hc _ _ _ _ e20) ?_
  obtain ⟨s22, e23, h⟩ := obn_e h
  refine ow_put (r := r5) (x := va_rf (some s13.2.1)) hX dX7_sum__27 oF_RX7_271 (by decide) (orf_n (Or.inl ⟨_, oT_7_18⟩) (some s13.2.1)) e23 ?_
  refine os_aload_n (r := r5) hX dX7_sum__30 rfl rfl ?_
  refine os_aload_n (r := x0) hX dX7_sum__31 rfl rfl ?_
  obtain ⟨a24, e25, h⟩ := obn_e h
  obtain ⟨r28, s26, e27, h⟩ := oin_e h
  refine oc_RX7_57 (rb := x0)  hX dX7_sum__32 (by simp only [List.map_cons, List.map_nil, List.sum_cons, List.sum_nil, ocat]; exact Nat.le_of_ble_eq_true rfl) e25 (hc _ _ _ _ e27) ?_
  obtain ⟨s29, e30, h⟩ := obn_e h
  refine ow_put (r := r5) (x := .int r28) hX dX7_sum__35 oF_RX7_292 (by decide) (opn_I oT_7_6) e30 ?_
  refine os_iconst (v := 1) hX dX7_sum__38 (by decide) ?_
  refine os_istore_n hX dX7_sum__39 rfl (by decide) (ozlo (i := 2) (r := r5) rfl) ?_
  dsimp only [List.set]
  refine os_iconst (v := 0) hX dX7_sum__40 (by decide) ?_
  refine os_istore hX dX7_sum__41 (by decide) rfl ?_
  dsimp only [List.set]
  exact ql_X7_sum__43 hX hc n _ _ _ _ _ _ h
def ob_X7_sum (n : Nat) (call : oCl) (κ : oKv) (x0 : Option Nat) (σ : oSt) : oRs :=
  obn (oob σ x0 9) fun a1 =>
  orn (call 120 [va_rf x0, .int 1000000] σ) fun r5 s3 =>
  some (some (va_rf r5), s3)
set_option maxHeartbeats 4000000 in
theorem qb_X7_sum {κ : oKv} {n : Nat} {call : oCl} {kc : Nat → List Value → oSt → Option Value × oSt → Prop} {v : Option Value × oSt} {X : Nat → zLv → List Value → oSt → Prop} (hX : oSem RX7 cX7_sum 1 0 (some (.object "LiquidTongue$Node")) κ kc v X) (hc : ∀ j av s w, call j av s = some w → kc j av s w) {x0 : Option Nat} {σ : oSt} (h : ob_X7_sum n call κ x0 σ = some v) : X 0 [some (va_rf x0)] [] σ := by
  rw [ob_X7_sum] at h
  refine os_aload_n (r := x0) hX dX7_sum_0 rfl rfl ?_
  refine os_ldcw (x := 1000000) hX dX7_sum_1 oCI_RX7_302 ?_
  obtain ⟨a1, e2, h⟩ := obn_e h
  obtain ⟨r5, s3, e4, h⟩ := orn_e h
  refine oc_RX7_290 (rb := x0) (a1 := .int 1000000) hX dX7_sum_4 (Nat.le_of_ble_eq_true rfl) e2 (hc _ _ _ _ e4) ?_
  exact os_aret (r := r5) hX dX7_sum_7 rfl (Option.some.inj h)
def oj_X7_blameForm_19 (n : Nat) (call : oCl) (κ : oKv) (x0 : Option Nat) (x1 : Int32) (σ : oSt) : oRs :=
  obn (opf σ x0 9 17 (.int x1)) fun s1 =>
  some (none, s1)
def ob_X7_blameForm (n : Nat) (call : oCl) (κ : oKv) (x0 : Option Nat) (x1 : Int32) (σ : oSt) : oRs :=
  if x1 < 0 then
    some (none, σ)
  else
    obn (ovi (ofd σ x0 9 17)) fun v2 =>
    if v2 < 0 then
      oj_X7_blameForm_19 n call κ x0 x1 σ
    else
      obn (ovi (ofd σ x0 9 17)) fun v5 =>
      if v5 ≤ x1 then
        some (none, σ)
      else
        oj_X7_blameForm_19 n call κ x0 x1 σ
set_option maxHeartbeats 4000000 in
theorem qj_X7_blameForm_19 {κ : oKv} {n : Nat} {call : oCl} {kc : Nat → List Value → oSt → Option Value × oSt → Prop} {v : Option Value × oSt} {X : Nat → zLv → List Value → oSt → Prop} (hX : oSem RX7 cX7_blameForm 2 0 none κ kc v X) (hc : ∀ j av s w, call j av s = some w → kc j av s w) {x0 : Option Nat} {x1 : Int32} {σ : oSt} (h : oj_X7_blameForm_19 n call κ x0 x1 σ = some v) : X 19 [some (va_rf x0), some (.int x1)] [] σ := by
  rw [oj_X7_blameForm_19] at h
  refine os_aload_n (r := x0) hX dX7_blameForm_19 rfl rfl ?_
  refine os_iload_n hX dX7_blameForm_20 rfl rfl ?_
  obtain ⟨s1, e2, h⟩ := obn_e h
  refine ow_put (r := x0) (x := .int x1) hX dX7_blameForm_21 oF_RX7_47 (by decide) (opn_I oT_9_17) e2 ?_
  exact os_vret hX dX7_blameForm_24 rfl (Option.some.inj h)
set_option maxHeartbeats 4000000 in
theorem qb_X7_blameForm {κ : oKv} {n : Nat} {call : oCl} {kc : Nat → List Value → oSt → Option Value × oSt → Prop} {v : Option Value × oSt} {X : Nat → zLv → List Value → oSt → Prop} (hX : oSem RX7 cX7_blameForm 2 0 none κ kc v X) (hc : ∀ j av s w, call j av s = some w → kc j av s w) {x0 : Option Nat} {x1 : Int32} {σ : oSt} (h : ob_X7_blameForm n call κ x0 x1 σ = some v) : X 0 [some (va_rf x0), some (.int x1)] [] σ := by
  rw [ob_X7_blameForm] at h
  refine os_iload_n hX dX7_blameForm_0 rfl rfl ?_
  refine os_if_lt (tgt := 24) hX dX7_blameForm_1 (by decide) (fun c1 => ?_) (fun c1 => ?_)
  · rw [if_pos c1] at h
    exact os_vret hX dX7_blameForm_24 rfl (Option.some.inj h)
  · rw [if_neg c1] at h
    refine os_aload_n (r := x0) hX dX7_blameForm_4 rfl rfl ?_
    obtain ⟨v2, e3, h⟩ := obn_e h
    refine ow_get (r := x0) hX dX7_blameForm_5 oF_RX7_47 (ovi_e e3) ?_
    refine os_if_lt (tgt := 19) hX dX7_blameForm_8 (by decide) (fun c4 => ?_) (fun c4 => ?_)
    · rw [if_pos c4] at h
      exact qj_X7_blameForm_19 hX hc h
    · rw [if_neg c4] at h
      refine os_iload_n hX dX7_blameForm_11 rfl rfl ?_
      refine os_aload_n (r := x0) hX dX7_blameForm_12 rfl rfl ?_
      obtain ⟨v5, e6, h⟩ := obn_e h
      refine ow_get (r := x0) hX dX7_blameForm_13 oF_RX7_47 (ovi_e e6) ?_
      refine os_icmp_ge (tgt := 24) hX dX7_blameForm_16 (by decide) (fun c7 => ?_) (fun c7 => ?_)
      · rw [if_pos c7] at h
        exact os_vret hX dX7_blameForm_24 rfl (Option.some.inj h)
      · rw [if_neg c7] at h
        exact qj_X7_blameForm_19 hX hc h
def ob_X7_compare (n : Nat) (call : oCl) (κ : oKv) (x0 : Option Nat) (x1 : Option Nat) (x2 : Int32) (σ : oSt) : oRs :=
  obn (oob σ x0 9) fun a1 =>
  orn (call 118 [va_rf x0, .int 403] σ) fun r5 s3 =>
  obn (opf s3 r5 7 19 (va_rf x1)) fun s6 =>
  obn (opf s6 r5 7 5 (.int x2)) fun s8 =>
  some (some (va_rf r5), s8)
set_option maxHeartbeats 4000000 in
theorem qb_X7_compare {κ : oKv} {n : Nat} {call : oCl} {kc : Nat → List Value → oSt → Option Value × oSt → Prop} {v : Option Value × oSt} {X : Nat → zLv → List Value → oSt → Prop} (hX : oSem RX7 cX7_compare 4 0 (some (.object "LiquidTongue$Node")) κ kc v X) (hc : ∀ j av s w, call j av s = some w → kc j av s w) {x0 : Option Nat} {x1 : Option Nat} {x2 : Int32} {σ : oSt} (h : ob_X7_compare n call κ x0 x1 x2 σ = some v) : X 0 [some (va_rf x0), some (va_rf x1), some (.int x2), none] [] σ := by
  rw [ob_X7_compare] at h
  refine os_aload_n (r := x0) hX dX7_compare_0 rfl rfl ?_
  refine os_sipush (v := 403) hX dX7_compare_1 (by decide) ?_
  obtain ⟨a1, e2, h⟩ := obn_e h
  obtain ⟨r5, s3, e4, h⟩ := orn_e h
  refine oc_RX7_163 (rb := x0) (a1 := .int 403) hX dX7_compare_4 (Nat.le_of_ble_eq_true rfl) e2 (hc _ _ _ _ e4) ?_
  refine os_astore_n (r := r5) hX dX7_compare_7 rfl (by decide) rfl ?_
  dsimp only [List.set]
  refine os_aload_n (r := r5) hX dX7_compare_8 rfl rfl ?_
  refine os_aload_n (r := x1) hX dX7_compare_9 rfl rfl ?_
  obtain ⟨s6, e7, h⟩ := obn_e h
  refine ow_put (r := r5) (x := va_rf x1) hX dX7_compare_10 oF_RX7_192 (by decide) (orf_n (Or.inl ⟨_, oT_7_19⟩) x1) e7 ?_
  refine os_aload_n (r := r5) hX dX7_compare_13 rfl rfl ?_
  refine os_iload_n hX dX7_compare_14 rfl rfl ?_
  obtain ⟨s8, e9, h⟩ := obn_e h
  refine ow_put (r := r5) (x := .int x2) hX dX7_compare_15 oF_RX7_307 (by decide) (opn_I oT_7_5) e9 ?_
  refine os_aload_n (r := r5) hX dX7_compare_18 rfl rfl ?_
  exact os_aret (r := r5) hX dX7_compare_19 rfl (Option.some.inj h)
def ol_X9_addAll_2 (n : Nat) (call : oCl) (κ : oKv) : Nat → Option Nat → Option Nat → Int32 → Int32 → oSt → oRs
  | 0, _, _, _, _, _ => none
  | f + 1, x0, x1, x2, x3, σ =>
    obn (ovi (ofd σ x1 11 2)) fun v1 =>
    if v1 ≤ x3 then
      obn (ovl (ofd σ x0 11 3)) fun v4 =>
      obn (ovl (ofd σ x1 11 3)) fun v6 =>
      obn (opf σ x0 11 3 (.long (v4 + (x2.toInt64 * v6)))) fun s8 =>
      some (none, s8)
    else
      obn (ovr (ofd σ x1 11 0)) fun v10 =>
      obn (oar σ v10 x3) fun v12 =>
      obn (ovr (ofd σ x1 11 1)) fun v14 =>
      obn (oai σ v14 .int x3) fun v16 =>
      obn (oob σ x0 11) fun a18 =>
      ocv (call 10 [va_rf x0, va_rf v12, .int (x2 * v16)] σ) fun s20 =>
      ol_X9_addAll_2 n call κ f x0 x1 x2 (x3 + 1) s20
def ob_X9_addAll (n : Nat) (call : oCl) (κ : oKv) (x0 : Option Nat) (x1 : Option Nat) (x2 : Int32) (σ : oSt) : oRs :=
  ol_X9_addAll_2 n call κ n x0 x1 x2 0 σ
set_option maxHeartbeats 4000000 in
theorem ql_X9_addAll_2 {κ : oKv} {n : Nat} {call : oCl} {kc : Nat → List Value → oSt → Option Value × oSt → Prop} {v : Option Value × oSt} {X : Nat → zLv → List Value → oSt → Prop} (hX : oSem RX9 cX9_addAll 4 0 none κ kc v X) (hc : ∀ j av s w, call j av s = some w → kc j av s w) : ∀ (f : Nat) (x0 : Option Nat) (x1 : Option Nat) (x2 : Int32) (x3 : Int32) (σ : oSt), ol_X9_addAll_2 n call κ f x0 x1 x2 x3 σ = some v → X 2 [some (va_rf x0), some (va_rf x1), some (.int x2), some (.int x3)] [] σ := by
  intro f
  induction f with
  | zero => intro x0 x1 x2 x3 σ h; cases h
  | succ f hk2 =>
    intro x0 x1 x2 x3 σ h
    rw [ol_X9_addAll_2] at h
    refine os_iload_n hX dX9_addAll_2 rfl rfl ?_
    refine os_aload_n (r := x1) hX dX9_addAll_3 rfl rfl ?_
    obtain ⟨v1, e2, h⟩ := obn_e h
    refine ow_get (r := x1) hX dX9_addAll_4 oF_RX9_19 (ovi_e e2) ?_
    refine os_icmp_ge (tgt := 34) hX dX9_addAll_7 (by decide) (fun c3 => ?_) (fun c3 => ?_)
    · rw [if_pos c3] at h
      refine os_aload_n (r := x0) hX dX9_addAll_34 rfl rfl ?_
      refine os_dup hX dX9_addAll_35 (ocat x0) ?_
      obtain ⟨v4, e5, h⟩ := obn_e h
      refine ow_get (r := x0) hX dX9_addAll_36 oF_RX9_43 (ovl_e e5) ?_
      refine os_iload_n hX dX9_addAll_39 rfl rfl ?_
      refine os_i2l hX dX9_addAll_40 ?_
      refine os_aload_n (r := x1) hX dX9_addAll_41 rfl rfl ?_
      obtain ⟨v6, e7, h⟩ := obn_e h
      refine ow_get (r := x1) hX dX9_addAll_42 oF_RX9_43 (ovl_e e7) ?_
      refine os_lmul hX dX9_addAll_45 ?_
      refine os_ladd hX dX9_addAll_46 ?_
      obtain ⟨s8, e9, h⟩ := obn_e h
      refine ow_put (r := x0) (x := .long (v4 + (x2.toInt64 * v6))) hX dX9_addAll_47 oF_RX9_43 (by decide) (opn_J oT_11_3) e9 ?_
      exact os_vret hX dX9_addAll_50 rfl (Option.some.inj h)
    · rw [if_neg c3] at h
      refine os_aload_n (r := x0) hX dX9_addAll_10 rfl rfl ?_
      refine os_aload_n (r := x1) hX dX9_addAll_11 rfl rfl ?_
      obtain ⟨v10, e11, h⟩ := obn_e h
      refine ow_get (r := x1) hX dX9_addAll_12 oF_RX9_9 (ovr_e e11) ?_
      refine os_iload_n hX dX9_addAll_15 rfl rfl ?_
      obtain ⟨v12, e13, h⟩ := obn_e h
      refine ow_ar (r := v10) (i := x3) hX dX9_addAll_16 e13 ?_
      refine os_iload_n hX dX9_addAll_17 rfl rfl ?_
      refine os_aload_n (r := x1) hX dX9_addAll_18 rfl rfl ?_
      obtain ⟨v14, e15, h⟩ := obn_e h
      refine ow_get (r := x1) hX dX9_addAll_19 oF_RX9_15 (ovr_e e15) ?_
      refine os_iload_n hX dX9_addAll_22 rfl rfl ?_
      obtain ⟨v16, e17, h⟩ := obn_e h
      refine ow_ai (r := v14) (i := x3) hX dX9_addAll_23 e17 ?_
      refine os_imul hX dX9_addAll_24 ?_
      obtain ⟨a18, e19, h⟩ := obn_e h
      obtain ⟨s20, e21, h⟩ := ocv_e h
      refine oc_RX9_39 (rb := x0) (a1 := va_rf v12) (a2 := .int (x2 * v16)) hX dX9_addAll_25 (Nat.le_of_ble_eq_true rfl) e19 (hc _ _ _ _ e21) ?_
      refine os_iinc (v := x3 + 1) hX dX9_addAll_28 rfl rfl (by decide) rfl ?_
      dsimp only [List.set]
      refine os_goto (tgt := 2) hX dX9_addAll_31 (by decide) ?_
      exact hk2 _ _ _ _ _ h
set_option maxHeartbeats 4000000 in
theorem qb_X9_addAll {κ : oKv} {n : Nat} {call : oCl} {kc : Nat → List Value → oSt → Option Value × oSt → Prop} {v : Option Value × oSt} {X : Nat → zLv → List Value → oSt → Prop} (hX : oSem RX9 cX9_addAll 4 0 none κ kc v X) (hc : ∀ j av s w, call j av s = some w → kc j av s w) {x0 : Option Nat} {x1 : Option Nat} {x2 : Int32} {σ : oSt} (h : ob_X9_addAll n call κ x0 x1 x2 σ = some v) : X 0 [some (va_rf x0), some (va_rf x1), some (.int x2), none] [] σ := by
  rw [ob_X9_addAll] at h
  refine os_iconst (v := 0) hX dX9_addAll_0 (by decide) ?_
  refine os_istore_n hX dX9_addAll_1 rfl (by decide) rfl ?_
  dsimp only [List.set]
  exact ql_X9_addAll_2 hX hc n _ _ _ _ _ h
def oj_X7_comparison_72 (n : Nat) (call : oCl) (κ : oKv) (x0 : Option Nat) (x1 : Option Nat) (σ : oSt) : oRs :=
  obn (opf σ x1 7 0 (.int 403)) fun s1 =>
  obn (oob s1 x0 9) fun a3 =>
  oin (call 104 [va_rf x0] s1) fun r7 s5 =>
  obn (opf s5 x1 7 5 (.int r7)) fun s8 =>
  obn (oob s8 x0 9) fun a10 =>
  oin (call 106 [va_rf x0] s8) fun r14 s12 =>
  obn (opf s12 x1 7 3 (.int r14)) fun s15 =>
  obn (oob s15 x0 9) fun a17 =>
  ocv (call 105 [va_rf x0] s15) fun s19 =>
  obn (oob s19 x0 9) fun a22 =>
  orn (call 121 [va_rf x0] s19) fun r26 s24 =>
  obn (opf s24 x1 7 16 (va_rf r26)) fun s27 =>
  olet (onew s27 (.inr (11, odef 11)) (oq 11).2.2) fun s29 =>
  obn ((some s27.2.1)) fun a31 =>
  ocv (call 8 [va_rf (some s27.2.1)] s29) fun s33 =>
  obn (opf s33 x1 7 19 (va_rf (some s27.2.1))) fun s36 =>
  obn (ovr (ofd s36 x1 7 19)) fun v38 =>
  obn (ovr (ofd s36 x1 7 15)) fun v40 =>
  obn (ovr (ofd s36 v40 7 19)) fun v42 =>
  obn (oob s36 v38 11) fun a44 =>
  ocv (call 124 [va_rf v38, va_rf v42, .int 1] s36) fun s46 =>
  obn (ovr (ofd s46 x1 7 19)) fun v49 =>
  obn (ovr (ofd s46 x1 7 16)) fun v51 =>
  obn (ovr (ofd s46 v51 7 19)) fun v53 =>
  obn (oob s46 v49 11) fun a55 =>
  ocv (call 124 [va_rf v49, va_rf v53, .int (-1)] s46) fun s57 =>
  obn (ovr (ofd s57 x1 7 19)) fun v60 =>
  obn (oob s57 v60 11) fun a62 =>
  oin (call 38 [va_rf v60] s57) fun r66 s64 =>
  if r66 = 0 then
    obn (ovi (ofd s64 x1 7 3)) fun v68 =>
    obn (oob s64 x0 9) fun a70 =>
    ocv (call 122 [va_rf x0, .int v68] s64) fun s72 =>
    some (some (va_rf x1), s72)
  else
    some (some (va_rf x1), s64)
def ob_X7_comparison (n : Nat) (call : oCl) (κ : oKv) (x0 : Option Nat) (x1 : Option Nat) (σ : oSt) : oRs :=
  obn (oob σ x0 9) fun a1 =>
  orn (call 121 [va_rf x0] σ) fun r5 s3 =>
  obn (opf s3 x1 7 15 (va_rf r5)) fun s6 =>
  obn (ovi (ofd s6 x0 9 14)) fun v8 =>
  obn (opf s6 x0 9 14 (.int (v8 + 1))) fun s10 =>
  obn (oob s10 x0 9) fun a12 =>
  oin (call 104 [va_rf x0] s10) fun r16 s14 =>
  oin (call 109 [.int r16] s14) fun r19 s17 =>
  if r19 = 0 then
    obn (oob s17 x0 9) fun a21 =>
    oin (call 104 [va_rf x0] s17) fun r25 s23 =>
    if r25 = 35 then
      oj_X7_comparison_72 n call κ x0 x1 s23
    else
      obn (opf s23 x1 7 0 (.int 402)) fun s27 =>
      obn (ovr (ofd s27 x1 7 15)) fun v29 =>
      obn (ovr (ofd s27 v29 7 9)) fun v31 =>
      obn (opf s27 x1 7 9 (va_rf v31)) fun s33 =>
      obn (ovr (ofd s33 x1 7 15)) fun v35 =>
      obn (ovi (ofd s33 v35 7 6)) fun v37 =>
      if v37 = 1 then
        some (some (va_rf x1), s33)
      else
        obn (oob s33 x0 9) fun a40 =>
        ocv (call 107 [va_rf x0] s33) fun s42 =>
        some (some (va_rf x1), s42)
  else
    oj_X7_comparison_72 n call κ x0 x1 s17
set_option maxHeartbeats 4000000 in
theorem qj_X7_comparison_72 {κ : oKv} {n : Nat} {call : oCl} {kc : Nat → List Value → oSt → Option Value × oSt → Prop} {v : Option Value × oSt} {X : Nat → zLv → List Value → oSt → Prop} (hX : oSem RX7 cX7_comparison 2 0 (some (.object "LiquidTongue$Node")) κ kc v X) (hc : ∀ j av s w, call j av s = some w → kc j av s w) {x0 : Option Nat} {x1 : Option Nat} {σ : oSt} (h : oj_X7_comparison_72 n call κ x0 x1 σ = some v) : X 72 [some (va_rf x0), some (va_rf x1)] [] σ := by
  rw [oj_X7_comparison_72] at h
  refine os_aload_n (r := x1) hX dX7_comparison_72 rfl rfl ?_
  refine os_sipush (v := 403) hX dX7_comparison_73 (by decide) ?_
  obtain ⟨s1, e2, h⟩ := obn_e h
  refine ow_put (r := x1) (x := .int 403) hX dX7_comparison_76 oF_RX7_226 (by decide) (opn_I oT_7_0) e2 ?_
  refine os_aload_n (r := x1) hX dX7_comparison_79 rfl rfl ?_
  refine os_aload_n (r := x0) hX dX7_comparison_80 rfl rfl ?_
  obtain ⟨a3, e4, h⟩ := obn_e h
  obtain ⟨r7, s5, e6, h⟩ := oin_e h
  refine oc_RX7_57 (rb := x0)  hX dX7_comparison_81 (by simp only [List.map_cons, List.map_nil, List.sum_cons, List.sum_nil, ocat]; exact Nat.le_of_ble_eq_true rfl) e4 (hc _ _ _ _ e6) ?_
  obtain ⟨s8, e9, h⟩ := obn_e h
  refine ow_put (r := x1) (x := .int r7) hX dX7_comparison_84 oF_RX7_307 (by decide) (opn_I oT_7_5) e9 ?_
  refine os_aload_n (r := x1) hX dX7_comparison_87 rfl rfl ?_
  refine os_aload_n (r := x0) hX dX7_comparison_88 rfl rfl ?_
  obtain ⟨a10, e11, h⟩ := obn_e h
  obtain ⟨r14, s12, e13, h⟩ := oin_e h
  refine oc_RX7_95 (rb := x0)  hX dX7_comparison_89 (by simp only [List.map_cons, List.map_nil, List.sum_cons, List.sum_nil, ocat]; exact Nat.le_of_ble_eq_true rfl) e11 (hc _ _ _ _ e13) ?_
  obtain ⟨s15, e16, h⟩ := obn_e h
  refine ow_put (r := x1) (x := .int r14) hX dX7_comparison_92 oF_RX7_258 (by decide) (opn_I oT_7_3) e16 ?_
  refine os_aload_n (r := x0) hX dX7_comparison_95 rfl rfl ?_
  obtain ⟨a17, e18, h⟩ := obn_e h
  obtain ⟨s19, e20, h⟩ := ocv_e h
  refine oc_RX7_98 (rb := x0)  hX dX7_comparison_96 (Nat.le_of_ble_eq_true rfl) e18 (hc _ _ _ _ e20) ?_
  refine os_aload_n (r := x1) hX dX7_comparison_99 rfl rfl ?_
  refine os_aload_n (r := x0) hX dX7_comparison_100 rfl rfl ?_
  obtain ⟨a22, e23, h⟩ := obn_e h
  obtain ⟨r26, s24, e25, h⟩ := orn_e h
  refine oc_RX7_185 (rb := x0)  hX dX7_comparison_101 (by simp only [List.map_cons, List.map_nil, List.sum_cons, List.sum_nil, ocat]; exact Nat.le_of_ble_eq_true rfl) e23 (hc _ _ _ _ e25) ?_
  obtain ⟨s27, e28, h⟩ := obn_e h
  refine ow_put (r := x1) (x := va_rf r26) hX dX7_comparison_104 oF_RX7_255 (by decide) (orf_n (Or.inl ⟨_, oT_7_16⟩) r26) e28 ?_
  refine os_aload_n (r := x1) hX dX7_comparison_107 rfl rfl ?_
  obtain ⟨s29, e30, h⟩ := olet_e h
  refine os_new hX dX7_comparison_108 oN_RX7_261 ?_
  rw [← e30]
  refine os_dup hX dX7_comparison_111 (ocat (some s27.2.1)) ?_
  obtain ⟨a31, e32, h⟩ := obn_e h
  obtain ⟨s33, e34, h⟩ := ocv_e h
  refine oc_RX7_263 (rb := (some s27.2.1))  hX dX7_comparison_112 (by simp only [List.map_cons, List.map_nil, List.sum_cons, List.sum_nil, ocat]; exact Nat.le_of_ble_eq_true rfl) e32 (hc _ _ _ _ e34) ?_
  obtain ⟨s36, e37, h⟩ := obn_e h
  refine ow_put (r := x1) (x := va_rf (some s27.2.1)) hX dX7_comparison_115 oF_RX7_192 (by decide) (orf_n (Or.inl ⟨_, oT_7_19⟩) (some s27.2.1)) e37 ?_
  refine os_aload_n (r := x1) hX dX7_comparison_118 rfl rfl ?_
  obtain ⟨v38, e39, h⟩ := obn_e h
  refine ow_get (r := x1) hX dX7_comparison_119 oF_RX7_192 (ovr_e e39) ?_
  refine os_aload_n (r := x1) hX dX7_comparison_122 rfl rfl ?_
  obtain ⟨v40, e41, h⟩ := obn_e h
  refine ow_get (r := x1) hX dX7_comparison_123 oF_RX7_189 (ovr_e e41) ?_
  obtain ⟨v42, e43, h⟩ := obn_e h
  refine ow_get (r := v40) hX dX7_comparison_126 oF_RX7_192 (ovr_e e43) ?_
  refine os_iconst (v := 1) hX dX7_comparison_129 (by decide) ?_
  obtain ⟨a44, e45, h⟩ := obn_e h
  obtain ⟨s46, e47, h⟩ := ocv_e h
  refine oc_RX7_264 (rb := v38) (a1 := va_rf v42) (a2 := .int 1) hX dX7_comparison_130 (Nat.le_of_ble_eq_true rfl) e45 (hc _ _ _ _ e47) ?_
  refine os_aload_n (r := x1) hX dX7_comparison_133 rfl rfl ?_
  obtain ⟨v49, e50, h⟩ := obn_e h
  refine ow_get (r := x1) hX dX7_comparison_134 oF_RX7_192 (ovr_e e50) ?_
  refine os_aload_n (r := x1) hX dX7_comparison_137 rfl rfl ?_
  obtain ⟨v51, e52, h⟩ := obn_e h
  refine ow_get (r := x1) hX dX7_comparison_138 oF_RX7_255 (ovr_e e52) ?_
  obtain ⟨v53, e54, h⟩ := obn_e h
  refine ow_get (r := v51) hX dX7_comparison_141 oF_RX7_192 (ovr_e e54) ?_
  refine os_iconst (v := (-1)) hX dX7_comparison_144 (by decide) ?_
  obtain ⟨a55, e56, h⟩ := obn_e h
  obtain ⟨s57, e58, h⟩ := ocv_e h
  refine oc_RX7_264 (rb := v49) (a1 := va_rf v53) (a2 := .int (-1)) hX dX7_comparison_145 (Nat.le_of_ble_eq_true rfl) e56 (hc _ _ _ _ e58) ?_
  refine os_aload_n (r := x1) hX dX7_comparison_148 rfl rfl ?_
  obtain ⟨v60, e61, h⟩ := obn_e h
  refine ow_get (r := x1) hX dX7_comparison_149 oF_RX7_192 (ovr_e e61) ?_
  obtain ⟨a62, e63, h⟩ := obn_e h
  obtain ⟨r66, s64, e65, h⟩ := oin_e h
  refine oc_RX7_326 (rb := v60)  hX dX7_comparison_152 (Nat.le_of_ble_eq_true rfl) e63 (hc _ _ _ _ e65) ?_
  refine os_if_ne (tgt := 166) hX dX7_comparison_155 (by decide) (fun c67 => ?_) (fun c67 => ?_)
  · rw [if_neg c67] at h
    refine os_aload_n (r := x1) hX dX7_comparison_166 rfl rfl ?_
    exact os_aret (r := x1) hX dX7_comparison_167 rfl (Option.some.inj h)
  · rw [if_pos c67] at h
    refine os_aload_n (r := x0) hX dX7_comparison_158 rfl rfl ?_
    refine os_aload_n (r := x1) hX dX7_comparison_159 rfl rfl ?_
    obtain ⟨v68, e69, h⟩ := obn_e h
    refine ow_get (r := x1) hX dX7_comparison_160 oF_RX7_258 (ovi_e e69) ?_
    obtain ⟨a70, e71, h⟩ := obn_e h
    obtain ⟨s72, e73, h⟩ := ocv_e h
    refine oc_RX7_299 (rb := x0) (a1 := .int v68) hX dX7_comparison_163 (Nat.le_of_ble_eq_true rfl) e71 (hc _ _ _ _ e73) ?_
    refine os_aload_n (r := x1) hX dX7_comparison_166 rfl rfl ?_
    exact os_aret (r := x1) hX dX7_comparison_167 rfl (Option.some.inj h)
set_option maxHeartbeats 4000000 in
theorem qb_X7_comparison {κ : oKv} {n : Nat} {call : oCl} {kc : Nat → List Value → oSt → Option Value × oSt → Prop} {v : Option Value × oSt} {X : Nat → zLv → List Value → oSt → Prop} (hX : oSem RX7 cX7_comparison 2 0 (some (.object "LiquidTongue$Node")) κ kc v X) (hc : ∀ j av s w, call j av s = some w → kc j av s w) {x0 : Option Nat} {x1 : Option Nat} {σ : oSt} (h : ob_X7_comparison n call κ x0 x1 σ = some v) : X 0 [some (va_rf x0), some (va_rf x1)] [] σ := by
  rw [ob_X7_comparison] at h
  refine os_aload_n (r := x1) hX dX7_comparison_0 rfl rfl ?_
  refine os_aload_n (r := x0) hX dX7_comparison_1 rfl rfl ?_
  obtain ⟨a1, e2, h⟩ := obn_e h
  obtain ⟨r5, s3, e4, h⟩ := orn_e h
  refine oc_RX7_185 (rb := x0)  hX dX7_comparison_2 (by simp only [List.map_cons, List.map_nil, List.sum_cons, List.sum_nil, ocat]; exact Nat.le_of_ble_eq_true rfl) e2 (hc _ _ _ _ e4) ?_
  obtain ⟨s6, e7, h⟩ := obn_e h
  refine ow_put (r := x1) (x := va_rf r5) hX dX7_comparison_5 oF_RX7_189 (by decide) (orf_n (Or.inl ⟨_, oT_7_15⟩) r5) e7 ?_
  refine os_aload_n (r := x0) hX dX7_comparison_8 rfl rfl ?_
  refine os_dup hX dX7_comparison_9 (ocat x0) ?_
  obtain ⟨v8, e9, h⟩ := obn_e h
  refine ow_get (r := x0) hX dX7_comparison_10 oF_RX7_310 (ovi_e e9) ?_
  refine os_iconst (v := 1) hX dX7_comparison_13 (by decide) ?_
  refine os_iadd hX dX7_comparison_14 ?_
  obtain ⟨s10, e11, h⟩ := obn_e h
  refine ow_put (r := x0) (x := .int (v8 + 1)) hX dX7_comparison_15 oF_RX7_310 (by decide) (opn_I oT_9_14) e11 ?_
  refine os_aload_n (r := x0) hX dX7_comparison_18 rfl rfl ?_
  obtain ⟨a12, e13, h⟩ := obn_e h
  obtain ⟨r16, s14, e15, h⟩ := oin_e h
  refine oc_RX7_57 (rb := x0)  hX dX7_comparison_19 (Nat.le_of_ble_eq_true rfl) e13 (hc _ _ _ _ e15) ?_
  obtain ⟨r19, s17, e18, h⟩ := oin_e h
  refine oc_RX7_113 (a1 := .int r16) hX dX7_comparison_22 (Nat.le_of_ble_eq_true rfl) (hc _ _ _ _ e18) ?_
  refine os_if_ne (tgt := 72) hX dX7_comparison_25 (by decide) (fun c20 => ?_) (fun c20 => ?_)
  · rw [if_neg c20] at h
    exact qj_X7_comparison_72 hX hc h
  · rw [if_pos c20] at h
    refine os_aload_n (r := x0) hX dX7_comparison_28 rfl rfl ?_
    obtain ⟨a21, e22, h⟩ := obn_e h
    obtain ⟨r25, s23, e24, h⟩ := oin_e h
    refine oc_RX7_57 (rb := x0)  hX dX7_comparison_29 (Nat.le_of_ble_eq_true rfl) e22 (hc _ _ _ _ e24) ?_
    refine os_bipush (v := 35) hX dX7_comparison_32 (by decide) ?_
    refine os_icmp_eq (tgt := 72) hX dX7_comparison_34 (by decide) (fun c26 => ?_) (fun c26 => ?_)
    · rw [if_pos c26] at h
      exact qj_X7_comparison_72 hX hc h
    · rw [if_neg c26] at h
      refine os_aload_n (r := x1) hX dX7_comparison_37 rfl rfl ?_
      refine os_sipush (v := 402) hX dX7_comparison_38 (by decide) ?_
      obtain ⟨s27, e28, h⟩ := obn_e h
      refine ow_put (r := x1) (x := .int 402) hX dX7_comparison_41 oF_RX7_226 (by decide) (opn_I oT_7_0) e28 ?_
      refine os_aload_n (r := x1) hX dX7_comparison_44 rfl rfl ?_
      refine os_aload_n (r := x1) hX dX7_comparison_45 rfl rfl ?_
      obtain ⟨v29, e30, h⟩ := obn_e h
      refine ow_get (r := x1) hX dX7_comparison_46 oF_RX7_189 (ovr_e e30) ?_
      obtain ⟨v31, e32, h⟩ := obn_e h
      refine ow_get (r := v29) hX dX7_comparison_49 oF_RX7_208 (ovr_e e32) ?_
      obtain ⟨s33, e34, h⟩ := obn_e h
      refine ow_put (r := x1) (x := va_rf v31) hX dX7_comparison_52 oF_RX7_208 (by decide) (orf_n (Or.inl ⟨_, oT_7_9⟩) v31) e34 ?_
      refine os_aload_n (r := x1) hX dX7_comparison_55 rfl rfl ?_
      obtain ⟨v35, e36, h⟩ := obn_e h
      refine ow_get (r := x1) hX dX7_comparison_56 oF_RX7_189 (ovr_e e36) ?_
      obtain ⟨v37, e38, h⟩ := obn_e h
      refine ow_get (r := v35) hX dX7_comparison_59 oF_RX7_292 (ovi_e e38) ?_
      refine os_iconst (v := 1) hX dX7_comparison_62 (by decide) ?_
      refine os_icmp_eq (tgt := 70) hX dX7_comparison_63 (by decide) (fun c39 => ?_) (fun c39 => ?_)
      · rw [if_pos c39] at h
        refine os_aload_n (r := x1) hX dX7_comparison_70 rfl rfl ?_
        exact os_aret (r := x1) hX dX7_comparison_71 rfl (Option.some.inj h)
      · rw [if_neg c39] at h
        refine os_aload_n (r := x0) hX dX7_comparison_66 rfl rfl ?_
        obtain ⟨a40, e41, h⟩ := obn_e h
        obtain ⟨s42, e43, h⟩ := ocv_e h
        refine oc_RX7_78 (rb := x0)  hX dX7_comparison_67 (Nat.le_of_ble_eq_true rfl) e41 (hc _ _ _ _ e43) ?_
        refine os_aload_n (r := x1) hX dX7_comparison_70 rfl rfl ?_
        exact os_aret (r := x1) hX dX7_comparison_71 rfl (Option.some.inj h)
def ol_X7_both_60 (n : Nat) (call : oCl) (κ : oKv) : Nat → Option Nat → Int32 → Option Nat → Int32 → oSt → oRs
  | 0, _, _, _, _, _ => none
  | f + 1, x0, x1, x3, x4, σ =>
    obn (ovr (ofd σ x0 9 0)) fun v1 =>
    obn (ovi (ofd σ v1 13 4)) fun v3 =>
    if v3 ≤ x4 then
      some (some (va_rf x3), σ)
    else
      obn (oob σ x0 9) fun a6 =>
      oin (call 104 [va_rf x0] σ) fun r10 s8 =>
      if r10 = 302 then
        obn (oob s8 x0 9) fun a12 =>
        ocv (call 105 [va_rf x0] s8) fun s14 =>
        obn (ovr (ofd s14 x3 7 18)) fun v17 =>
        obn (oob s14 x0 9) fun a19 =>
        orn (call 128 [va_rf x0, .int x1] s14) fun r23 s21 =>
        obn (oob s21 v17 1) fun a24 =>
        oin (call 227 [va_rf v17, va_rf r23] s21) fun r28 s26 =>
        ol_X7_both_60 n call κ f x0 x1 x3 (x4 + 1) s26
      else
        some (some (va_rf x3), s8)
def ob_X7_both (n : Nat) (call : oCl) (κ : oKv) (x0 : Option Nat) (x1 : Int32) (σ : oSt) : oRs :=
  obn (oob σ x0 9) fun a1 =>
  orn (call 128 [va_rf x0, .int x1] σ) fun r5 s3 =>
  obn (oob s3 x0 9) fun a6 =>
  oin (call 104 [va_rf x0] s3) fun r10 s8 =>
  if r10 = 302 then
    olet (onew s8 (.inr (7, odef 7)) (oq 7).2.2) fun s12 =>
    obn (ovi (ofd s12 r5 7 1)) fun v14 =>
    obn (ovi (ofd s12 x0 9 12)) fun v16 =>
    obn ((some s8.2.1)) fun a18 =>
    ocv (call 102 [va_rf (some s8.2.1), .int 302, .int v14, .int v16] s12) fun s20 =>
    olet (onew s20 (.inr (1, odef 1)) (oq 1).2.2) fun s23 =>
    obn ((some s20.2.1)) fun a25 =>
    ocv (call 224 [va_rf (some s20.2.1)] s23) fun s27 =>
    obn (opf s27 (some s8.2.1) 7 18 (va_rf (some s20.2.1))) fun s30 =>
    obn (ovr (ofd s30 (some s8.2.1) 7 18)) fun v32 =>
    obn (oob s30 v32 1) fun a34 =>
    oin (call 227 [va_rf v32, va_rf r5] s30) fun r38 s36 =>
    ol_X7_both_60 n call κ n x0 x1 (some s8.2.1) 0 s36
  else
    some (some (va_rf r5), s8)
set_option maxHeartbeats 4000000 in
theorem ql_X7_both_60 {κ : oKv} {n : Nat} {call : oCl} {kc : Nat → List Value → oSt → Option Value × oSt → Prop} {v : Option Value × oSt} {X : Nat → zLv → List Value → oSt → Prop} (hX : oSem RX7 cX7_both 5 0 (some (.object "LiquidTongue$Node")) κ kc v X) (hc : ∀ j av s w, call j av s = some w → kc j av s w) : ∀ (f : Nat) (x0 : Option Nat) (x1 : Int32) (x3 : Option Nat) (x4 : Int32) (σ : oSt), ol_X7_both_60 n call κ f x0 x1 x3 x4 σ = some v → X 60 [some (va_rf x0), some (.int x1), none, some (va_rf x3), some (.int x4)] [] σ := by
  intro f
  induction f with
  | zero => intro x0 x1 x3 x4 σ h; cases h
  | succ f hk60 =>
    intro x0 x1 x3 x4 σ h
    rw [ol_X7_both_60] at h
    refine os_iload hX dX7_both_60 rfl ?_
    refine os_aload_n (r := x0) hX dX7_both_62 rfl rfl ?_
    obtain ⟨v1, e2, h⟩ := obn_e h
    refine ow_get (r := x0) hX dX7_both_63 oF_RX7_50 (ovr_e e2) ?_
    obtain ⟨v3, e4, h⟩ := obn_e h
    refine ow_get (r := v1) hX dX7_both_66 oF_RX7_92 (ovi_e e4) ?_
    refine os_icmp_ge (tgt := 105) hX dX7_both_69 (by decide) (fun c5 => ?_) (fun c5 => ?_)
    · rw [if_pos c5] at h
      refine os_aload_n (r := x3) hX dX7_both_105 rfl rfl ?_
      exact os_aret (r := x3) hX dX7_both_106 rfl (Option.some.inj h)
    · rw [if_neg c5] at h
      refine os_aload_n (r := x0) hX dX7_both_72 rfl rfl ?_
      obtain ⟨a6, e7, h⟩ := obn_e h
      obtain ⟨r10, s8, e9, h⟩ := oin_e h
      refine oc_RX7_57 (rb := x0)  hX dX7_both_73 (Nat.le_of_ble_eq_true rfl) e7 (hc _ _ _ _ e9) ?_
      refine os_sipush (v := 302) hX dX7_both_76 (by decide) ?_
      refine os_icmp_ne (tgt := 105) hX dX7_both_79 (by decide) (fun c11 => ?_) (fun c11 => ?_)
      · rw [if_neg c11] at h
        refine os_aload_n (r := x3) hX dX7_both_105 rfl rfl ?_
        exact os_aret (r := x3) hX dX7_both_106 rfl (Option.some.inj h)
      · rw [if_pos c11] at h
        refine os_aload_n (r := x0) hX dX7_both_82 rfl rfl ?_
        obtain ⟨a12, e13, h⟩ := obn_e h
        obtain ⟨s14, e15, h⟩ := ocv_e h
        refine oc_RX7_98 (rb := x0)  hX dX7_both_83 (Nat.le_of_ble_eq_true rfl) e13 (hc _ _ _ _ e15) ?_
        refine os_aload_n (r := x3) hX dX7_both_86 rfl rfl ?_
        obtain ⟨v17, e18, h⟩ := obn_e h
        refine ow_get (r := x3) hX dX7_both_87 oF_RX7_271 (ovr_e e18) ?_
        refine os_aload_n (r := x0) hX dX7_both_90 rfl rfl ?_
        refine os_iload_n hX dX7_both_91 rfl rfl ?_
        obtain ⟨a19, e20, h⟩ := obn_e h
        obtain ⟨r23, s21, e22, h⟩ := orn_e h
        refine oc_RX7_319 (rb := x0) (a1 := .int x1) hX dX7_both_92 (by simp only [List.map_cons, List.map_nil, List.sum_cons, List.sum_nil, ocat]; exact Nat.le_of_ble_eq_true rfl) e20 (hc _ _ _ _ e22) ?_
        obtain ⟨a24, e25, h⟩ := obn_e h
        obtain ⟨r28, s26, e27, h⟩ := oin_e h
        refine oc_RX7_151 (rb := v17) (a1 := va_rf r23) hX dX7_both_95 (Nat.le_of_ble_eq_true rfl) e25 (hc _ _ _ _ e27) ?_
        refine os_pop hX dX7_both_98 rfl ?_
        refine os_iinc (v := x4 + 1) hX dX7_both_99 rfl rfl (by decide) (ozlo (i := 3) (r := x3) rfl) ?_
        dsimp only [List.set]
        refine os_goto (tgt := 60) hX dX7_both_102 (by decide) ?_
        exact hk60 _ _ _ _ _ h
set_option maxHeartbeats 4000000 in
theorem qb_X7_both {κ : oKv} {n : Nat} {call : oCl} {kc : Nat → List Value → oSt → Option Value × oSt → Prop} {v : Option Value × oSt} {X : Nat → zLv → List Value → oSt → Prop} (hX : oSem RX7 cX7_both 5 0 (some (.object "LiquidTongue$Node")) κ kc v X) (hc : ∀ j av s w, call j av s = some w → kc j av s w) {x0 : Option Nat} {x1 : Int32} {σ : oSt} (h : ob_X7_both n call κ x0 x1 σ = some v) : X 0 [some (va_rf x0), some (.int x1), none, none, none] [] σ := by
  rw [ob_X7_both] at h
  refine os_aload_n (r := x0) hX dX7_both_0 rfl rfl ?_
  refine os_iload_n hX dX7_both_1 rfl rfl ?_
  obtain ⟨a1, e2, h⟩ := obn_e h
  obtain ⟨r5, s3, e4, h⟩ := orn_e h
  refine oc_RX7_319 (rb := x0) (a1 := .int x1) hX dX7_both_2 (Nat.le_of_ble_eq_true rfl) e2 (hc _ _ _ _ e4) ?_
  refine os_astore_n (r := r5) hX dX7_both_5 rfl (by decide) rfl ?_
  dsimp only [List.set]
  refine os_aload_n (r := x0) hX dX7_both_6 rfl rfl ?_
  obtain ⟨a6, e7, h⟩ := obn_e h
  obtain ⟨r10, s8, e9, h⟩ := oin_e h
  refine oc_RX7_57 (rb := x0)  hX dX7_both_7 (Nat.le_of_ble_eq_true rfl) e7 (hc _ _ _ _ e9) ?_
  refine os_sipush (v := 302) hX dX7_both_10 (by decide) ?_
  refine os_icmp_eq (tgt := 18) hX dX7_both_13 (by decide) (fun c11 => ?_) (fun c11 => ?_)
  · rw [if_pos c11] at h
    obtain ⟨s12, e13, h⟩ := olet_e h
    refine os_new hX dX7_both_18 oN_RX7_101 ?_
    rw [← e13]
    refine os_dup hX dX7_both_21 (ocat (some s8.2.1)) ?_
    refine os_sipush (v := 302) hX dX7_both_22 (by decide) ?_
    refine os_aload_n (r := r5) hX dX7_both_25 rfl rfl ?_
    obtain ⟨v14, e15, h⟩ := obn_e h
    refine ow_get (r := r5) hX dX7_both_26 oF_RX7_284 (ovi_e e15) ?_
    refine os_aload_n (r := x0) hX dX7_both_29 rfl rfl ?_
    obtain ⟨v16, e17, h⟩ := obn_e h
    refine ow_get (r := x0) hX dX7_both_30 oF_RX7_103 (ovi_e e17) ?_
    obtain ⟨a18, e19, h⟩ := obn_e h
    obtain ⟨s20, e21, h⟩ := ocv_e h
    refine oc_RX7_106 (rb := (some s8.2.1)) (a1 := .int 302) (a2 := .int v14) (a3 := .int v16) hX dX7_both_33 (by simp only [List.map_cons, List.map_nil, List.sum_cons, List.sum_nil, ocat]; exact Nat.le_of_ble_eq_true rfl) e19 (hc _ _ _ _ e21) ?_
    refine os_astore_n (r := (some s8.2.1)) hX dX7_both_36 rfl (by decide) (ozlo (i := 2) (r := r5) rfl) ?_
    dsimp only [List.set]
    refine os_aload_n (r := (some s8.2.1)) hX dX7_both_37 rfl rfl ?_
    obtain ⟨s23, e24, h⟩ := olet_e h
    refine os_new hX dX7_both_38 oN_RX7_17 ?_
    rw [← e24]
    refine os_dup hX dX7_both_41 (ocat (some s20.2.1)) ?_
    obtain ⟨a25, e26, h⟩ := obn_e h
    obtain ⟨s27, e28, h⟩ := ocv_e h
    refine oc_RX7_19 (rb := (some s20.2.1))  hX dX7_both_42 (by simp only [List.map_cons, List.map_nil, List.sum_cons, List.sum_nil, ocat]; exact Nat.le_of_ble_eq_true rfl) e26 (hc _ _ _ _ e28) ?_
    obtain ⟨s30, e31, h⟩ := obn_e h
    refine ow_put (r := (some s8.2.1)) (x := va_rf (some s20.2.1)) hX dX7_both_45 oF_RX7_271 (by decide) (orf_n (Or.inl ⟨_, oT_7_18⟩) (some s20.2.1)) e31 ?_
    refine os_aload_n (r := (some s8.2.1)) hX dX7_both_48 rfl rfl ?_
    obtain ⟨v32, e33, h⟩ := obn_e h
    refine ow_get (r := (some s8.2.1)) hX dX7_both_49 oF_RX7_271 (ovr_e e33) ?_
    refine os_aload_n (r := r5) hX dX7_both_52 rfl rfl ?_
    obtain ⟨a34, e35, h⟩ := obn_e h
    obtain ⟨r38, s36, e37, h⟩ := oin_e h
    refine oc_RX7_151 (rb := v32) (a1 := va_rf r5) hX dX7_both_53 (Nat.le_of_ble_eq_true rfl) e35 (hc _ _ _ _ e37) ?_
    refine os_pop hX dX7_both_56 rfl ?_
    refine os_iconst (v := 0) hX dX7_both_57 (by decide) ?_
    refine os_istore hX dX7_both_58 (by decide) (ozlo (i := 3) (r := (some s8.2.1)) rfl) ?_
    dsimp only [List.set]
    refine os_weak hX (lw := [some (va_rf x0), some (.int x1), none, some (va_rf (some s8.2.1)), some (.int 0)]) ⟨rfl, rfl, rfl, rfl, trivial⟩ ?_
    exact ql_X7_both_60 hX hc n _ _ _ _ _ h
  · rw [if_neg c11] at h
    refine os_aload_n (r := r5) hX dX7_both_16 rfl rfl ?_
    exact os_aret (r := r5) hX dX7_both_17 rfl (Option.some.inj h)
def ol_X7_either_60 (n : Nat) (call : oCl) (κ : oKv) : Nat → Option Nat → Int32 → Option Nat → Int32 → oSt → oRs
  | 0, _, _, _, _, _ => none
  | f + 1, x0, x1, x3, x4, σ =>
    obn (ovr (ofd σ x0 9 0)) fun v1 =>
    obn (ovi (ofd σ v1 13 4)) fun v3 =>
    if v3 ≤ x4 then
      some (some (va_rf x3), σ)
    else
      obn (oob σ x0 9) fun a6 =>
      oin (call 104 [va_rf x0] σ) fun r10 s8 =>
      if r10 = 303 then
        obn (oob s8 x0 9) fun a12 =>
        ocv (call 105 [va_rf x0] s8) fun s14 =>
        obn (ovr (ofd s14 x3 7 18)) fun v17 =>
        obn (oob s14 x0 9) fun a19 =>
        orn (call 126 [va_rf x0, .int x1] s14) fun r23 s21 =>
        obn (oob s21 v17 1) fun a24 =>
        oin (call 227 [va_rf v17, va_rf r23] s21) fun r28 s26 =>
        ol_X7_either_60 n call κ f x0 x1 x3 (x4 + 1) s26
      else
        some (some (va_rf x3), s8)
def ob_X7_either (n : Nat) (call : oCl) (κ : oKv) (x0 : Option Nat) (x1 : Int32) (σ : oSt) : oRs :=
  obn (oob σ x0 9) fun a1 =>
  orn (call 126 [va_rf x0, .int x1] σ) fun r5 s3 =>
  obn (oob s3 x0 9) fun a6 =>
  oin (call 104 [va_rf x0] s3) fun r10 s8 =>
  if r10 = 303 then
    olet (onew s8 (.inr (7, odef 7)) (oq 7).2.2) fun s12 =>
    obn (ovi (ofd s12 r5 7 1)) fun v14 =>
    obn (ovi (ofd s12 x0 9 12)) fun v16 =>
    obn ((some s8.2.1)) fun a18 =>
    ocv (call 102 [va_rf (some s8.2.1), .int 303, .int v14, .int v16] s12) fun s20 =>
    olet (onew s20 (.inr (1, odef 1)) (oq 1).2.2) fun s23 =>
    obn ((some s20.2.1)) fun a25 =>
    ocv (call 224 [va_rf (some s20.2.1)] s23) fun s27 =>
    obn (opf s27 (some s8.2.1) 7 18 (va_rf (some s20.2.1))) fun s30 =>
    obn (ovr (ofd s30 (some s8.2.1) 7 18)) fun v32 =>
    obn (oob s30 v32 1) fun a34 =>
    oin (call 227 [va_rf v32, va_rf r5] s30) fun r38 s36 =>
    ol_X7_either_60 n call κ n x0 x1 (some s8.2.1) 0 s36
  else
    some (some (va_rf r5), s8)
set_option maxHeartbeats 4000000 in
theorem ql_X7_either_60 {κ : oKv} {n : Nat} {call : oCl} {kc : Nat → List Value → oSt → Option Value × oSt → Prop} {v : Option Value × oSt} {X : Nat → zLv → List Value → oSt → Prop} (hX : oSem RX7 cX7_either 5 0 (some (.object "LiquidTongue$Node")) κ kc v X) (hc : ∀ j av s w, call j av s = some w → kc j av s w) : ∀ (f : Nat) (x0 : Option Nat) (x1 : Int32) (x3 : Option Nat) (x4 : Int32) (σ : oSt), ol_X7_either_60 n call κ f x0 x1 x3 x4 σ = some v → X 60 [some (va_rf x0), some (.int x1), none, some (va_rf x3), some (.int x4)] [] σ := by
  intro f
  induction f with
  | zero => intro x0 x1 x3 x4 σ h; cases h
  | succ f hk60 =>
    intro x0 x1 x3 x4 σ h
    rw [ol_X7_either_60] at h
    refine os_iload hX dX7_either_60 rfl ?_
    refine os_aload_n (r := x0) hX dX7_either_62 rfl rfl ?_
    obtain ⟨v1, e2, h⟩ := obn_e h
    refine ow_get (r := x0) hX dX7_either_63 oF_RX7_50 (ovr_e e2) ?_
    obtain ⟨v3, e4, h⟩ := obn_e h
    refine ow_get (r := v1) hX dX7_either_66 oF_RX7_92 (ovi_e e4) ?_
    refine os_icmp_ge (tgt := 105) hX dX7_either_69 (by decide) (fun c5 => ?_) (fun c5 => ?_)
    · rw [if_pos c5] at h
      refine os_aload_n (r := x3) hX dX7_either_105 rfl rfl ?_
      exact os_aret (r := x3) hX dX7_either_106 rfl (Option.some.inj h)
    · rw [if_neg c5] at h
      refine os_aload_n (r := x0) hX dX7_either_72 rfl rfl ?_
      obtain ⟨a6, e7, h⟩ := obn_e h
      obtain ⟨r10, s8, e9, h⟩ := oin_e h
      refine oc_RX7_57 (rb := x0)  hX dX7_either_73 (Nat.le_of_ble_eq_true rfl) e7 (hc _ _ _ _ e9) ?_
      refine os_sipush (v := 303) hX dX7_either_76 (by decide) ?_
      refine os_icmp_ne (tgt := 105) hX dX7_either_79 (by decide) (fun c11 => ?_) (fun c11 => ?_)
      · rw [if_neg c11] at h
        refine os_aload_n (r := x3) hX dX7_either_105 rfl rfl ?_
        exact os_aret (r := x3) hX dX7_either_106 rfl (Option.some.inj h)
      · rw [if_pos c11] at h
        refine os_aload_n (r := x0) hX dX7_either_82 rfl rfl ?_
        obtain ⟨a12, e13, h⟩ := obn_e h
        obtain ⟨s14, e15, h⟩ := ocv_e h
        refine oc_RX7_98 (rb := x0)  hX dX7_either_83 (Nat.le_of_ble_eq_true rfl) e13 (hc _ _ _ _ e15) ?_
        refine os_aload_n (r := x3) hX dX7_either_86 rfl rfl ?_
        obtain ⟨v17, e18, h⟩ := obn_e h
        refine ow_get (r := x3) hX dX7_either_87 oF_RX7_271 (ovr_e e18) ?_
        refine os_aload_n (r := x0) hX dX7_either_90 rfl rfl ?_
        refine os_iload_n hX dX7_either_91 rfl rfl ?_
        obtain ⟨a19, e20, h⟩ := obn_e h
        obtain ⟨r23, s21, e22, h⟩ := orn_e h
        refine oc_RX7_316 (rb := x0) (a1 := .int x1) hX dX7_either_92 (by simp only [List.map_cons, List.map_nil, List.sum_cons, List.sum_nil, ocat]; exact Nat.le_of_ble_eq_true rfl) e20 (hc _ _ _ _ e22) ?_
        obtain ⟨a24, e25, h⟩ := obn_e h
        obtain ⟨r28, s26, e27, h⟩ := oin_e h
        refine oc_RX7_151 (rb := v17) (a1 := va_rf r23) hX dX7_either_95 (Nat.le_of_ble_eq_true rfl) e25 (hc _ _ _ _ e27) ?_
        refine os_pop hX dX7_either_98 rfl ?_
        refine os_iinc (v := x4 + 1) hX dX7_either_99 rfl rfl (by decide) (ozlo (i := 3) (r := x3) rfl) ?_
        dsimp only [List.set]
        refine os_goto (tgt := 60) hX dX7_either_102 (by decide) ?_
        exact hk60 _ _ _ _ _ h
set_option maxHeartbeats 4000000 in
theorem qb_X7_either {κ : oKv} {n : Nat} {call : oCl} {kc : Nat → List Value → oSt → Option Value × oSt → Prop} {v : Option Value × oSt} {X : Nat → zLv → List Value → oSt → Prop} (hX : oSem RX7 cX7_either 5 0 (some (.object "LiquidTongue$Node")) κ kc v X) (hc : ∀ j av s w, call j av s = some w → kc j av s w) {x0 : Option Nat} {x1 : Int32} {σ : oSt} (h : ob_X7_either n call κ x0 x1 σ = some v) : X 0 [some (va_rf x0), some (.int x1), none, none, none] [] σ := by
  rw [ob_X7_either] at h
  refine os_aload_n (r := x0) hX dX7_either_0 rfl rfl ?_
  refine os_iload_n hX dX7_either_1 rfl rfl ?_
  obtain ⟨a1, e2, h⟩ := obn_e h
  obtain ⟨r5, s3, e4, h⟩ := orn_e h
  refine oc_RX7_316 (rb := x0) (a1 := .int x1) hX dX7_either_2 (Nat.le_of_ble_eq_true rfl) e2 (hc _ _ _ _ e4) ?_
  refine os_astore_n (r := r5) hX dX7_either_5 rfl (by decide) rfl ?_
  dsimp only [List.set]
  refine os_aload_n (r := x0) hX dX7_either_6 rfl rfl ?_
  obtain ⟨a6, e7, h⟩ := obn_e h
  obtain ⟨r10, s8, e9, h⟩ := oin_e h
  refine oc_RX7_57 (rb := x0)  hX dX7_either_7 (Nat.le_of_ble_eq_true rfl) e7 (hc _ _ _ _ e9) ?_
  refine os_sipush (v := 303) hX dX7_either_10 (by decide) ?_
  refine os_icmp_eq (tgt := 18) hX dX7_either_13 (by decide) (fun c11 => ?_) (fun c11 => ?_)
  · rw [if_pos c11] at h
    obtain ⟨s12, e13, h⟩ := olet_e h
    refine os_new hX dX7_either_18 oN_RX7_101 ?_
    rw [← e13]
    refine os_dup hX dX7_either_21 (ocat (some s8.2.1)) ?_
    refine os_sipush (v := 303) hX dX7_either_22 (by decide) ?_
    refine os_aload_n (r := r5) hX dX7_either_25 rfl rfl ?_
    obtain ⟨v14, e15, h⟩ := obn_e h
    refine ow_get (r := r5) hX dX7_either_26 oF_RX7_284 (ovi_e e15) ?_
    refine os_aload_n (r := x0) hX dX7_either_29 rfl rfl ?_
    obtain ⟨v16, e17, h⟩ := obn_e h
    refine ow_get (r := x0) hX dX7_either_30 oF_RX7_103 (ovi_e e17) ?_
    obtain ⟨a18, e19, h⟩ := obn_e h
    obtain ⟨s20, e21, h⟩ := ocv_e h
    refine oc_RX7_106 (rb := (some s8.2.1)) (a1 := .int 303) (a2 := .int v14) (a3 := .int v16) hX dX7_either_33 (by simp only [List.map_cons, List.map_nil, List.sum_cons, List.sum_nil, ocat]; exact Nat.le_of_ble_eq_true rfl) e19 (hc _ _ _ _ e21) ?_
    refine os_astore_n (r := (some s8.2.1)) hX dX7_either_36 rfl (by decide) (ozlo (i := 2) (r := r5) rfl) ?_
    dsimp only [List.set]
    refine os_aload_n (r := (some s8.2.1)) hX dX7_either_37 rfl rfl ?_
    obtain ⟨s23, e24, h⟩ := olet_e h
    refine os_new hX dX7_either_38 oN_RX7_17 ?_
    rw [← e24]
    refine os_dup hX dX7_either_41 (ocat (some s20.2.1)) ?_
    obtain ⟨a25, e26, h⟩ := obn_e h
    obtain ⟨s27, e28, h⟩ := ocv_e h
    refine oc_RX7_19 (rb := (some s20.2.1))  hX dX7_either_42 (by simp only [List.map_cons, List.map_nil, List.sum_cons, List.sum_nil, ocat]; exact Nat.le_of_ble_eq_true rfl) e26 (hc _ _ _ _ e28) ?_
    obtain ⟨s30, e31, h⟩ := obn_e h
    refine ow_put (r := (some s8.2.1)) (x := va_rf (some s20.2.1)) hX dX7_either_45 oF_RX7_271 (by decide) (orf_n (Or.inl ⟨_, oT_7_18⟩) (some s20.2.1)) e31 ?_
    refine os_aload_n (r := (some s8.2.1)) hX dX7_either_48 rfl rfl ?_
    obtain ⟨v32, e33, h⟩ := obn_e h
    refine ow_get (r := (some s8.2.1)) hX dX7_either_49 oF_RX7_271 (ovr_e e33) ?_
    refine os_aload_n (r := r5) hX dX7_either_52 rfl rfl ?_
    obtain ⟨a34, e35, h⟩ := obn_e h
    obtain ⟨r38, s36, e37, h⟩ := oin_e h
    refine oc_RX7_151 (rb := v32) (a1 := va_rf r5) hX dX7_either_53 (Nat.le_of_ble_eq_true rfl) e35 (hc _ _ _ _ e37) ?_
    refine os_pop hX dX7_either_56 rfl ?_
    refine os_iconst (v := 0) hX dX7_either_57 (by decide) ?_
    refine os_istore hX dX7_either_58 (by decide) (ozlo (i := 3) (r := (some s8.2.1)) rfl) ?_
    dsimp only [List.set]
    refine os_weak hX (lw := [some (va_rf x0), some (.int x1), none, some (va_rf (some s8.2.1)), some (.int 0)]) ⟨rfl, rfl, rfl, rfl, trivial⟩ ?_
    exact ql_X7_either_60 hX hc n _ _ _ _ _ h
  · rw [if_neg c11] at h
    refine os_aload_n (r := r5) hX dX7_either_16 rfl rfl ?_
    exact os_aret (r := r5) hX dX7_either_17 rfl (Option.some.inj h)
