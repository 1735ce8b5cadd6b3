/-! the methods of the class as plain functions (184 to 211) -/
def oj_X12_tellName_67 (n : Nat) (call : oCl) (κ : oKv) (x0 : Option Nat) (x2 : Int32) (σ : oSt) : oRs :=
  obn (oob σ x0 14) fun a1 =>
  ocv (call 181 [va_rf x0, .int 36] σ) fun s3 =>
  obn (oob s3 x0 14) fun a6 =>
  ocv (call 183 [va_rf x0, .long x2.toInt64] s3) fun s8 =>
  some (none, s8)
def oj_X12_tellName_47 (n : Nat) (call : oCl) (κ : oKv) (x0 : Option Nat) (x1 : Option Nat) (x2 : Int32) (σ : oSt) : oRs :=
  obn (ovr (ofd σ x0 14 10)) fun v1 =>
  obn (oob σ v1 1) fun a3 =>
  oin (call 236 [va_rf v1] σ) fun r7 s5 =>
  if x2 = r7 then
    obn (ovr (ofd s5 x0 14 10)) fun v9 =>
    obn (oob s5 v9 1) fun a11 =>
    oin (call 227 [va_rf v9, va_rf x1] s5) fun r15 s13 =>
    oj_X12_tellName_67 n call κ x0 x2 s13
  else
    oj_X12_tellName_67 n call κ x0 x2 s5
def ol_X12_tellName_18 (n : Nat) (call : oCl) (κ : oKv) : Nat → Option Nat → Option Nat → Int32 → oSt → oRs
  | 0, _, _, _, _ => none
  | f + 1, x0, x1, x2, σ =>
    obn (ovr (ofd σ x0 14 10)) fun v1 =>
    obn (oob σ v1 1) fun a3 =>
    oin (call 236 [va_rf v1] σ) fun r7 s5 =>
    if r7 ≤ x2 then
      oj_X12_tellName_47 n call κ x0 x1 x2 s5
    else
      obn (ovr (ofd s5 x0 14 10)) fun v9 =>
      obn (oob s5 v9 1) fun a11 =>
      orn (call 234 [va_rf v9, .int x2] s5) fun r15 s13 =>
      if r15 = x1 then
        oj_X12_tellName_47 n call κ x0 x1 x2 s13
      else
        ol_X12_tellName_18 n call κ f x0 x1 (x2 + 1) s13
def ob_X12_tellName (n : Nat) (call : oCl) (κ : oKv) (x0 : Option Nat) (x1 : Option Nat) (σ : oSt) : oRs :=
  obn (ovr (ofd σ x1 6 0)) fun v1 =>
  if v1 = none then
    ol_X12_tellName_18 n call κ n x0 x1 0 σ
  else
    obn (ovr (ofd σ x1 6 0)) fun v4 =>
    obn (oob σ x0 14) fun a6 =>
    ocv (call 182 [va_rf x0, va_rf v4] σ) fun s8 =>
    some (none, s8)
set_option maxHeartbeats 4000000 in
theorem qj_X12_tellName_67 {κ : oKv} {n : Nat} {call : oCl} {kc : Nat → List Value → oSt → Option Value × oSt → Prop} {v : Option Value × oSt} {X : Nat → zLv → List Value → oSt → Prop} (hX : oSem RX12 cX12_tellName 3 0 none κ kc v X) (hc : ∀ j av s w, call j av s = some w → kc j av s w) {x0 : Option Nat} {x2 : Int32} {σ : oSt} (h : oj_X12_tellName_67 n call κ x0 x2 σ = some v) : X 67 [some (va_rf x0), none, some (.int x2)] [] σ := by
  rw [oj_X12_tellName_67] at h
  refine os_aload_n (r := x0) hX dX12_tellName_67 rfl rfl ?_
  refine os_bipush (v := 36) hX dX12_tellName_68 (by decide) ?_
  obtain ⟨a1, e2, h⟩ := obn_e h
  obtain ⟨s3, e4, h⟩ := ocv_e h
  refine oc_RX12_201 (rb := x0) (a1 := .int 36) hX dX12_tellName_70 (Nat.le_of_ble_eq_true rfl) e2 (hc _ _ _ _ e4) ?_
  refine os_aload_n (r := x0) hX dX12_tellName_73 rfl rfl ?_
  refine os_iload_n hX dX12_tellName_74 rfl rfl ?_
  refine os_i2l hX dX12_tellName_75 ?_
  obtain ⟨a6, e7, h⟩ := obn_e h
  obtain ⟨s8, e9, h⟩ := ocv_e h
  refine oc_RX12_253 (rb := x0) (a1 := .long x2.toInt64) hX dX12_tellName_76 (Nat.le_of_ble_eq_true rfl) e7 (hc _ _ _ _ e9) ?_
  exact os_vret hX dX12_tellName_79 rfl (Option.some.inj h)
set_option maxHeartbeats 4000000 in
theorem qj_X12_tellName_47 {κ : oKv} {n : Nat} {call : oCl} {kc : Nat → List Value → oSt → Option Value × oSt → Prop} {v : Option Value × oSt} {X : Nat → zLv → List Value → oSt → Prop} (hX : oSem RX12 cX12_tellName 3 0 none κ kc v X) (hc : ∀ j av s w, call j av s = some w → kc j av s w) {x0 : Option Nat} {x1 : Option Nat} {x2 : Int32} {σ : oSt} (h : oj_X12_tellName_47 n call κ x0 x1 x2 σ = some v) : X 47 [some (va_rf x0), some (va_rf x1), some (.int x2)] [] σ := by
  rw [oj_X12_tellName_47] at h
  refine os_iload_n hX dX12_tellName_47 rfl rfl ?_
  refine os_aload_n (r := x0) hX dX12_tellName_48 rfl rfl ?_
  obtain ⟨v1, e2, h⟩ := obn_e h
  refine ow_get (r := x0) hX dX12_tellName_49 oF_RX12_26 (ovr_e e2) ?_
  obtain ⟨a3, e4, h⟩ := obn_e h
  obtain ⟨r7, s5, e6, h⟩ := oin_e h
  refine oc_RX12_154 (rb := v1)  hX dX12_tellName_52 (Nat.le_of_ble_eq_true rfl) e4 (hc _ _ _ _ e6) ?_
  refine os_icmp_ne (tgt := 67) hX dX12_tellName_55 (by decide) (fun c8 => ?_) (fun c8 => ?_)
  · rw [if_neg c8] at h
    refine os_weak hX (lw := [some (va_rf x0), none, some (.int x2)]) ⟨rfl, rfl, trivial⟩ ?_
    exact qj_X12_tellName_67 hX hc h
  · rw [if_pos c8] at h
    refine os_aload_n (r := x0) hX dX12_tellName_58 rfl rfl ?_
    obtain ⟨v9, e10, h⟩ := obn_e h
    refine ow_get (r := x0) hX dX12_tellName_59 oF_RX12_26 (ovr_e e10) ?_
    refine os_aload_n (r := x1) hX dX12_tellName_62 rfl rfl ?_
    obtain ⟨a11, e12, h⟩ := obn_e h
    obtain ⟨r15, s13, e14, h⟩ := oin_e h
    refine oc_RX12_273 (rb := v9) (a1 := va_rf x1) hX dX12_tellName_63 (Nat.le_of_ble_eq_true rfl) e12 (hc _ _ _ _ e14) ?_
    refine os_pop hX dX12_tellName_66 rfl ?_
    refine os_weak hX (lw := [some (va_rf x0), none, some (.int x2)]) ⟨rfl, rfl, trivial⟩ ?_
    exact qj_X12_tellName_67 hX hc h
set_option maxHeartbeats 4000000 in
theorem ql_X12_tellName_18 {κ : oKv} {n : Nat} {call : oCl} {kc : Nat → List Value → oSt → Option Value × oSt → Prop} {v : Option Value × oSt} {X : Nat → zLv → List Value → oSt → Prop} (hX : oSem RX12 cX12_tellName 3 0 none κ kc v X) (hc : ∀ j av s w, call j av s = some w → kc j av s w) : ∀ (f : Nat) (x0 : Option Nat) (x1 : Option Nat) (x2 : Int32) (σ : oSt), ol_X12_tellName_18 n call κ f x0 x1 x2 σ = some v → X 18 [some (va_rf x0), some (va_rf x1), some (.int x2)] [] σ := by
  intro f
  induction f with
  | zero => intro x0 x1 x2 σ h; cases h
  | succ f hk18 =>
    intro x0 x1 x2 σ h
    rw [ol_X12_tellName_18] at h
    refine os_iload_n hX dX12_tellName_18 rfl rfl ?_
    refine os_aload_n (r := x0) hX dX12_tellName_19 rfl rfl ?_
    obtain ⟨v1, e2, h⟩ := obn_e h
    refine ow_get (r := x0) hX dX12_tellName_20 oF_RX12_26 (ovr_e e2) ?_
    obtain ⟨a3, e4, h⟩ := obn_e h
    obtain ⟨r7, s5, e6, h⟩ := oin_e h
    refine oc_RX12_154 (rb := v1)  hX dX12_tellName_23 (Nat.le_of_ble_eq_true rfl) e4 (hc _ _ _ _ e6) ?_
    refine os_icmp_ge (tgt := 47) hX dX12_tellName_26 (by decide) (fun c8 => ?_) (fun c8 => ?_)
    · rw [if_pos c8] at h
      exact qj_X12_tellName_47 hX hc h
    · rw [if_neg c8] at h
      refine os_aload_n (r := x0) hX dX12_tellName_29 rfl rfl ?_
      obtain ⟨v9, e10, h⟩ := obn_e h
      refine ow_get (r := x0) hX dX12_tellName_30 oF_RX12_26 (ovr_e e10) ?_
      refine os_iload_n hX dX12_tellName_33 rfl rfl ?_
      obtain ⟨a11, e12, h⟩ := obn_e h
      obtain ⟨r15, s13, e14, h⟩ := orn_e h
      refine oc_RX12_164 (rb := v9) (a1 := .int x2) hX dX12_tellName_34 (Nat.le_of_ble_eq_true rfl) e12 (hc _ _ _ _ e14) ?_
      refine os_aload_n (r := x1) hX dX12_tellName_37 rfl rfl ?_
      refine os_acmp_eq (rx := r15) (ry := x1) (tgt := 47) hX dX12_tellName_38 (by decide) (fun c16 => ?_) (fun c16 => ?_)
      · rw [if_pos c16] at h
        exact qj_X12_tellName_47 hX hc h
      · rw [if_neg c16] at h
        refine os_iinc (v := x2 + 1) hX dX12_tellName_41 rfl rfl (by decide) (ozlo (i := 1) (r := x1) rfl) ?_
        dsimp only [List.set]
        refine os_goto (tgt := 18) hX dX12_tellName_44 (by decide) ?_
        exact hk18 _ _ _ _ h
set_option maxHeartbeats 4000000 in
theorem qb_X12_tellName {κ : oKv} {n : Nat} {call : oCl} {kc : Nat → List Value → oSt → Option Value × oSt → Prop} {v : Option Value × oSt} {X : Nat → zLv → List Value → oSt → Prop} (hX : oSem RX12 cX12_tellName 3 0 none κ kc v X) (hc : ∀ j av s w, call j av s = some w → kc j av s w) {x0 : Option Nat} {x1 : Option Nat} {σ : oSt} (h : ob_X12_tellName n call κ x0 x1 σ = some v) : X 0 [some (va_rf x0), some (va_rf x1), none] [] σ := by
  rw [ob_X12_tellName] at h
  refine os_aload_n (r := x1) hX dX12_tellName_0 rfl rfl ?_
  obtain ⟨v1, e2, h⟩ := obn_e h
  refine ow_get (r := x1) hX dX12_tellName_1 oF_RX12_269 (ovr_e e2) ?_
  refine os_ifnull (r := v1) (tgt := 16) hX dX12_tellName_4 (by decide) (fun c3 => ?_) (fun c3 => ?_)
  · rw [if_pos c3] at h
    refine os_iconst (v := 0) hX dX12_tellName_16 (by decide) ?_
    refine os_istore_n hX dX12_tellName_17 rfl (by decide) (ozlo (i := 1) (r := x1) rfl) ?_
    dsimp only [List.set]
    exact ql_X12_tellName_18 hX hc n _ _ _ _ h
  · rw [if_neg c3] at h
    refine os_aload_n (r := x0) hX dX12_tellName_7 rfl rfl ?_
    refine os_aload_n (r := x1) hX dX12_tellName_8 rfl rfl ?_
    obtain ⟨v4, e5, h⟩ := obn_e h
    refine ow_get (r := x1) hX dX12_tellName_9 oF_RX12_269 (ovr_e e5) ?_
    obtain ⟨a6, e7, h⟩ := obn_e h
    obtain ⟨s8, e9, h⟩ := ocv_e h
    refine oc_RX12_211 (rb := x0) (a1 := va_rf v4) hX dX12_tellName_12 (Nat.le_of_ble_eq_true rfl) e7 (hc _ _ _ _ e9) ?_
    exact os_vret hX dX12_tellName_15 rfl (Option.some.inj h)
def oj_X12_tellRelation_29 (n : Nat) (call : oCl) (κ : oKv) (t0 : Option Nat) (t1 : Option Nat) (σ : oSt) : oRs :=
  obn (oob σ t0 14) fun a1 =>
  ocv (call 182 [va_rf t0, va_rf t1] σ) fun s3 =>
  some (none, s3)
def oj_X12_tellRelation_14 (n : Nat) (call : oCl) (κ : oKv) (x0 : Option Nat) (x1 : Int32) (σ : oSt) : oRs :=
  if x1 = 300 then
    oj_X12_tellRelation_29 n call κ x0 (some (κ.1 7)) σ
  else
    oj_X12_tellRelation_29 n call κ x0 (some (κ.1 8)) σ
def ob_X12_tellRelation (n : Nat) (call : oCl) (κ : oKv) (x0 : Option Nat) (x1 : Int32) (σ : oSt) : oRs :=
  if x1 = 300 then
    oj_X12_tellRelation_14 n call κ x0 x1 σ
  else
    if x1 = 301 then
      oj_X12_tellRelation_14 n call κ x0 x1 σ
    else
      obn (oob σ x0 14) fun a3 =>
      ocv (call 181 [va_rf x0, .int ((x1.toUInt32 % 65536).toInt32)] σ) fun s5 =>
      some (none, s5)
set_option maxHeartbeats 4000000 in
theorem qj_X12_tellRelation_29 {κ : oKv} {n : Nat} {call : oCl} {kc : Nat → List Value → oSt → Option Value × oSt → Prop} {v : Option Value × oSt} {X : Nat → zLv → List Value → oSt → Prop} (hX : oSem RX12 cX12_tellRelation 2 0 none κ kc v X) (hc : ∀ j av s w, call j av s = some w → kc j av s w) {t0 : Option Nat} {t1 : Option Nat} {σ : oSt} (h : oj_X12_tellRelation_29 n call κ t0 t1 σ = some v) : X 29 [none, none] [va_rf t1, va_rf t0] σ := by
  rw [oj_X12_tellRelation_29] at h
  obtain ⟨a1, e2, h⟩ := obn_e h
  obtain ⟨s3, e4, h⟩ := ocv_e h
  refine oc_RX12_211 (rb := t0) (a1 := va_rf t1) hX dX12_tellRelation_29 (Nat.le_of_ble_eq_true rfl) e2 (hc _ _ _ _ e4) ?_
  refine os_goto (tgt := 41) hX dX12_tellRelation_32 (by decide) ?_
  exact os_vret hX dX12_tellRelation_41 rfl (Option.some.inj h)
set_option maxHeartbeats 4000000 in
theorem qj_X12_tellRelation_14 {κ : oKv} {n : Nat} {call : oCl} {kc : Nat → List Value → oSt → Option Value × oSt → Prop} {v : Option Value × oSt} {X : Nat → zLv → List Value → oSt → Prop} (hX : oSem RX12 cX12_tellRelation 2 0 none κ kc v X) (hc : ∀ j av s w, call j av s = some w → kc j av s w) {x0 : Option Nat} {x1 : Int32} {σ : oSt} (h : oj_X12_tellRelation_14 n call κ x0 x1 σ = some v) : X 14 [some (va_rf x0), some (.int x1)] [] σ := by
  rw [oj_X12_tellRelation_14] at h
  refine os_aload_n (r := x0) hX dX12_tellRelation_14 rfl rfl ?_
  refine os_iload_n hX dX12_tellRelation_15 rfl rfl ?_
  refine os_sipush (v := 300) hX dX12_tellRelation_16 (by decide) ?_
  refine os_icmp_ne (tgt := 27) hX dX12_tellRelation_19 (by decide) (fun c1 => ?_) (fun c1 => ?_)
  · rw [if_neg c1] at h
    refine os_ldcS (q := (RX12, 244, ">=")) hX dX12_tellRelation_27 (show okt[8]? = some _ from rfl) rfl ?_
    refine os_weak hX (lw := [none, none]) trivial ?_
    exact qj_X12_tellRelation_29 hX hc h
  · rw [if_pos c1] at h
    refine os_ldcS (q := (RX12, 242, "<=")) hX dX12_tellRelation_22 (show okt[7]? = some _ from rfl) rfl ?_
    refine os_goto (tgt := 29) hX dX12_tellRelation_24 (by decide) ?_
    refine os_weak hX (lw := [none, none]) trivial ?_
    exact qj_X12_tellRelation_29 hX hc h
set_option maxHeartbeats 4000000 in
theorem qb_X12_tellRelation {κ : oKv} {n : Nat} {call : oCl} {kc : Nat → List Value → oSt → Option Value × oSt → Prop} {v : Option Value × oSt} {X : Nat → zLv → List Value → oSt → Prop} (hX : oSem RX12 cX12_tellRelation 2 0 none κ kc v X) (hc : ∀ j av s w, call j av s = some w → kc j av s w) {x0 : Option Nat} {x1 : Int32} {σ : oSt} (h : ob_X12_tellRelation n call κ x0 x1 σ = some v) : X 0 [some (va_rf x0), some (.int x1)] [] σ := by
  rw [ob_X12_tellRelation] at h
  refine os_iload_n hX dX12_tellRelation_0 rfl rfl ?_
  refine os_sipush (v := 300) hX dX12_tellRelation_1 (by decide) ?_
  refine os_icmp_eq (tgt := 14) hX dX12_tellRelation_4 (by decide) (fun c1 => ?_) (fun c1 => ?_)
  · rw [if_pos c1] at h
    exact qj_X12_tellRelation_14 hX hc h
  · rw [if_neg c1] at h
    refine os_iload_n hX dX12_tellRelation_7 rfl rfl ?_
    refine os_sipush (v := 301) hX dX12_tellRelation_8 (by decide) ?_
    refine os_icmp_ne (tgt := 35) hX dX12_tellRelation_11 (by decide) (fun c2 => ?_) (fun c2 => ?_)
    · rw [if_neg c2] at h
      refine os_aload_n (r := x0) hX dX12_tellRelation_35 rfl rfl ?_
      refine os_iload_n hX dX12_tellRelation_36 rfl rfl ?_
      refine os_i2c hX dX12_tellRelation_37 ?_
      obtain ⟨a3, e4, h⟩ := obn_e h
      obtain ⟨s5, e6, h⟩ := ocv_e h
      refine oc_RX12_201 (rb := x0) (a1 := .int ((x1.toUInt32 % 65536).toInt32)) hX dX12_tellRelation_38 (Nat.le_of_ble_eq_true rfl) e4 (hc _ _ _ _ e6) ?_
      exact os_vret hX dX12_tellRelation_41 rfl (Option.some.inj h)
    · rw [if_pos c2] at h
      exact qj_X12_tellRelation_14 hX hc h
def oj_X12_tellTerm_97 (n : Nat) (call : oCl) (κ : oKv) (x0 : Option Nat) (x1 : Option Nat) (σ : oSt) : oRs :=
  obn (ovl (ofd σ x1 4 14)) fun v1 =>
  if (lg_cmp v1 0) = 0 then
    some (none, σ)
  else
    obn (ovl (ofd σ x1 4 14)) fun v4 =>
    obn (oob σ x0 14) fun a6 =>
    ocv (call 183 [va_rf x0, .long v4] σ) fun s8 =>
    some (none, s8)
def oj_X12_tellTerm_71 (n : Nat) (call : oCl) (κ : oKv) (x0 : Option Nat) (x1 : Option Nat) (t0 : Option Nat) (t1 : Option Nat) (σ : oSt) : oRs :=
  obn (oob σ t0 14) fun a1 =>
  ocv (call 182 [va_rf t0, va_rf t1] σ) fun s3 =>
  obn (ovr (ofd s3 x1 4 13)) fun v6 =>
  obn (oob s3 x0 14) fun a8 =>
  ocv (call 184 [va_rf x0, va_rf v6] s3) fun s10 =>
  obn (ovl (ofd s10 x1 4 14)) fun v13 =>
  if (lg_cmp v13 0) ≤ 0 then
    oj_X12_tellTerm_97 n call κ x0 x1 s10
  else
    obn (oob s10 x0 14) fun a16 =>
    ocv (call 181 [va_rf x0, .int 43] s10) fun s18 =>
    oj_X12_tellTerm_97 n call κ x0 x1 s18
def oj_X12_tellTerm_29 (n : Nat) (call : oCl) (κ : oKv) (x0 : Option Nat) (x1 : Option Nat) (σ : oSt) : oRs :=
  obn (ovr (ofd σ x1 4 13)) fun v1 =>
  obn (ovi (ofd σ v1 6 3)) fun v3 =>
  if v3 = 200 then
    oj_X12_tellTerm_71 n call κ x0 x1 x0 (some (κ.1 9)) σ
  else
    obn (ovr (ofd σ x1 4 13)) fun v6 =>
    obn (ovi (ofd σ v6 6 3)) fun v8 =>
    if v8 = 213 then
      oj_X12_tellTerm_71 n call κ x0 x1 x0 (some (κ.1 10)) σ
    else
      oj_X12_tellTerm_71 n call κ x0 x1 x0 (some (κ.1 11)) σ
def ob_X12_tellTerm (n : Nat) (call : oCl) (κ : oKv) (x0 : Option Nat) (x1 : Option Nat) (σ : oSt) : oRs :=
  obn (ovr (ofd σ x1 4 13)) fun v1 =>
  if v1 = none then
    obn (ovl (ofd σ x1 4 14)) fun v12 =>
    obn (oob σ x0 14) fun a14 =>
    ocv (call 183 [va_rf x0, .long v12] σ) fun s16 =>
    some (none, s16)
  else
    obn (ovi (ofd σ x1 4 12)) fun v4 =>
    if 0 ≤ v4 then
      oj_X12_tellTerm_29 n call κ x0 x1 σ
    else
      obn (oob σ x0 14) fun a7 =>
      ocv (call 181 [va_rf x0, .int 45] σ) fun s9 =>
      oj_X12_tellTerm_29 n call κ x0 x1 s9
set_option maxHeartbeats 4000000 in
theorem qj_X12_tellTerm_97 {κ : oKv} {n : Nat} {call : oCl} {kc : Nat → List Value → oSt → Option Value × oSt → Prop} {v : Option Value × oSt} {X : Nat → zLv → List Value → oSt → Prop} (hX : oSem RX12 cX12_tellTerm 2 0 none κ kc v X) (hc : ∀ j av s w, call j av s = some w → kc j av s w) {x0 : Option Nat} {x1 : Option Nat} {σ : oSt} (h : oj_X12_tellTerm_97 n call κ x0 x1 σ = some v) : X 97 [some (va_rf x0), some (va_rf x1)] [] σ := by
  rw [oj_X12_tellTerm_97] at h
  refine os_aload_n (r := x1) hX dX12_tellTerm_97 rfl rfl ?_
  obtain ⟨v1, e2, h⟩ := obn_e h
  refine ow_get (r := x1) hX dX12_tellTerm_98 oF_RX12_249 (ovl_e e2) ?_
  refine os_lconst (v := 0) hX dX12_tellTerm_101 (by decide) ?_
  refine os_lcmp hX dX12_tellTerm_102 ?_
  refine os_if_eq (tgt := 114) hX dX12_tellTerm_103 (by decide) (fun c3 => ?_) (fun c3 => ?_)
  · rw [if_pos c3] at h
    exact os_vret hX dX12_tellTerm_114 rfl (Option.some.inj h)
  · rw [if_neg c3] at h
    refine os_aload_n (r := x0) hX dX12_tellTerm_106 rfl rfl ?_
    refine os_aload_n (r := x1) hX dX12_tellTerm_107 rfl rfl ?_
    obtain ⟨v4, e5, h⟩ := obn_e h
    refine ow_get (r := x1) hX dX12_tellTerm_108 oF_RX12_249 (ovl_e e5) ?_
    obtain ⟨a6, e7, h⟩ := obn_e h
    obtain ⟨s8, e9, h⟩ := ocv_e h
    refine oc_RX12_253 (rb := x0) (a1 := .long v4) hX dX12_tellTerm_111 (Nat.le_of_ble_eq_true rfl) e7 (hc _ _ _ _ e9) ?_
    exact os_vret hX dX12_tellTerm_114 rfl (Option.some.inj h)
set_option maxHeartbeats 4000000 in
theorem qj_X12_tellTerm_71 {κ : oKv} {n : Nat} {call : oCl} {kc : Nat → List Value → oSt → Option Value × oSt → Prop} {v : Option Value × oSt} {X : Nat → zLv → List Value → oSt → Prop} (hX : oSem RX12 cX12_tellTerm 2 0 none κ kc v X) (hc : ∀ j av s w, call j av s = some w → kc j av s w) {x0 : Option Nat} {x1 : Option Nat} {t0 : Option Nat} {t1 : Option Nat} {σ : oSt} (h : oj_X12_tellTerm_71 n call κ x0 x1 t0 t1 σ = some v) : X 71 [some (va_rf x0), some (va_rf x1)] [va_rf t1, va_rf t0] σ := by
  rw [oj_X12_tellTerm_71] at h
  obtain ⟨a1, e2, h⟩ := obn_e h
  obtain ⟨s3, e4, h⟩ := ocv_e h
  refine oc_RX12_211 (rb := t0) (a1 := va_rf t1) hX dX12_tellTerm_71 (Nat.le_of_ble_eq_true rfl) e2 (hc _ _ _ _ e4) ?_
  refine os_aload_n (r := x0) hX dX12_tellTerm_74 rfl rfl ?_
  refine os_aload_n (r := x1) hX dX12_tellTerm_75 rfl rfl ?_
  obtain ⟨v6, e7, h⟩ := obn_e h
  refine ow_get (r := x1) hX dX12_tellTerm_76 oF_RX12_246 (ovr_e e7) ?_
  obtain ⟨a8, e9, h⟩ := obn_e h
  obtain ⟨s10, e11, h⟩ := ocv_e h
  refine oc_RX12_197 (rb := x0) (a1 := va_rf v6) hX dX12_tellTerm_79 (Nat.le_of_ble_eq_true rfl) e9 (hc _ _ _ _ e11) ?_
  refine os_aload_n (r := x1) hX dX12_tellTerm_82 rfl rfl ?_
  obtain ⟨v13, e14, h⟩ := obn_e h
  refine ow_get (r := x1) hX dX12_tellTerm_83 oF_RX12_249 (ovl_e e14) ?_
  refine os_lconst (v := 0) hX dX12_tellTerm_86 (by decide) ?_
  refine os_lcmp hX dX12_tellTerm_87 ?_
  refine os_if_le (tgt := 97) hX dX12_tellTerm_88 (by decide) (fun c15 => ?_) (fun c15 => ?_)
  · rw [if_pos c15] at h
    exact qj_X12_tellTerm_97 hX hc h
  · rw [if_neg c15] at h
    refine os_aload_n (r := x0) hX dX12_tellTerm_91 rfl rfl ?_
    refine os_bipush (v := 43) hX dX12_tellTerm_92 (by decide) ?_
    obtain ⟨a16, e17, h⟩ := obn_e h
    obtain ⟨s18, e19, h⟩ := ocv_e h
    refine oc_RX12_201 (rb := x0) (a1 := .int 43) hX dX12_tellTerm_94 (Nat.le_of_ble_eq_true rfl) e17 (hc _ _ _ _ e19) ?_
    exact qj_X12_tellTerm_97 hX hc h
set_option maxHeartbeats 4000000 in
theorem qj_X12_tellTerm_29 {κ : oKv} {n : Nat} {call : oCl} {kc : Nat → List Value → oSt → Option Value × oSt → Prop} {v : Option Value × oSt} {X : Nat → zLv → List Value → oSt → Prop} (hX : oSem RX12 cX12_tellTerm 2 0 none κ kc v X) (hc : ∀ j av s w, call j av s = some w → kc j av s w) {x0 : Option Nat} {x1 : Option Nat} {σ : oSt} (h : oj_X12_tellTerm_29 n call κ x0 x1 σ = some v) : X 29 [some (va_rf x0), some (va_rf x1)] [] σ := by
  rw [oj_X12_tellTerm_29] at h
  refine os_aload_n (r := x0) hX dX12_tellTerm_29 rfl rfl ?_
  refine os_aload_n (r := x1) hX dX12_tellTerm_30 rfl rfl ?_
  obtain ⟨v1, e2, h⟩ := obn_e h
  refine ow_get (r := x1) hX dX12_tellTerm_31 oF_RX12_246 (ovr_e e2) ?_
  obtain ⟨v3, e4, h⟩ := obn_e h
  refine ow_get (r := v1) hX dX12_tellTerm_34 oF_RX12_260 (ovi_e e4) ?_
  refine os_sipush (v := 200) hX dX12_tellTerm_37 (by decide) ?_
  refine os_icmp_ne (tgt := 49) hX dX12_tellTerm_40 (by decide) (fun c5 => ?_) (fun c5 => ?_)
  · rw [if_neg c5] at h
    refine os_aload_n (r := x1) hX dX12_tellTerm_49 rfl rfl ?_
    obtain ⟨v6, e7, h⟩ := obn_e h
    refine ow_get (r := x1) hX dX12_tellTerm_50 oF_RX12_246 (ovr_e e7) ?_
    obtain ⟨v8, e9, h⟩ := obn_e h
    refine ow_get (r := v6) hX dX12_tellTerm_53 oF_RX12_260 (ovi_e e9) ?_
    refine os_sipush (v := 213) hX dX12_tellTerm_56 (by decide) ?_
    refine os_icmp_ne (tgt := 68) hX dX12_tellTerm_59 (by decide) (fun c10 => ?_) (fun c10 => ?_)
    · rw [if_neg c10] at h
      refine os_ldcwS (q := (RX12, 267, "")) hX dX12_tellTerm_68 (show okt[11]? = some _ from rfl) rfl ?_
      exact qj_X12_tellTerm_71 hX hc h
    · rw [if_pos c10] at h
      refine os_ldcwS (q := (RX12, 265, "size ")) hX dX12_tellTerm_62 (show okt[10]? = some _ from rfl) rfl ?_
      refine os_goto (tgt := 71) hX dX12_tellTerm_65 (by decide) ?_
      exact qj_X12_tellTerm_71 hX hc h
  · rw [if_pos c5] at h
    refine os_ldcwS (q := (RX12, 263, "len ")) hX dX12_tellTerm_43 (show okt[9]? = some _ from rfl) rfl ?_
    refine os_goto (tgt := 71) hX dX12_tellTerm_46 (by decide) ?_
    exact qj_X12_tellTerm_71 hX hc h
set_option maxHeartbeats 4000000 in
theorem qb_X12_tellTerm {κ : oKv} {n : Nat} {call : oCl} {kc : Nat → List Value → oSt → Option Value × oSt → Prop} {v : Option Value × oSt} {X : Nat → zLv → List Value → oSt → Prop} (hX : oSem RX12 cX12_tellTerm 2 0 none κ kc v X) (hc : ∀ j av s w, call j av s = some w → kc j av s w) {x0 : Option Nat} {x1 : Option Nat} {σ : oSt} (h : ob_X12_tellTerm n call κ x0 x1 σ = some v) : X 0 [some (va_rf x0), some (va_rf x1)] [] σ := by
  rw [ob_X12_tellTerm] at h
  refine os_aload_n (r := x1) hX dX12_tellTerm_0 rfl rfl ?_
  obtain ⟨v1, e2, h⟩ := obn_e h
  refine ow_get (r := x1) hX dX12_tellTerm_1 oF_RX12_246 (ovr_e e2) ?_
  refine os_ifnonnull (r := v1) (tgt := 16) hX dX12_tellTerm_4 (by decide) (fun c3 => ?_) (fun c3 => ?_)
  · rw [if_neg c3] at h
    refine os_aload_n (r := x1) hX dX12_tellTerm_16 rfl rfl ?_
    obtain ⟨v4, e5, h⟩ := obn_e h
    refine ow_get (r := x1) hX dX12_tellTerm_17 oF_RX12_257 (ovi_e e5) ?_
    refine os_if_ge (tgt := 29) hX dX12_tellTerm_20 (by decide) (fun c6 => ?_) (fun c6 => ?_)
    · rw [if_pos c6] at h
      exact qj_X12_tellTerm_29 hX hc h
    · rw [if_neg c6] at h
      refine os_aload_n (r := x0) hX dX12_tellTerm_23 rfl rfl ?_
      refine os_bipush (v := 45) hX dX12_tellTerm_24 (by decide) ?_
      obtain ⟨a7, e8, h⟩ := obn_e h
      obtain ⟨s9, e10, h⟩ := ocv_e h
      refine oc_RX12_201 (rb := x0) (a1 := .int 45) hX dX12_tellTerm_26 (Nat.le_of_ble_eq_true rfl) e8 (hc _ _ _ _ e10) ?_
      exact qj_X12_tellTerm_29 hX hc h
  · rw [if_pos c3] at h
    refine os_aload_n (r := x0) hX dX12_tellTerm_7 rfl rfl ?_
    refine os_aload_n (r := x1) hX dX12_tellTerm_8 rfl rfl ?_
    obtain ⟨v12, e13, h⟩ := obn_e h
    refine ow_get (r := x1) hX dX12_tellTerm_9 oF_RX12_249 (ovl_e e13) ?_
    obtain ⟨a14, e15, h⟩ := obn_e h
    obtain ⟨s16, e17, h⟩ := ocv_e h
    refine oc_RX12_253 (rb := x0) (a1 := .long v12) hX dX12_tellTerm_12 (Nat.le_of_ble_eq_true rfl) e15 (hc _ _ _ _ e17) ?_
    exact os_vret hX dX12_tellTerm_15 rfl (Option.some.inj h)
def oj_X12_tellLeaf_68 (n : Nat) (call : oCl) (κ : oKv) (x0 : Option Nat) (x1 : Option Nat) (σ : oSt) : oRs :=
  obn (ovi (ofd σ x1 4 0)) fun v1 =>
  if v1 = 202 then
    obn (oob σ x0 14) fun a25 =>
    ocv (call 182 [va_rf x0, va_rf (some (κ.1 12))] σ) fun s27 =>
    some (none, s27)
  else
    obn (ovi (ofd σ x1 4 0)) fun v4 =>
    if v4 = 200 then
      obn (oob σ x0 14) fun a20 =>
      ocv (call 182 [va_rf x0, va_rf (some (κ.1 13))] σ) fun s22 =>
      some (none, s22)
    else
      obn (ovi (ofd σ x1 4 0)) fun v7 =>
      if v7 = 213 then
        obn (oob σ x0 14) fun a15 =>
        ocv (call 182 [va_rf x0, va_rf (some (κ.1 14))] σ) fun s17 =>
        some (none, s17)
      else
        obn (oob σ x0 14) fun a10 =>
        ocv (call 182 [va_rf x0, va_rf (some (κ.1 15))] σ) fun s12 =>
        some (none, s12)
def oj_X12_tellLeaf_30 (n : Nat) (call : oCl) (κ : oKv) (k2 : Option Nat → Option Nat → Int32 → oSt → oRs) (x0 : Option Nat) (x1 : Option Nat) (x2 : Int32) (t0 : Option Nat) (t1 : Option Nat) (σ : oSt) : oRs :=
  obn (oob σ t0 14) fun a1 =>
  ocv (call 182 [va_rf t0, va_rf t1] σ) fun s3 =>
  obn (ovi (ofd s3 x1 4 11)) fun v6 =>
  obn (oob s3 x0 14) fun a8 =>
  ocv (call 185 [va_rf x0, .int v6] s3) fun s10 =>
  obn (oob s10 x0 14) fun a13 =>
  ocv (call 186 [va_rf x0, va_rf x1] s10) fun s15 =>
  k2 x0 x1 (x2 + 1) s15
def ol_X12_tellLeaf_2 (n : Nat) (call : oCl) (κ : oKv) : Nat → Option Nat → Option Nat → Int32 → oSt → oRs
  | 0, _, _, _, _ => none
  | f + 1, x0, x1, x2, σ =>
    obn (ovr (ofd σ x1 4 1)) fun v1 =>
    obn (ovi (ofd σ v1 4 7)) fun v3 =>
    if v3 ≤ x2 then
      obn (ovr (ofd σ x1 4 1)) fun v6 =>
      obn (ovi (ofd σ v6 4 7)) fun v8 =>
      if v8 ≤ 0 then
        oj_X12_tellLeaf_68 n call κ x0 x1 σ
      else
        obn (oob σ x0 14) fun a11 =>
        ocv (call 181 [va_rf x0, .int 125] σ) fun s13 =>
        oj_X12_tellLeaf_68 n call κ x0 x1 s13
    else
      obn (oob σ x1 4) fun a16 =>
      ocv (call 46 [va_rf x1, .int x2] σ) fun s18 =>
      if x2 = 0 then
        oj_X12_tellLeaf_30 n call κ (ol_X12_tellLeaf_2 n call κ f) x0 x1 x2 x0 (some (κ.1 5)) s18
      else
        oj_X12_tellLeaf_30 n call κ (ol_X12_tellLeaf_2 n call κ f) x0 x1 x2 x0 (some (κ.1 6)) s18
def ob_X12_tellLeaf (n : Nat) (call : oCl) (κ : oKv) (x0 : Option Nat) (x1 : Option Nat) (σ : oSt) : oRs :=
  ol_X12_tellLeaf_2 n call κ n x0 x1 0 σ
set_option maxHeartbeats 4000000 in
theorem qj_X12_tellLeaf_68 {κ : oKv} {n : Nat} {call : oCl} {kc : Nat → List Value → oSt → Option Value × oSt → Prop} {v : Option Value × oSt} {X : Nat → zLv → List Value → oSt → Prop} (hX : oSem RX12 cX12_tellLeaf 3 0 none κ kc v X) (hc : ∀ j av s w, call j av s = some w → kc j av s w) {x0 : Option Nat} {x1 : Option Nat} {σ : oSt} (h : oj_X12_tellLeaf_68 n call κ x0 x1 σ = some v) : X 68 [some (va_rf x0), some (va_rf x1), none] [] σ := by
  rw [oj_X12_tellLeaf_68] at h
  refine os_aload_n (r := x0) hX dX12_tellLeaf_68 rfl rfl ?_
  refine os_aload_n (r := x1) hX dX12_tellLeaf_69 rfl rfl ?_
  obtain ⟨v1, e2, h⟩ := obn_e h
  refine ow_get (r := x1) hX dX12_tellLeaf_70 oF_RX12_181 (ovi_e e2) ?_
  refine os_sipush (v := 202) hX dX12_tellLeaf_73 (by decide) ?_
  refine os_icmp_ne (tgt := 84) hX dX12_tellLeaf_76 (by decide) (fun c3 => ?_) (fun c3 => ?_)
  · rw [if_neg c3] at h
    refine os_aload_n (r := x1) hX dX12_tellLeaf_84 rfl rfl ?_
    obtain ⟨v4, e5, h⟩ := obn_e h
    refine ow_get (r := x1) hX dX12_tellLeaf_85 oF_RX12_181 (ovi_e e5) ?_
    refine os_sipush (v := 200) hX dX12_tellLeaf_88 (by decide) ?_
    refine os_icmp_ne (tgt := 99) hX dX12_tellLeaf_91 (by decide) (fun c6 => ?_) (fun c6 => ?_)
    · rw [if_neg c6] at h
      refine os_aload_n (r := x1) hX dX12_tellLeaf_99 rfl rfl ?_
      obtain ⟨v7, e8, h⟩ := obn_e h
      refine ow_get (r := x1) hX dX12_tellLeaf_100 oF_RX12_181 (ovi_e e8) ?_
      refine os_sipush (v := 213) hX dX12_tellLeaf_103 (by decide) ?_
      refine os_icmp_ne (tgt := 114) hX dX12_tellLeaf_106 (by decide) (fun c9 => ?_) (fun c9 => ?_)
      · rw [if_neg c9] at h
        refine os_ldcS (q := (RX12, 240, "int")) hX dX12_tellLeaf_114 (show okt[15]? = some _ from rfl) rfl ?_
        obtain ⟨a10, e11, h⟩ := obn_e h
        obtain ⟨s12, e13, h⟩ := ocv_e h
        refine oc_RX12_211 (rb := x0) (a1 := va_rf (some (κ.1 15))) hX dX12_tellLeaf_116 (Nat.le_of_ble_eq_true rfl) e11 (hc _ _ _ _ e13) ?_
        exact os_vret hX dX12_tellLeaf_119 rfl (Option.some.inj h)
      · rw [if_pos c9] at h
        refine os_ldcS (q := (RX12, 238, "list")) hX dX12_tellLeaf_109 (show okt[14]? = some _ from rfl) rfl ?_
        refine os_goto (tgt := 116) hX dX12_tellLeaf_111 (by decide) ?_
        obtain ⟨a15, e16, h⟩ := obn_e h
        obtain ⟨s17, e18, h⟩ := ocv_e h
        refine oc_RX12_211 (rb := x0) (a1 := va_rf (some (κ.1 14))) hX dX12_tellLeaf_116 (Nat.le_of_ble_eq_true rfl) e16 (hc _ _ _ _ e18) ?_
        exact os_vret hX dX12_tellLeaf_119 rfl (Option.some.inj h)
    · rw [if_pos c6] at h
      refine os_ldcS (q := (RX12, 236, "array")) hX dX12_tellLeaf_94 (show okt[13]? = some _ from rfl) rfl ?_
      refine os_goto (tgt := 116) hX dX12_tellLeaf_96 (by decide) ?_
      obtain ⟨a20, e21, h⟩ := obn_e h
      obtain ⟨s22, e23, h⟩ := ocv_e h
      refine oc_RX12_211 (rb := x0) (a1 := va_rf (some (κ.1 13))) hX dX12_tellLeaf_116 (Nat.le_of_ble_eq_true rfl) e21 (hc _ _ _ _ e23) ?_
      exact os_vret hX dX12_tellLeaf_119 rfl (Option.some.inj h)
  · rw [if_pos c3] at h
    refine os_ldcS (q := (RX12, 234, "bool")) hX dX12_tellLeaf_79 (show okt[12]? = some _ from rfl) rfl ?_
    refine os_goto (tgt := 116) hX dX12_tellLeaf_81 (by decide) ?_
    obtain ⟨a25, e26, h⟩ := obn_e h
    obtain ⟨s27, e28, h⟩ := ocv_e h
    refine oc_RX12_211 (rb := x0) (a1 := va_rf (some (κ.1 12))) hX dX12_tellLeaf_116 (Nat.le_of_ble_eq_true rfl) e26 (hc _ _ _ _ e28) ?_
    exact os_vret hX dX12_tellLeaf_119 rfl (Option.some.inj h)
set_option maxHeartbeats 4000000 in
theorem qj_X12_tellLeaf_30 {κ : oKv} {n : Nat} {call : oCl} {kc : Nat → List Value → oSt → Option Value × oSt → Prop} {v : Option Value × oSt} {X : Nat → zLv → List Value → oSt → Prop} (hX : oSem RX12 cX12_tellLeaf 3 0 none κ kc v X) (hc : ∀ j av s w, call j av s = some w → kc j av s w) {k2 : Option Nat → Option Nat → Int32 → oSt → oRs} (hk2 : ∀ (x0 : Option Nat) (x1 : Option Nat) (x2 : Int32) (s : oSt), k2 x0 x1 x2 s = some v → X 2 [some (va_rf x0), some (va_rf x1), some (.int x2)] [] s) {x0 : Option Nat} {x1 : Option Nat} {x2 : Int32} {t0 : Option Nat} {t1 : Option Nat} {σ : oSt} (h : oj_X12_tellLeaf_30 n call κ k2 x0 x1 x2 t0 t1 σ = some v) : X 30 [some (va_rf x0), some (va_rf x1), some (.int x2)] [va_rf t1, va_rf t0] σ := by
  rw [oj_X12_tellLeaf_30] at h
  obtain ⟨a1, e2, h⟩ := obn_e h
  obtain ⟨s3, e4, h⟩ := ocv_e h
  refine oc_RX12_211 (rb := t0) (a1 := va_rf t1) hX dX12_tellLeaf_30 (Nat.le_of_ble_eq_true rfl) e2 (hc _ _ _ _ e4) ?_
  refine os_aload_n (r := x0) hX dX12_tellLeaf_33 rfl rfl ?_
  refine os_aload_n (r := x1) hX dX12_tellLeaf_34 rfl rfl ?_
  obtain ⟨v6, e7, h⟩ := obn_e h
  refine ow_get (r := x1) hX dX12_tellLeaf_35 oF_RX12_225 (ovi_e e7) ?_
  obtain ⟨a8, e9, h⟩ := obn_e h
  obtain ⟨s10, e11, h⟩ := ocv_e h
  refine oc_RX12_228 (rb := x0) (a1 := .int v6) hX dX12_tellLeaf_38 (Nat.le_of_ble_eq_true rfl) e9 (hc _ _ _ _ e11) ?_
  refine os_aload_n (r := x0) hX dX12_tellLeaf_41 rfl rfl ?_
  refine os_aload_n (r := x1) hX dX12_tellLeaf_42 rfl rfl ?_
  obtain ⟨a13, e14, h⟩ := obn_e h
  obtain ⟨s15, e16, h⟩ := ocv_e h
  refine oc_RX12_231 (rb := x0) (a1 := va_rf x1) hX dX12_tellLeaf_43 (Nat.le_of_ble_eq_true rfl) e14 (hc _ _ _ _ e16) ?_
  refine os_iinc (v := x2 + 1) hX dX12_tellLeaf_46 rfl rfl (by decide) (ozlo (i := 1) (r := x1) rfl) ?_
  dsimp only [List.set]
  refine os_goto (tgt := 2) hX dX12_tellLeaf_49 (by decide) ?_
  exact hk2 _ _ _ _ h
set_option maxHeartbeats 4000000 in
theorem ql_X12_tellLeaf_2 {κ : oKv} {n : Nat} {call : oCl} {kc : Nat → List Value → oSt → Option Value × oSt → Prop} {v : Option Value × oSt} {X : Nat → zLv → List Value → oSt → Prop} (hX : oSem RX12 cX12_tellLeaf 3 0 none κ kc v X) (hc : ∀ j av s w, call j av s = some w → kc j av s w) : ∀ (f : Nat) (x0 : Option Nat) (x1 : Option Nat) (x2 : Int32) (σ : oSt), ol_X12_tellLeaf_2 n call κ f x0 x1 x2 σ = some v → X 2 [some (va_rf x0), some (va_rf x1), some (.int x2)] [] σ := by
  intro f
  induction f with
  | zero => intro x0 x1 x2 σ h; cases h
  | succ f hk2 =>
    intro x0 x1 x2 σ h
    rw [ol_X12_tellLeaf_2] at h
    refine os_iload_n hX dX12_tellLeaf_2 rfl rfl ?_
    refine os_aload_n (r := x1) hX dX12_tellLeaf_3 rfl rfl ?_
    obtain ⟨v1, e2, h⟩ := obn_e h
    refine ow_get (r := x1) hX dX12_tellLeaf_4 oF_RX12_190 (ovr_e e2) ?_
    obtain ⟨v3, e4, h⟩ := obn_e h
    refine ow_get (r := v1) hX dX12_tellLeaf_7 oF_RX12_217 (ovi_e e4) ?_
    refine os_icmp_ge (tgt := 52) hX dX12_tellLeaf_10 (by decide) (fun c5 => ?_) (fun c5 => ?_)
    · rw [if_pos c5] at h
      refine os_aload_n (r := x1) hX dX12_tellLeaf_52 rfl rfl ?_
      obtain ⟨v6, e7, h⟩ := obn_e h
      refine ow_get (r := x1) hX dX12_tellLeaf_53 oF_RX12_190 (ovr_e e7) ?_
      obtain ⟨v8, e9, h⟩ := obn_e h
      refine ow_get (r := v6) hX dX12_tellLeaf_56 oF_RX12_217 (ovi_e e9) ?_
      refine os_if_le (tgt := 68) hX dX12_tellLeaf_59 (by decide) (fun c10 => ?_) (fun c10 => ?_)
      · rw [if_pos c10] at h
        refine os_weak hX (lw := [some (va_rf x0), some (va_rf x1), none]) ⟨rfl, rfl, trivial⟩ ?_
        exact qj_X12_tellLeaf_68 hX hc h
      · rw [if_neg c10] at h
        refine os_aload_n (r := x0) hX dX12_tellLeaf_62 rfl rfl ?_
        refine os_bipush (v := 125) hX dX12_tellLeaf_63 (by decide) ?_
        obtain ⟨a11, e12, h⟩ := obn_e h
        obtain ⟨s13, e14, h⟩ := ocv_e h
        refine oc_RX12_201 (rb := x0) (a1 := .int 125) hX dX12_tellLeaf_65 (Nat.le_of_ble_eq_true rfl) e12 (hc _ _ _ _ e14) ?_
        refine os_weak hX (lw := [some (va_rf x0), some (va_rf x1), none]) ⟨rfl, rfl, trivial⟩ ?_
        exact qj_X12_tellLeaf_68 hX hc h
    · rw [if_neg c5] at h
      refine os_aload_n (r := x1) hX dX12_tellLeaf_13 rfl rfl ?_
      refine os_iload_n hX dX12_tellLeaf_14 rfl rfl ?_
      obtain ⟨a16, e17, h⟩ := obn_e h
      obtain ⟨s18, e19, h⟩ := ocv_e h
      refine oc_RX12_218 (rb := x1) (a1 := .int x2) hX dX12_tellLeaf_15 (Nat.le_of_ble_eq_true rfl) e17 (hc _ _ _ _ e19) ?_
      refine os_aload_n (r := x0) hX dX12_tellLeaf_18 rfl rfl ?_
      refine os_iload_n hX dX12_tellLeaf_19 rfl rfl ?_
      refine os_if_ne (tgt := 28) hX dX12_tellLeaf_20 (by decide) (fun c21 => ?_) (fun c21 => ?_)
      · rw [if_neg c21] at h
        refine os_ldcS (q := (RX12, 223, "&v")) hX dX12_tellLeaf_28 (show okt[6]? = some _ from rfl) rfl ?_
        exact qj_X12_tellLeaf_30 hX hc hk2 h
      · rw [if_pos c21] at h
        refine os_ldcS (q := (RX12, 221, "{v")) hX dX12_tellLeaf_23 (show okt[5]? = some _ from rfl) rfl ?_
        refine os_goto (tgt := 30) hX dX12_tellLeaf_25 (by decide) ?_
        exact qj_X12_tellLeaf_30 hX hc hk2 h
set_option maxHeartbeats 4000000 in
theorem qb_X12_tellLeaf {κ : oKv} {n : Nat} {call : oCl} {kc : Nat → List Value → oSt → Option Value × oSt → Prop} {v : Option Value × oSt} {X : Nat → zLv → List Value → oSt → Prop} (hX : oSem RX12 cX12_tellLeaf 3 0 none κ kc v X) (hc : ∀ j av s w, call j av s = some w → kc j av s w) {x0 : Option Nat} {x1 : Option Nat} {σ : oSt} (h : ob_X12_tellLeaf n call κ x0 x1 σ = some v) : X 0 [some (va_rf x0), some (va_rf x1), none] [] σ := by
  rw [ob_X12_tellLeaf] at h
  refine os_iconst (v := 0) hX dX12_tellLeaf_0 (by decide) ?_
  refine os_istore_n hX dX12_tellLeaf_1 rfl (by decide) (ozlo (i := 1) (r := x1) rfl) ?_
  dsimp only [List.set]
  exact ql_X12_tellLeaf_2 hX hc n _ _ _ _ h
def oj_X12_tell_114 (n : Nat) (call : oCl) (κ : oKv) (x0 : Option Nat) (x3 : Option Nat) (σ : oSt) : oRs :=
  if x3 = none then
    some (none, σ)
  else
    obn (oob σ x0 14) fun a2 =>
    ocv (call 187 [va_rf x0, va_rf x3] σ) fun s4 =>
    some (none, s4)
def oj_X12_tell_96 (n : Nat) (call : oCl) (κ : oKv) (k5 : Option Nat → Int32 → Option Nat → Int32 → oSt → oRs) (x0 : Option Nat) (x2 : Int32) (x3 : Option Nat) (x4 : Int32) (σ : oSt) : oRs :=
  obn (oob σ x0 14) fun a1 =>
  ocv (call 182 [va_rf x0, va_rf (some (κ.1 16))] σ) fun s3 =>
  obn (oob s3 x3 4) fun a6 =>
  orn (call 4 [va_rf x3, va_rf none] s3) fun r10 s8 =>
  k5 x0 x2 r10 (x4 + 1) s8
def oj_X12_tell_90 (n : Nat) (call : oCl) (κ : oKv) (k5 : Option Nat → Int32 → Option Nat → Int32 → oSt → oRs) (x0 : Option Nat) (x2 : Int32) (x3 : Option Nat) (x4 : Int32) (x5 : Option Nat) (σ : oSt) : oRs :=
  obn (oob σ x0 14) fun a1 =>
  ocv (call 187 [va_rf x0, va_rf x5] σ) fun s3 =>
  oj_X12_tell_96 n call κ k5 x0 x2 x3 x4 s3
def ol_X12_tell_5 (n : Nat) (call : oCl) (κ : oKv) : Nat → Option Nat → Int32 → Option Nat → Int32 → oSt → oRs
  | 0, _, _, _, _, _ => none
  | f + 1, x0, x2, x3, x4, σ =>
    if 60 < x4 then
      oj_X12_tell_114 n call κ x0 x3 σ
    else
      if x3 = none then
        oj_X12_tell_114 n call κ x0 x3 σ
      else
        obn (ovi (ofd σ x3 4 0)) fun v3 =>
        if v3 = 206 then
          obn (oob σ x3 4) fun a6 =>
          orn (call 5 [va_rf x3] σ) fun r10 s8 =>
          obn (ovr (ofd s8 x3 4 1)) fun v11 =>
          obn (ovr (ofd s8 v11 4 2)) fun v13 =>
          obn (oob s8 x0 14) fun a15 =>
          ocv (call 184 [va_rf x0, va_rf v13] s8) fun s17 =>
          obn (oob s17 x0 14) fun a20 =>
          ocv (call 181 [va_rf x0, .int 58] s17) fun s22 =>
          obn (ovi (ofd s22 r10 4 0)) fun v25 =>
          if v25 = 206 then
            if 60 < x2 then
              oj_X12_tell_90 n call κ (ol_X12_tell_5 n call κ f) x0 x2 x3 x4 r10 s22
            else
              obn (oob s22 x0 14) fun a29 =>
              ocv (call 181 [va_rf x0, .int 40] s22) fun s31 =>
              obn (oob s31 x0 14) fun a34 =>
              ocv (call 188 [va_rf x0, va_rf r10, .int (x2 + 1)] s31) fun s36 =>
              obn (oob s36 x0 14) fun a39 =>
              ocv (call 181 [va_rf x0, .int 41] s36) fun s41 =>
              oj_X12_tell_96 n call κ (ol_X12_tell_5 n call κ f) x0 x2 x3 x4 s41
          else
            oj_X12_tell_90 n call κ (ol_X12_tell_5 n call κ f) x0 x2 x3 x4 r10 s22
        else
          oj_X12_tell_114 n call κ x0 x3 σ
def ob_X12_tell (n : Nat) (call : oCl) (κ : oKv) (x0 : Option Nat) (x1 : Option Nat) (x2 : Int32) (σ : oSt) : oRs :=
  ol_X12_tell_5 n call κ n x0 x2 x1 0 σ
set_option maxHeartbeats 4000000 in
theorem qj_X12_tell_114 {κ : oKv} {n : Nat} {call : oCl} {kc : Nat → List Value → oSt → Option Value × oSt → Prop} {v : Option Value × oSt} {X : Nat → zLv → List Value → oSt → Prop} (hX : oSem RX12 cX12_tell 6 0 none κ kc v X) (hc : ∀ j av s w, call j av s = some w → kc j av s w) {x0 : Option Nat} {x3 : Option Nat} {σ : oSt} (h : oj_X12_tell_114 n call κ x0 x3 σ = some v) : X 114 [some (va_rf x0), none, none, some (va_rf x3), none, none] [] σ := by
  rw [oj_X12_tell_114] at h
  refine os_aload_n (r := x3) hX dX12_tell_114 rfl rfl ?_
  refine os_ifnull (r := x3) (tgt := 123) hX dX12_tell_115 (by decide) (fun c1 => ?_) (fun c1 => ?_)
  · rw [if_pos c1] at h
    exact os_vret hX dX12_tell_123 rfl (Option.some.inj h)
  · rw [if_neg c1] at h
    refine os_aload_n (r := x0) hX dX12_tell_118 rfl rfl ?_
    refine os_aload_n (r := x3) hX dX12_tell_119 rfl rfl ?_
    obtain ⟨a2, e3, h⟩ := obn_e h
    obtain ⟨s4, e5, h⟩ := ocv_e h
    refine oc_RX12_205 (rb := x0) (a1 := va_rf x3) hX dX12_tell_120 (Nat.le_of_ble_eq_true rfl) e3 (hc _ _ _ _ e5) ?_
    exact os_vret hX dX12_tell_123 rfl (Option.some.inj h)
set_option maxHeartbeats 4000000 in
theorem qj_X12_tell_96 {κ : oKv} {n : Nat} {call : oCl} {kc : Nat → List Value → oSt → Option Value × oSt → Prop} {v : Option Value × oSt} {X : Nat → zLv → List Value → oSt → Prop} (hX : oSem RX12 cX12_tell 6 0 none κ kc v X) (hc : ∀ j av s w, call j av s = some w → kc j av s w) {k5 : Option Nat → Int32 → Option Nat → Int32 → oSt → oRs} (hk5 : ∀ (x0 : Option Nat) (x2 : Int32) (x3 : Option Nat) (x4 : Int32) (s : oSt), k5 x0 x2 x3 x4 s = some v → X 5 [some (va_rf x0), none, some (.int x2), some (va_rf x3), some (.int x4), none] [] s) {x0 : Option Nat} {x2 : Int32} {x3 : Option Nat} {x4 : Int32} {σ : oSt} (h : oj_X12_tell_96 n call κ k5 x0 x2 x3 x4 σ = some v) : X 96 [some (va_rf x0), none, some (.int x2), some (va_rf x3), some (.int x4), none] [] σ := by
  rw [oj_X12_tell_96] at h
  refine os_aload_n (r := x0) hX dX12_tell_96 rfl rfl ?_
  refine os_ldcS (q := (RX12, 209, "->")) hX dX12_tell_97 (show okt[16]? = some _ from rfl) rfl ?_
  obtain ⟨a1, e2, h⟩ := obn_e h
  obtain ⟨s3, e4, h⟩ := ocv_e h
  refine oc_RX12_211 (rb := x0) (a1 := va_rf (some (κ.1 16))) hX dX12_tell_99 (Nat.le_of_ble_eq_true rfl) e2 (hc _ _ _ _ e4) ?_
  refine os_aload_n (r := x3) hX dX12_tell_102 rfl rfl ?_
  refine os_null hX dX12_tell_103 ?_
  obtain ⟨a6, e7, h⟩ := obn_e h
  obtain ⟨r10, s8, e9, h⟩ := orn_e h
  refine oc_RX12_213 (rb := x3) (a1 := va_rf none) hX dX12_tell_104 (Nat.le_of_ble_eq_true rfl) e7 (hc _ _ _ _ e9) ?_
  refine os_astore_n (r := r10) hX dX12_tell_107 rfl (by decide) rfl ?_
  dsimp only [List.set]
  refine os_iinc (v := x4 + 1) hX dX12_tell_108 rfl rfl (by decide) (ozlo (i := 3) (r := r10) rfl) ?_
  dsimp only [List.set]
  refine os_goto (tgt := 5) hX dX12_tell_111 (by decide) ?_
  exact hk5 _ _ _ _ _ h
set_option maxHeartbeats 4000000 in
theorem qj_X12_tell_90 {κ : oKv} {n : Nat} {call : oCl} {kc : Nat → List Value → oSt → Option Value × oSt → Prop} {v : Option Value × oSt} {X : Nat → zLv → List Value → oSt → Prop} (hX : oSem RX12 cX12_tell 6 0 none κ kc v X) (hc : ∀ j av s w, call j av s = some w → kc j av s w) {k5 : Option Nat → Int32 → Option Nat → Int32 → oSt → oRs} (hk5 : ∀ (x0 : Option Nat) (x2 : Int32) (x3 : Option Nat) (x4 : Int32) (s : oSt), k5 x0 x2 x3 x4 s = some v → X 5 [some (va_rf x0), none, some (.int x2), some (va_rf x3), some (.int x4), none] [] s) {x0 : Option Nat} {x2 : Int32} {x3 : Option Nat} {x4 : Int32} {x5 : Option Nat} {σ : oSt} (h : oj_X12_tell_90 n call κ k5 x0 x2 x3 x4 x5 σ = some v) : X 90 [some (va_rf x0), none, some (.int x2), some (va_rf x3), some (.int x4), some (va_rf x5)] [] σ := by
  rw [oj_X12_tell_90] at h
  refine os_aload_n (r := x0) hX dX12_tell_90 rfl rfl ?_
  refine os_aload (r := x5) hX dX12_tell_91 rfl ?_
  obtain ⟨a1, e2, h⟩ := obn_e h
  obtain ⟨s3, e4, h⟩ := ocv_e h
  refine oc_RX12_205 (rb := x0) (a1 := va_rf x5) hX dX12_tell_93 (Nat.le_of_ble_eq_true rfl) e2 (hc _ _ _ _ e4) ?_
  refine os_weak hX (lw := [some (va_rf x0), none, some (.int x2), some (va_rf x3), some (.int x4), none]) ⟨rfl, rfl, rfl, rfl, trivial⟩ ?_
  exact qj_X12_tell_96 hX hc hk5 h
set_option maxHeartbeats 4000000 in
theorem ql_X12_tell_5 {κ : oKv} {n : Nat} {call : oCl} {kc : Nat → List Value → oSt → Option Value × oSt → Prop} {v : Option Value × oSt} {X : Nat → zLv → List Value → oSt → Prop} (hX : oSem RX12 cX12_tell 6 0 none κ kc v X) (hc : ∀ j av s w, call j av s = some w → kc j av s w) : ∀ (f : Nat) (x0 : Option Nat) (x2 : Int32) (x3 : Option Nat) (x4 : Int32) (σ : oSt), ol_X12_tell_5 n call κ f x0 x2 x3 x4 σ = some v → X 5 [some (va_rf x0), none, some (.int x2), some (va_rf x3), some (.int x4), none] [] σ := by
  intro f
  induction f with
  | zero => intro x0 x2 x3 x4 σ h; cases h
  | succ f hk5 =>
    intro x0 x2 x3 x4 σ h
    rw [ol_X12_tell_5] at h
    refine os_iload hX dX12_tell_5 rfl ?_
    refine os_bipush (v := 60) hX dX12_tell_7 (by decide) ?_
    refine os_icmp_gt (tgt := 114) hX dX12_tell_9 (by decide) (fun c1 => ?_) (fun c1 => ?_)
    · rw [if_pos c1] at h
      refine os_weak hX (lw := [some (va_rf x0), none, none, some (va_rf x3), none, none]) ⟨rfl, rfl, trivial⟩ ?_
      exact qj_X12_tell_114 hX hc h
    · rw [if_neg c1] at h
      refine os_aload_n (r := x3) hX dX12_tell_12 rfl rfl ?_
      refine os_ifnull (r := x3) (tgt := 114) hX dX12_tell_13 (by decide) (fun c2 => ?_) (fun c2 => ?_)
      · rw [if_pos c2] at h
        refine os_weak hX (lw := [some (va_rf x0), none, none, some (va_rf x3), none, none]) ⟨rfl, rfl, trivial⟩ ?_
        exact qj_X12_tell_114 hX hc h
      · rw [if_neg c2] at h
        refine os_aload_n (r := x3) hX dX12_tell_16 rfl rfl ?_
        obtain ⟨v3, e4, h⟩ := obn_e h
        refine ow_get (r := x3) hX dX12_tell_17 oF_RX12_181 (ovi_e e4) ?_
        refine os_sipush (v := 206) hX dX12_tell_20 (by decide) ?_
        refine os_icmp_ne (tgt := 114) hX dX12_tell_23 (by decide) (fun c5 => ?_) (fun c5 => ?_)
        · rw [if_neg c5] at h
          refine os_weak hX (lw := [some (va_rf x0), none, none, some (va_rf x3), none, none]) ⟨rfl, rfl, trivial⟩ ?_
          exact qj_X12_tell_114 hX hc h
        · rw [if_pos c5] at h
          refine os_aload_n (r := x3) hX dX12_tell_26 rfl rfl ?_
          obtain ⟨a6, e7, h⟩ := obn_e h
          obtain ⟨r10, s8, e9, h⟩ := orn_e h
          refine oc_RX12_186 (rb := x3)  hX dX12_tell_27 (Nat.le_of_ble_eq_true rfl) e7 (hc _ _ _ _ e9) ?_
          refine os_astore (r := r10) hX dX12_tell_30 (by decide) rfl ?_
          dsimp only [List.set]
          refine os_aload_n (r := x0) hX dX12_tell_32 rfl rfl ?_
          refine os_aload_n (r := x3) hX dX12_tell_33 rfl rfl ?_
          obtain ⟨v11, e12, h⟩ := obn_e h
          refine ow_get (r := x3) hX dX12_tell_34 oF_RX12_190 (ovr_e e12) ?_
          obtain ⟨v13, e14, h⟩ := obn_e h
          refine ow_get (r := v11) hX dX12_tell_37 oF_RX12_193 (ovr_e e14) ?_
          obtain ⟨a15, e16, h⟩ := obn_e h
          obtain ⟨s17, e18, h⟩ := ocv_e h
          refine oc_RX12_197 (rb := x0) (a1 := va_rf v13) hX dX12_tell_40 (Nat.le_of_ble_eq_true rfl) e16 (hc _ _ _ _ e18) ?_
          refine os_aload_n (r := x0) hX dX12_tell_43 rfl rfl ?_
          refine os_bipush (v := 58) hX dX12_tell_44 (by decide) ?_
          obtain ⟨a20, e21, h⟩ := obn_e h
          obtain ⟨s22, e23, h⟩ := ocv_e h
          refine oc_RX12_201 (rb := x0) (a1 := .int 58) hX dX12_tell_46 (Nat.le_of_ble_eq_true rfl) e21 (hc _ _ _ _ e23) ?_
          refine os_aload (r := r10) hX dX12_tell_49 rfl ?_
          obtain ⟨v25, e26, h⟩ := obn_e h
          refine ow_get (r := r10) hX dX12_tell_51 oF_RX12_181 (ovi_e e26) ?_
          refine os_sipush (v := 206) hX dX12_tell_54 (by decide) ?_
          refine os_icmp_ne (tgt := 90) hX dX12_tell_57 (by decide) (fun c27 => ?_) (fun c27 => ?_)
          · rw [if_neg c27] at h
            exact qj_X12_tell_90 hX hc hk5 h
          · rw [if_pos c27] at h
            refine os_iload_n hX dX12_tell_60 rfl rfl ?_
            refine os_bipush (v := 60) hX dX12_tell_61 (by decide) ?_
            refine os_icmp_gt (tgt := 90) hX dX12_tell_63 (by decide) (fun c28 => ?_) (fun c28 => ?_)
            · rw [if_pos c28] at h
              exact qj_X12_tell_90 hX hc hk5 h
            · rw [if_neg c28] at h
              refine os_aload_n (r := x0) hX dX12_tell_66 rfl rfl ?_
              refine os_bipush (v := 40) hX dX12_tell_67 (by decide) ?_
              obtain ⟨a29, e30, h⟩ := obn_e h
              obtain ⟨s31, e32, h⟩ := ocv_e h
              refine oc_RX12_201 (rb := x0) (a1 := .int 40) hX dX12_tell_69 (Nat.le_of_ble_eq_true rfl) e30 (hc _ _ _ _ e32) ?_
              refine os_aload_n (r := x0) hX dX12_tell_72 rfl rfl ?_
              refine os_aload (r := r10) hX dX12_tell_73 rfl ?_
              refine os_iload_n hX dX12_tell_75 rfl rfl ?_
              refine os_iconst (v := 1) hX dX12_tell_76 (by decide) ?_
              refine os_iadd hX dX12_tell_77 ?_
              obtain ⟨a34, e35, h⟩ := obn_e h
              obtain ⟨s36, e37, h⟩ := ocv_e h
              refine oc_RX12_174 (rb := x0) (a1 := va_rf r10) (a2 := .int (x2 + 1)) hX dX12_tell_78 (Nat.le_of_ble_eq_true rfl) e35 (hc _ _ _ _ e37) ?_
              refine os_aload_n (r := x0) hX dX12_tell_81 rfl rfl ?_
              refine os_bipush (v := 41) hX dX12_tell_82 (by decide) ?_
              obtain ⟨a39, e40, h⟩ := obn_e h
              obtain ⟨s41, e42, h⟩ := ocv_e h
              refine oc_RX12_201 (rb := x0) (a1 := .int 41) hX dX12_tell_84 (Nat.le_of_ble_eq_true rfl) e40 (hc _ _ _ _ e42) ?_
              refine os_goto (tgt := 96) hX dX12_tell_87 (by decide) ?_
              refine os_weak hX (lw := [some (va_rf x0), none, some (.int x2), some (va_rf x3), some (.int x4), none]) ⟨rfl, rfl, rfl, rfl, trivial⟩ ?_
              exact qj_X12_tell_96 hX hc hk5 h
set_option maxHeartbeats 4000000 in
theorem qb_X12_tell {κ : oKv} {n : Nat} {call : oCl} {kc : Nat → List Value → oSt → Option Value × oSt → Prop} {v : Option Value × oSt} {X : Nat → zLv → List Value → oSt → Prop} (hX : oSem RX12 cX12_tell 6 0 none κ kc v X) (hc : ∀ j av s w, call j av s = some w → kc j av s w) {x0 : Option Nat} {x1 : Option Nat} {x2 : Int32} {σ : oSt} (h : ob_X12_tell n call κ x0 x1 x2 σ = some v) : X 0 [some (va_rf x0), some (va_rf x1), some (.int x2), none, none, none] [] σ := by
  rw [ob_X12_tell] at h
  refine os_aload_n (r := x1) hX dX12_tell_0 rfl rfl ?_
  refine os_astore_n (r := x1) hX dX12_tell_1 rfl (by decide) rfl ?_
  dsimp only [List.set]
  refine os_iconst (v := 0) hX dX12_tell_2 (by decide) ?_
  refine os_istore hX dX12_tell_3 (by decide) (ozlo (i := 3) (r := x1) rfl) ?_
  dsimp only [List.set]
  refine os_weak hX (lw := [some (va_rf x0), none, some (.int x2), some (va_rf x1), some (.int 0), none]) ⟨rfl, rfl, rfl, rfl, trivial⟩ ?_
  exact ql_X12_tell_5 hX hc n _ _ _ _ _ h
def ob_X12_type (n : Nat) (call : oCl) (κ : oKv) (x0 : Option Nat) (x1 : Int32) (σ : oSt) : oRs :=
  obn (ovr (ofd σ x0 14 2)) fun v1 =>
  if v1 = none then
    some (some (.int (-1)), σ)
  else
    obn (ovr (ofd σ x0 14 4)) fun v4 =>
    if v4 = none then
      some (some (.int (-1)), σ)
    else
      if x1 < 0 then
        some (some (.int (-1)), σ)
      else
        obn (ovr (ofd σ x0 14 2)) fun v8 =>
        obn (ovr (ofd σ v8 9 2)) fun v10 =>
        obn (oob σ v10 1) fun a12 =>
        oin (call 236 [va_rf v10] σ) fun r16 s14 =>
        if x1 < r16 then
          obn (opf s14 x0 14 9 (.int 0)) fun s18 =>
          obn (ovr (ofd s18 x0 14 10)) fun v20 =>
          obn (oob s18 v20 1) fun a22 =>
          ocv (call 237 [va_rf v20] s18) fun s24 =>
          obn (ovr (ofd s24 x0 14 2)) fun v27 =>
          obn (ovr (ofd s24 v27 9 2)) fun v29 =>
          obn (oob s24 v29 1) fun a31 =>
          orn (call 234 [va_rf v29, .int x1] s24) fun r35 s33 =>
          ogd (ocs s33 r35 6) (
          obn (ovr (ofd s33 r35 6 4)) fun v37 =>
          obn (oob s33 x0 14) fun a39 =>
          ocv (call 188 [va_rf x0, va_rf v37, .int 0] s33) fun s41 =>
          obn (ovi (ofd s41 x0 14 9)) fun v44 =>
          if v44 ≤ 16000 then
            obn (ovr (ofd s41 x0 14 6)) fun v47 =>
            obn (ovr (ofd s41 x0 14 7)) fun v49 =>
            obn (opf s41 x0 14 6 (va_rf v49)) fun s51 =>
            obn (opf s51 x0 14 7 (va_rf v47)) fun s53 =>
            obn (ovi (ofd s53 x0 14 9)) fun v55 =>
            obn (opf s53 x0 14 8 (.int v55)) fun s57 =>
            obn (ovi (ofd s57 x0 14 8)) fun v59 =>
            some (some (.int v59), s57)
          else
            some (some (.int (-1)), s41))
        else
          some (some (.int (-1)), s14)
set_option maxHeartbeats 4000000 in
theorem qb_X12_type {κ : oKv} {n : Nat} {call : oCl} {kc : Nat → List Value → oSt → Option Value × oSt → Prop} {v : Option Value × oSt} {X : Nat → zLv → List Value → oSt → Prop} (hX : oSem RX12 cX12_type 3 0 (some .int) κ kc v X) (hc : ∀ j av s w, call j av s = some w → kc j av s w) {x0 : Option Nat} {x1 : Int32} {σ : oSt} (h : ob_X12_type n call κ x0 x1 σ = some v) : X 0 [some (va_rf x0), some (.int x1), none] [] σ := by
  rw [ob_X12_type] at h
  refine os_aload_n (r := x0) hX dX12_type_0 rfl rfl ?_
  obtain ⟨v1, e2, h⟩ := obn_e h
  refine ow_get (r := x0) hX dX12_type_1 oF_RX12_51 (ovr_e e2) ?_
  refine os_ifnull (r := v1) (tgt := 32) hX dX12_type_4 (by decide) (fun c3 => ?_) (fun c3 => ?_)
  · rw [if_pos c3] at h
    refine os_iconst (v := (-1)) hX dX12_type_32 (by decide) ?_
    exact os_iret hX dX12_type_33 rfl (Option.some.inj h)
  · rw [if_neg c3] at h
    refine os_aload_n (r := x0) hX dX12_type_7 rfl rfl ?_
    obtain ⟨v4, e5, h⟩ := obn_e h
    refine ow_get (r := x0) hX dX12_type_8 oF_RX12_59 (ovr_e e5) ?_
    refine os_ifnull (r := v4) (tgt := 32) hX dX12_type_11 (by decide) (fun c6 => ?_) (fun c6 => ?_)
    · rw [if_pos c6] at h
      refine os_iconst (v := (-1)) hX dX12_type_32 (by decide) ?_
      exact os_iret hX dX12_type_33 rfl (Option.some.inj h)
    · rw [if_neg c6] at h
      refine os_iload_n hX dX12_type_14 rfl rfl ?_
      refine os_if_lt (tgt := 32) hX dX12_type_15 (by decide) (fun c7 => ?_) (fun c7 => ?_)
      · rw [if_pos c7] at h
        refine os_iconst (v := (-1)) hX dX12_type_32 (by decide) ?_
        exact os_iret hX dX12_type_33 rfl (Option.some.inj h)
      · rw [if_neg c7] at h
        refine os_iload_n hX dX12_type_18 rfl rfl ?_
        refine os_aload_n (r := x0) hX dX12_type_19 rfl rfl ?_
        obtain ⟨v8, e9, h⟩ := obn_e h
        refine ow_get (r := x0) hX dX12_type_20 oF_RX12_51 (ovr_e e9) ?_
        obtain ⟨v10, e11, h⟩ := obn_e h
        refine ow_get (r := v8) hX dX12_type_23 oF_RX12_151 (ovr_e e11) ?_
        obtain ⟨a12, e13, h⟩ := obn_e h
        obtain ⟨r16, s14, e15, h⟩ := oin_e h
        refine oc_RX12_154 (rb := v10)  hX dX12_type_26 (Nat.le_of_ble_eq_true rfl) e13 (hc _ _ _ _ e15) ?_
        refine os_icmp_lt (tgt := 34) hX dX12_type_29 (by decide) (fun c17 => ?_) (fun c17 => ?_)
        · rw [if_pos c17] at h
          refine os_aload_n (r := x0) hX dX12_type_34 rfl rfl ?_
          refine os_iconst (v := 0) hX dX12_type_35 (by decide) ?_
          obtain ⟨s18, e19, h⟩ := obn_e h
          refine ow_put (r := x0) (x := .int 0) hX dX12_type_36 oF_RX12_158 (by decide) (opn_I oT_14_9) e19 ?_
          refine os_aload_n (r := x0) hX dX12_type_39 rfl rfl ?_
          obtain ⟨v20, e21, h⟩ := obn_e h
          refine ow_get (r := x0) hX dX12_type_40 oF_RX12_26 (ovr_e e21) ?_
          obtain ⟨a22, e23, h⟩ := obn_e h
          obtain ⟨s24, e25, h⟩ := ocv_e h
          refine oc_RX12_161 (rb := v20)  hX dX12_type_43 (Nat.le_of_ble_eq_true rfl) e23 (hc _ _ _ _ e25) ?_
          refine os_aload_n (r := x0) hX dX12_type_46 rfl rfl ?_
          refine os_aload_n (r := x0) hX dX12_type_47 rfl rfl ?_
          obtain ⟨v27, e28, h⟩ := obn_e h
          refine ow_get (r := x0) hX dX12_type_48 oF_RX12_51 (ovr_e e28) ?_
          obtain ⟨v29, e30, h⟩ := obn_e h
          refine ow_get (r := v27) hX dX12_type_51 oF_RX12_151 (ovr_e e30) ?_
          refine os_iload_n hX dX12_type_54 rfl rfl ?_
          obtain ⟨a31, e32, h⟩ := obn_e h
          obtain ⟨r35, s33, e34, h⟩ := orn_e h
          refine oc_RX12_164 (rb := v29) (a1 := .int x1) hX dX12_type_55 (by simp only [List.map_cons, List.map_nil, List.sum_cons, List.sum_nil, ocat]; exact Nat.le_of_ble_eq_true rfl) e32 (hc _ _ _ _ e34) ?_
          obtain ⟨b36, h⟩ := ogd_e h
          refine ow_cs (r := r35) hX dX12_type_58 oK_RX12_168 b36 ?_
          obtain ⟨v37, e38, h⟩ := obn_e h
          refine ow_get (r := r35) hX dX12_type_61 oF_RX12_170 (ovr_e e38) ?_
          refine os_iconst (v := 0) hX dX12_type_64 (by decide) ?_
          obtain ⟨a39, e40, h⟩ := obn_e h
          obtain ⟨s41, e42, h⟩ := ocv_e h
          refine oc_RX12_174 (rb := x0) (a1 := va_rf v37) (a2 := .int 0) hX dX12_type_65 (Nat.le_of_ble_eq_true rfl) e40 (hc _ _ _ _ e42) ?_
          refine os_aload_n (r := x0) hX dX12_type_68 rfl rfl ?_
          obtain ⟨v44, e45, h⟩ := obn_e h
          refine ow_get (r := x0) hX dX12_type_69 oF_RX12_158 (ovi_e e45) ?_
          refine os_sipush (v := 16000) hX dX12_type_72 (by decide) ?_
          refine os_icmp_le (tgt := 80) hX dX12_type_75 (by decide) (fun c46 => ?_) (fun c46 => ?_)
          · rw [if_pos c46] at h
            refine os_aload_n (r := x0) hX dX12_type_80 rfl rfl ?_
            obtain ⟨v47, e48, h⟩ := obn_e h
            refine ow_get (r := x0) hX dX12_type_81 oF_RX12_17 (ovr_e e48) ?_
            refine os_astore_n (r := v47) hX dX12_type_84 rfl (by decide) rfl ?_
            dsimp only [List.set]
            refine os_aload_n (r := x0) hX dX12_type_85 rfl rfl ?_
            refine os_aload_n (r := x0) hX dX12_type_86 rfl rfl ?_
            obtain ⟨v49, e50, h⟩ := obn_e h
            refine ow_get (r := x0) hX dX12_type_87 oF_RX12_20 (ovr_e e50) ?_
            obtain ⟨s51, e52, h⟩ := obn_e h
            refine ow_put (r := x0) (x := va_rf v49) hX dX12_type_90 oF_RX12_17 (by decide) (orf_n (Or.inr ⟨_, oT_14_6⟩) v49) e52 ?_
            refine os_aload_n (r := x0) hX dX12_type_93 rfl rfl ?_
            refine os_aload_n (r := v47) hX dX12_type_94 rfl rfl ?_
            obtain ⟨s53, e54, h⟩ := obn_e h
            refine ow_put (r := x0) (x := va_rf v47) hX dX12_type_95 oF_RX12_20 (by decide) (orf_n (Or.inr ⟨_, oT_14_7⟩) v47) e54 ?_
            refine os_aload_n (r := x0) hX dX12_type_98 rfl rfl ?_
            refine os_aload_n (r := x0) hX dX12_type_99 rfl rfl ?_
            obtain ⟨v55, e56, h⟩ := obn_e h
            refine ow_get (r := x0) hX dX12_type_100 oF_RX12_158 (ovi_e e56) ?_
            obtain ⟨s57, e58, h⟩ := obn_e h
            refine ow_put (r := x0) (x := .int v55) hX dX12_type_103 oF_RX12_178 (by decide) (opn_I oT_14_8) e58 ?_
            refine os_aload_n (r := x0) hX dX12_type_106 rfl rfl ?_
            obtain ⟨v59, e60, h⟩ := obn_e h
            refine ow_get (r := x0) hX dX12_type_107 oF_RX12_178 (ovi_e e60) ?_
            exact os_iret hX dX12_type_110 rfl (Option.some.inj h)
          · rw [if_neg c46] at h
            refine os_iconst (v := (-1)) hX dX12_type_78 (by decide) ?_
            exact os_iret hX dX12_type_79 rfl (Option.some.inj h)
        · rw [if_neg c17] at h
          refine os_iconst (v := (-1)) hX dX12_type_32 (by decide) ?_
          exact os_iret hX dX12_type_33 rfl (Option.some.inj h)
def ob_X12_out (n : Nat) (call : oCl) (κ : oKv) (x0 : Option Nat) (x1 : Int32) (σ : oSt) : oRs :=
  if x1 = (-1) then
    obn (ovi (ofd σ x0 14 8)) fun v10 =>
    some (some (.int v10), σ)
  else
    if x1 < 0 then
      some (some (.int (-1)), σ)
    else
      obn (ovi (ofd σ x0 14 8)) fun v3 =>
      if v3 ≤ x1 then
        some (some (.int (-1)), σ)
      else
        obn (ovr (ofd σ x0 14 6)) fun v6 =>
        obn (oai σ v6 .byte x1) fun v8 =>
        some (some (.int (v8 &&& 255)), σ)
set_option maxHeartbeats 4000000 in
theorem qb_X12_out {κ : oKv} {n : Nat} {call : oCl} {kc : Nat → List Value → oSt → Option Value × oSt → Prop} {v : Option Value × oSt} {X : Nat → zLv → List Value → oSt → Prop} (hX : oSem RX12 cX12_out 2 0 (some .int) κ kc v X) (hc : ∀ j av s w, call j av s = some w → kc j av s w) {x0 : Option Nat} {x1 : Int32} {σ : oSt} (h : ob_X12_out n call κ x0 x1 σ = some v) : X 0 [some (va_rf x0), some (.int x1)] [] σ := by
  rw [ob_X12_out] at h
  refine os_iload_n hX dX12_out_0 rfl rfl ?_
  refine os_iconst (v := (-1)) hX dX12_out_1 (by decide) ?_
  refine os_icmp_ne (tgt := 10) hX dX12_out_2 (by decide) (fun c1 => ?_) (fun c1 => ?_)
  · rw [if_neg c1] at h
    refine os_iload_n hX dX12_out_10 rfl rfl ?_
    refine os_if_lt (tgt := 35) hX dX12_out_11 (by decide) (fun c2 => ?_) (fun c2 => ?_)
    · rw [if_pos c2] at h
      refine os_iconst (v := (-1)) hX dX12_out_35 (by decide) ?_
      exact os_iret hX dX12_out_36 rfl (Option.some.inj h)
    · rw [if_neg c2] at h
      refine os_iload_n hX dX12_out_14 rfl rfl ?_
      refine os_aload_n (r := x0) hX dX12_out_15 rfl rfl ?_
      obtain ⟨v3, e4, h⟩ := obn_e h
      refine ow_get (r := x0) hX dX12_out_16 oF_RX12_178 (ovi_e e4) ?_
      refine os_icmp_ge (tgt := 35) hX dX12_out_19 (by decide) (fun c5 => ?_) (fun c5 => ?_)
      · rw [if_pos c5] at h
        refine os_iconst (v := (-1)) hX dX12_out_35 (by decide) ?_
        exact os_iret hX dX12_out_36 rfl (Option.some.inj h)
      · rw [if_neg c5] at h
        refine os_aload_n (r := x0) hX dX12_out_22 rfl rfl ?_
        obtain ⟨v6, e7, h⟩ := obn_e h
        refine ow_get (r := x0) hX dX12_out_23 oF_RX12_17 (ovr_e e7) ?_
        refine os_iload_n hX dX12_out_26 rfl rfl ?_
        obtain ⟨v8, e9, h⟩ := obn_e h
        refine ow_ab (r := v6) (i := x1) hX dX12_out_27 e9 ?_
        refine os_sipush (v := 255) hX dX12_out_28 (by decide) ?_
        refine os_iand hX dX12_out_31 ?_
        refine os_goto (tgt := 36) hX dX12_out_32 (by decide) ?_
        exact os_iret hX dX12_out_36 rfl (Option.some.inj h)
  · rw [if_pos c1] at h
    refine os_aload_n (r := x0) hX dX12_out_5 rfl rfl ?_
    obtain ⟨v10, e11, h⟩ := obn_e h
    refine ow_get (r := x0) hX dX12_out_6 oF_RX12_178 (ovi_e e11) ?_
    exact os_iret hX dX12_out_9 rfl (Option.some.inj h)
def ob_X12_give (n : Nat) (call : oCl) (κ : oKv) (x0 : Option Nat) (x1 : Int32) (x2 : Int32) (σ : oSt) : oRs :=
  obn (ovr (ofd σ x0 14 2)) fun v1 =>
  if v1 = none then
    some (some (.int 0), σ)
  else
    if x1 < 0 then
      some (some (.int 0), σ)
    else
      obn (ovr (ofd σ x0 14 2)) fun v5 =>
      obn (ovi (ofd σ v5 9 9)) fun v7 =>
      if v7 ≤ x1 then
        some (some (.int 0), σ)
      else
        obn (ovr (ofd σ x0 14 12)) fun v10 =>
        obn (ovr (ofd σ x0 14 2)) fun v12 =>
        obn (ovr (ofd σ v12 9 2)) fun v14 =>
        obn (oob σ v14 1) fun a16 =>
        orn (call 234 [va_rf v14, .int x1] σ) fun r20 s18 =>
        ogd (ocs s18 r20 6) (
        obn (ovi (ofd s18 r20 6 3)) fun v22 =>
        obn (oob s18 v10 5) fun a24 =>
        oin (call 74 [va_rf v10, .int x1, .int v22, .int x2] s18) fun r28 s26 =>
        if r28 = 0 then
          some (some (.int 0), s26)
        else
          some (some (.int 1), s26))
set_option maxHeartbeats 4000000 in
theorem qb_X12_give {κ : oKv} {n : Nat} {call : oCl} {kc : Nat → List Value → oSt → Option Value × oSt → Prop} {v : Option Value × oSt} {X : Nat → zLv → List Value → oSt → Prop} (hX : oSem RX12 cX12_give 3 0 (some .boolean) κ kc v X) (hc : ∀ j av s w, call j av s = some w → kc j av s w) {x0 : Option Nat} {x1 : Int32} {x2 : Int32} {σ : oSt} (h : ob_X12_give n call κ x0 x1 x2 σ = some v) : X 0 [some (va_rf x0), some (.int x1), some (.int x2)] [] σ := by
  rw [ob_X12_give] at h
  refine os_aload_n (r := x0) hX dX12_give_0 rfl rfl ?_
  obtain ⟨v1, e2, h⟩ := obn_e h
  refine ow_get (r := x0) hX dX12_give_1 oF_RX12_51 (ovr_e e2) ?_
  refine os_ifnull (r := v1) (tgt := 55) hX dX12_give_4 (by decide) (fun c3 => ?_) (fun c3 => ?_)
  · rw [if_pos c3] at h
    refine os_iconst (v := 0) hX dX12_give_55 (by decide) ?_
    exact os_nret (ty := .boolean) hX dX12_give_56 rfl rfl (by decide) (Option.some.inj h)
  · rw [if_neg c3] at h
    refine os_iload_n hX dX12_give_7 rfl rfl ?_
    refine os_if_lt (tgt := 55) hX dX12_give_8 (by decide) (fun c4 => ?_) (fun c4 => ?_)
    · rw [if_pos c4] at h
      refine os_iconst (v := 0) hX dX12_give_55 (by decide) ?_
      exact os_nret (ty := .boolean) hX dX12_give_56 rfl rfl (by decide) (Option.some.inj h)
    · rw [if_neg c4] at h
      refine os_iload_n hX dX12_give_11 rfl rfl ?_
      refine os_aload_n (r := x0) hX dX12_give_12 rfl rfl ?_
      obtain ⟨v5, e6, h⟩ := obn_e h
      refine ow_get (r := x0) hX dX12_give_13 oF_RX12_51 (ovr_e e6) ?_
      obtain ⟨v7, e8, h⟩ := obn_e h
      refine ow_get (r := v5) hX dX12_give_16 oF_RX12_303 (ovi_e e8) ?_
      refine os_icmp_ge (tgt := 55) hX dX12_give_19 (by decide) (fun c9 => ?_) (fun c9 => ?_)
      · rw [if_pos c9] at h
        refine os_iconst (v := 0) hX dX12_give_55 (by decide) ?_
        exact os_nret (ty := .boolean) hX dX12_give_56 rfl rfl (by decide) (Option.some.inj h)
      · rw [if_neg c9] at h
        refine os_aload_n (r := x0) hX dX12_give_22 rfl rfl ?_
        obtain ⟨v10, e11, h⟩ := obn_e h
        refine ow_get (r := x0) hX dX12_give_23 oF_RX12_40 (ovr_e e11) ?_
        refine os_iload_n hX dX12_give_26 rfl rfl ?_
        refine os_aload_n (r := x0) hX dX12_give_27 rfl rfl ?_
        obtain ⟨v12, e13, h⟩ := obn_e h
        refine ow_get (r := x0) hX dX12_give_28 oF_RX12_51 (ovr_e e13) ?_
        obtain ⟨v14, e15, h⟩ := obn_e h
        refine ow_get (r := v12) hX dX12_give_31 oF_RX12_151 (ovr_e e15) ?_
        refine os_iload_n hX dX12_give_34 rfl rfl ?_
        obtain ⟨a16, e17, h⟩ := obn_e h
        obtain ⟨r20, s18, e19, h⟩ := orn_e h
        refine oc_RX12_164 (rb := v14) (a1 := .int x1) hX dX12_give_35 (by simp only [List.map_cons, List.map_nil, List.sum_cons, List.sum_nil, ocat]; exact Nat.le_of_ble_eq_true rfl) e17 (hc _ _ _ _ e19) ?_
        obtain ⟨b21, h⟩ := ogd_e h
        refine ow_cs (r := r20) hX dX12_give_38 oK_RX12_168 b21 ?_
        obtain ⟨v22, e23, h⟩ := obn_e h
        refine ow_get (r := r20) hX dX12_give_41 oF_RX12_260 (ovi_e e23) ?_
        refine os_iload_n hX dX12_give_44 rfl rfl ?_
        obtain ⟨a24, e25, h⟩ := obn_e h
        obtain ⟨r28, s26, e27, h⟩ := oin_e h
        refine oc_RX12_306 (rb := v10) (a1 := .int x1) (a2 := .int v22) (a3 := .int x2) hX dX12_give_45 (Nat.le_of_ble_eq_true rfl) e25 (hc _ _ _ _ e27) ?_
        refine os_if_eq (tgt := 55) hX dX12_give_48 (by decide) (fun c29 => ?_) (fun c29 => ?_)
        · rw [if_pos c29] at h
          refine os_iconst (v := 0) hX dX12_give_55 (by decide) ?_
          exact os_nret (ty := .boolean) hX dX12_give_56 rfl rfl (by decide) (Option.some.inj h)
        · rw [if_neg c29] at h
          refine os_iconst (v := 1) hX dX12_give_51 (by decide) ?_
          refine os_goto (tgt := 56) hX dX12_give_52 (by decide) ?_
          exact os_nret (ty := .boolean) hX dX12_give_56 rfl rfl (by decide) (Option.some.inj h)
def ob_X12_element (n : Nat) (call : oCl) (κ : oKv) (x0 : Option Nat) (x1 : Int32) (x2 : Int32) (x3 : Int32) (σ : oSt) : oRs :=
  obn (ovr (ofd σ x0 14 2)) fun v1 =>
  if v1 = none then
    some (some (.int 0), σ)
  else
    if x1 < 0 then
      some (some (.int 0), σ)
    else
      obn (ovr (ofd σ x0 14 2)) fun v5 =>
      obn (ovi (ofd σ v5 9 9)) fun v7 =>
      if v7 ≤ x1 then
        some (some (.int 0), σ)
      else
        obn (ovr (ofd σ x0 14 2)) fun v10 =>
        obn (ovr (ofd σ v10 9 2)) fun v12 =>
        obn (oob σ v12 1) fun a14 =>
        orn (call 234 [va_rf v12, .int x1] σ) fun r18 s16 =>
        ogd (ocs s16 r18 6) (
        obn (ovi (ofd s16 r18 6 3)) fun v20 =>
        if v20 = 200 then
          obn (ovr (ofd s16 x0 14 12)) fun v23 =>
          obn (oob s16 v23 5) fun a25 =>
          oin (call 75 [va_rf v23, .int x1, .int x2, .int x3] s16) fun r29 s27 =>
          if r29 = 0 then
            some (some (.int 0), s27)
          else
            some (some (.int 1), s27)
        else
          some (some (.int 0), s16))
set_option maxHeartbeats 4000000 in
theorem qb_X12_element {κ : oKv} {n : Nat} {call : oCl} {kc : Nat → List Value → oSt → Option Value × oSt → Prop} {v : Option Value × oSt} {X : Nat → zLv → List Value → oSt → Prop} (hX : oSem RX12 cX12_element 4 0 (some .boolean) κ kc v X) (hc : ∀ j av s w, call j av s = some w → kc j av s w) {x0 : Option Nat} {x1 : Int32} {x2 : Int32} {x3 : Int32} {σ : oSt} (h : ob_X12_element n call κ x0 x1 x2 x3 σ = some v) : X 0 [some (va_rf x0), some (.int x1), some (.int x2), some (.int x3)] [] σ := by
  rw [ob_X12_element] at h
  refine os_aload_n (r := x0) hX dX12_element_0 rfl rfl ?_
  obtain ⟨v1, e2, h⟩ := obn_e h
  refine ow_get (r := x0) hX dX12_element_1 oF_RX12_51 (ovr_e e2) ?_
  refine os_ifnull (r := v1) (tgt := 62) hX dX12_element_4 (by decide) (fun c3 => ?_) (fun c3 => ?_)
  · rw [if_pos c3] at h
    refine os_iconst (v := 0) hX dX12_element_62 (by decide) ?_
    exact os_nret (ty := .boolean) hX dX12_element_63 rfl rfl (by decide) (Option.some.inj h)
  · rw [if_neg c3] at h
    refine os_iload_n hX dX12_element_7 rfl rfl ?_
    refine os_if_lt (tgt := 62) hX dX12_element_8 (by decide) (fun c4 => ?_) (fun c4 => ?_)
    · rw [if_pos c4] at h
      refine os_iconst (v := 0) hX dX12_element_62 (by decide) ?_
      exact os_nret (ty := .boolean) hX dX12_element_63 rfl rfl (by decide) (Option.some.inj h)
    · rw [if_neg c4] at h
      refine os_iload_n hX dX12_element_11 rfl rfl ?_
      refine os_aload_n (r := x0) hX dX12_element_12 rfl rfl ?_
      obtain ⟨v5, e6, h⟩ := obn_e h
      refine ow_get (r := x0) hX dX12_element_13 oF_RX12_51 (ovr_e e6) ?_
      obtain ⟨v7, e8, h⟩ := obn_e h
      refine ow_get (r := v5) hX dX12_element_16 oF_RX12_303 (ovi_e e8) ?_
      refine os_icmp_ge (tgt := 62) hX dX12_element_19 (by decide) (fun c9 => ?_) (fun c9 => ?_)
      · rw [if_pos c9] at h
        refine os_iconst (v := 0) hX dX12_element_62 (by decide) ?_
        exact os_nret (ty := .boolean) hX dX12_element_63 rfl rfl (by decide) (Option.some.inj h)
      · rw [if_neg c9] at h
        refine os_aload_n (r := x0) hX dX12_element_22 rfl rfl ?_
        obtain ⟨v10, e11, h⟩ := obn_e h
        refine ow_get (r := x0) hX dX12_element_23 oF_RX12_51 (ovr_e e11) ?_
        obtain ⟨v12, e13, h⟩ := obn_e h
        refine ow_get (r := v10) hX dX12_element_26 oF_RX12_151 (ovr_e e13) ?_
        refine os_iload_n hX dX12_element_29 rfl rfl ?_
        obtain ⟨a14, e15, h⟩ := obn_e h
        obtain ⟨r18, s16, e17, h⟩ := orn_e h
        refine oc_RX12_164 (rb := v12) (a1 := .int x1) hX dX12_element_30 (Nat.le_of_ble_eq_true rfl) e15 (hc _ _ _ _ e17) ?_
        obtain ⟨b19, h⟩ := ogd_e h
        refine ow_cs (r := r18) hX dX12_element_33 oK_RX12_168 b19 ?_
        obtain ⟨v20, e21, h⟩ := obn_e h
        refine ow_get (r := r18) hX dX12_element_36 oF_RX12_260 (ovi_e e21) ?_
        refine os_sipush (v := 200) hX dX12_element_39 (by decide) ?_
        refine os_icmp_ne (tgt := 62) hX dX12_element_42 (by decide) (fun c22 => ?_) (fun c22 => ?_)
        · rw [if_neg c22] at h
          refine os_iconst (v := 0) hX dX12_element_62 (by decide) ?_
          exact os_nret (ty := .boolean) hX dX12_element_63 rfl rfl (by decide) (Option.some.inj h)
        · rw [if_pos c22] at h
          refine os_aload_n (r := x0) hX dX12_element_45 rfl rfl ?_
          obtain ⟨v23, e24, h⟩ := obn_e h
          refine ow_get (r := x0) hX dX12_element_46 oF_RX12_40 (ovr_e e24) ?_
          refine os_iload_n hX dX12_element_49 rfl rfl ?_
          refine os_iload_n hX dX12_element_50 rfl rfl ?_
          refine os_iload_n hX dX12_element_51 rfl rfl ?_
          obtain ⟨a25, e26, h⟩ := obn_e h
          obtain ⟨r29, s27, e28, h⟩ := oin_e h
          refine oc_RX12_310 (rb := v23) (a1 := .int x1) (a2 := .int x2) (a3 := .int x3) hX dX12_element_52 (Nat.le_of_ble_eq_true rfl) e26 (hc _ _ _ _ e28) ?_
          refine os_if_eq (tgt := 62) hX dX12_element_55 (by decide) (fun c30 => ?_) (fun c30 => ?_)
          · rw [if_pos c30] at h
            refine os_iconst (v := 0) hX dX12_element_62 (by decide) ?_
            exact os_nret (ty := .boolean) hX dX12_element_63 rfl rfl (by decide) (Option.some.inj h)
          · rw [if_neg c30] at h
            refine os_iconst (v := 1) hX dX12_element_58 (by decide) ?_
            refine os_goto (tgt := 63) hX dX12_element_59 (by decide) ?_
            exact os_nret (ty := .boolean) hX dX12_element_63 rfl rfl (by decide) (Option.some.inj h)
def ob_X12_run (n : Nat) (call : oCl) (κ : oKv) (x0 : Option Nat) (x1 : Int32) (σ : oSt) : oRs :=
  obn (ovr (ofd σ x0 14 2)) fun v1 =>
  if v1 = none then
    some (some (.int (-1)), σ)
  else
    if x1 < 0 then
      some (some (.int (-1)), σ)
    else
      if x1 ≤ 20000 then
        obn (ovr (ofd σ x0 14 12)) fun v6 =>
        obn (oob σ v6 5) fun a8 =>
        oin (call 101 [va_rf v6, .int x1] σ) fun r12 s10 =>
        some (some (.int r12), s10)
      else
        some (some (.int (-1)), σ)
set_option maxHeartbeats 4000000 in
theorem qb_X12_run {κ : oKv} {n : Nat} {call : oCl} {kc : Nat → List Value → oSt → Option Value × oSt → Prop} {v : Option Value × oSt} {X : Nat → zLv → List Value → oSt → Prop} (hX : oSem RX12 cX12_run 2 0 (some .int) κ kc v X) (hc : ∀ j av s w, call j av s = some w → kc j av s w) {x0 : Option Nat} {x1 : Int32} {σ : oSt} (h : ob_X12_run n call κ x0 x1 σ = some v) : X 0 [some (va_rf x0), some (.int x1)] [] σ := by
  rw [ob_X12_run] at h
  refine os_aload_n (r := x0) hX dX12_run_0 rfl rfl ?_
  obtain ⟨v1, e2, h⟩ := obn_e h
  refine ow_get (r := x0) hX dX12_run_1 oF_RX12_51 (ovr_e e2) ?_
  refine os_ifnull (r := v1) (tgt := 18) hX dX12_run_4 (by decide) (fun c3 => ?_) (fun c3 => ?_)
  · rw [if_pos c3] at h
    refine os_iconst (v := (-1)) hX dX12_run_18 (by decide) ?_
    exact os_iret hX dX12_run_19 rfl (Option.some.inj h)
  · rw [if_neg c3] at h
    refine os_iload_n hX dX12_run_7 rfl rfl ?_
    refine os_if_lt (tgt := 18) hX dX12_run_8 (by decide) (fun c4 => ?_) (fun c4 => ?_)
    · rw [if_pos c4] at h
      refine os_iconst (v := (-1)) hX dX12_run_18 (by decide) ?_
      exact os_iret hX dX12_run_19 rfl (Option.some.inj h)
    · rw [if_neg c4] at h
      refine os_iload_n hX dX12_run_11 rfl rfl ?_
      refine os_sipush (v := 20000) hX dX12_run_12 (by decide) ?_
      refine os_icmp_le (tgt := 20) hX dX12_run_15 (by decide) (fun c5 => ?_) (fun c5 => ?_)
      · rw [if_pos c5] at h
        refine os_aload_n (r := x0) hX dX12_run_20 rfl rfl ?_
        obtain ⟨v6, e7, h⟩ := obn_e h
        refine ow_get (r := x0) hX dX12_run_21 oF_RX12_40 (ovr_e e7) ?_
        refine os_iload_n hX dX12_run_24 rfl rfl ?_
        obtain ⟨a8, e9, h⟩ := obn_e h
        obtain ⟨r12, s10, e11, h⟩ := oin_e h
        refine oc_RX12_313 (rb := v6) (a1 := .int x1) hX dX12_run_25 (Nat.le_of_ble_eq_true rfl) e9 (hc _ _ _ _ e11) ?_
        exact os_iret hX dX12_run_28 rfl (Option.some.inj h)
      · rw [if_neg c5] at h
        refine os_iconst (v := (-1)) hX dX12_run_18 (by decide) ?_
        exact os_iret hX dX12_run_19 rfl (Option.some.inj h)
def ob_X12_value (n : Nat) (call : oCl) (κ : oKv) (x0 : Option Nat) (σ : oSt) : oRs :=
  obn (ovr (ofd σ x0 14 12)) fun v1 =>
  obn (ovl (ofd σ v1 5 16)) fun v3 =>
  some (some (.long v3), σ)
set_option maxHeartbeats 4000000 in
theorem qb_X12_value {κ : oKv} {n : Nat} {call : oCl} {kc : Nat → List Value → oSt → Option Value × oSt → Prop} {v : Option Value × oSt} {X : Nat → zLv → List Value → oSt → Prop} (hX : oSem RX12 cX12_value 1 0 (some .long) κ kc v X) (hc : ∀ j av s w, call j av s = some w → kc j av s w) {x0 : Option Nat} {σ : oSt} (h : ob_X12_value n call κ x0 σ = some v) : X 0 [some (va_rf x0)] [] σ := by
  rw [ob_X12_value] at h
  refine os_aload_n (r := x0) hX dX12_value_0 rfl rfl ?_
  obtain ⟨v1, e2, h⟩ := obn_e h
  refine ow_get (r := x0) hX dX12_value_1 oF_RX12_40 (ovr_e e2) ?_
  obtain ⟨v3, e4, h⟩ := obn_e h
  refine ow_get (r := v1) hX dX12_value_4 oF_RX12_316 (ovl_e e4) ?_
  exact os_lret hX dX12_value_7 rfl (Option.some.inj h)
def ob_X12_fuel (n : Nat) (call : oCl) (κ : oKv) (x0 : Option Nat) (σ : oSt) : oRs :=
  obn (ovr (ofd σ x0 14 12)) fun v1 =>
  obn (ovi (ofd σ v1 5 17)) fun v3 =>
  some (some (.int v3), σ)
set_option maxHeartbeats 4000000 in
theorem qb_X12_fuel {κ : oKv} {n : Nat} {call : oCl} {kc : Nat → List Value → oSt → Option Value × oSt → Prop} {v : Option Value × oSt} {X : Nat → zLv → List Value → oSt → Prop} (hX : oSem RX12 cX12_fuel 1 0 (some .int) κ kc v X) (hc : ∀ j av s w, call j av s = some w → kc j av s w) {x0 : Option Nat} {σ : oSt} (h : ob_X12_fuel n call κ x0 σ = some v) : X 0 [some (va_rf x0)] [] σ := by
  rw [ob_X12_fuel] at h
  refine os_aload_n (r := x0) hX dX12_fuel_0 rfl rfl ?_
  obtain ⟨v1, e2, h⟩ := obn_e h
  refine ow_get (r := x0) hX dX12_fuel_1 oF_RX12_40 (ovr_e e2) ?_
  obtain ⟨v3, e4, h⟩ := obn_e h
  refine ow_get (r := v1) hX dX12_fuel_4 oF_RX12_319 (ovi_e e4) ?_
  exact os_iret hX dX12_fuel_7 rfl (Option.some.inj h)
def ob_J0_init_905df (n : Nat) (call : oCl) (κ : oKv) (x0 : Option Nat) (x1 : Option Nat) (σ : oSt) : oRs :=
  obn (oln2 κ σ x1) fun v1 =>
  obn (x0) fun a3 =>
  ocv (call 197 [va_rf x0, va_rf x1, .int 0, .int v1, va_rf none] σ) fun s5 =>
  some (none, s5)
set_option maxHeartbeats 4000000 in
theorem qb_J0_init_905df {κ : oKv} {n : Nat} {call : oCl} {kc : Nat → List Value → oSt → Option Value × oSt → Prop} {v : Option Value × oSt} {X : Nat → zLv → List Value → oSt → Prop} (hX : oSem RJ0 cJ0_init_905df 2 2 none κ kc v X) (hc : ∀ j av s w, call j av s = some w → kc j av s w) {x0 : Option Nat} {x1 : Option Nat} {σ : oSt} (h : ob_J0_init_905df n call κ x0 x1 σ = some v) : X 0 [some (va_rf x0), some (va_rf x1)] [] σ := by
  rw [ob_J0_init_905df] at h
  refine os_aload_n (r := x0) hX dJ0_init_905df_0 rfl rfl ?_
  refine os_aload_n (r := x1) hX dJ0_init_905df_1 rfl rfl ?_
  refine os_iconst (v := 0) hX dJ0_init_905df_2 (by decide) ?_
  refine os_aload_n (r := x1) hX dJ0_init_905df_3 rfl rfl ?_
  obtain ⟨v1, e2, h⟩ := obn_e h
  refine ow_len (r := x1) hX dJ0_init_905df_4 e2 ?_
  refine os_null hX dJ0_init_905df_5 ?_
  obtain ⟨a3, e4, h⟩ := obn_e h
  obtain ⟨s5, e6, h⟩ := ocv_e h
  refine oc_RJ0_27 (rb := x0) (a1 := va_rf x1) (a2 := .int 0) (a3 := .int v1) (a4 := va_rf none) hX dJ0_init_905df_6 (Nat.le_of_ble_eq_true rfl) e4 (hc _ _ _ _ e6) ?_
  exact os_vret hX dJ0_init_905df_9 rfl (Option.some.inj h)
def ob_J0_init_bb550 (n : Nat) (call : oCl) (κ : oKv) (x0 : Option Nat) (x1 : Option Nat) (x2 : Int32) (x3 : Int32) (x4 : Option Nat) (σ : oSt) : oRs :=
  obn (x0) fun a1 =>
  if x3 = 0 then
    obn (ovr (ofk κ σ (some (κ.1 0)) 0)) fun v19 =>
    obn (opf σ x0 0 0 (va_rf v19)) fun s21 =>
    obn (ovi (ofk κ s21 (some (κ.1 0)) 1)) fun v23 =>
    ogd (oby v23) (
    obn (opf s21 x0 0 1 (.int v23)) fun s26 =>
    some (none, s26))
  else
    if (1 : Int32) = 0 then
      ogd (oby 1) (
      obn (opf σ x0 0 1 (.int 1)) fun s6 =>
      none)
    else
      orn (call 198 [va_rf x1, .int x2, .int x3] σ) fun r10 s8 =>
      oin (call 200 [va_rf r10, .int x3] s8) fun r13 s11 =>
      ogd (oby r13) (
      obn (opf s11 x0 0 1 (.int r13)) fun s15 =>
      obn (opf s15 x0 0 0 (va_rf r10)) fun s17 =>
      some (none, s17))
set_option maxHeartbeats 4000000 in
theorem qb_J0_init_bb550 {κ : oKv} {n : Nat} {call : oCl} {kc : Nat → List Value → oSt → Option Value × oSt → Prop} {v : Option Value × oSt} {X : Nat → zLv → List Value → oSt → Prop} (hX : oSem RJ0 cJ0_init_bb550 6 2 none κ kc v X) (hc : ∀ j av s w, call j av s = some w → kc j av s w) {x0 : Option Nat} {x1 : Option Nat} {x2 : Int32} {x3 : Int32} {x4 : Option Nat} {σ : oSt} (h : ob_J0_init_bb550 n call κ x0 x1 x2 x3 x4 σ = some v) : X 0 [some (va_rf x0), some (va_rf x1), some (.int x2), some (.int x3), some (va_rf x4), none] [] σ := by
  rw [ob_J0_init_bb550] at h
  refine os_aload_n (r := x0) hX dJ0_init_bb550_0 rfl rfl ?_
  obtain ⟨a1, e2, h⟩ := obn_e h
  refine ow_oI (r := x0) hX dJ0_init_bb550_1 oI_RJ0_1 (Nat.le_of_ble_eq_true rfl) e2 ?_
  refine os_iload_n hX dJ0_init_bb550_4 rfl rfl ?_
  refine os_if_ne (tgt := 27) hX dJ0_init_bb550_5 (by decide) (fun c3 => ?_) (fun c3 => ?_)
  · rw [if_neg c3] at h
    refine os_getsC hX dJ0_init_bb550_27 rfl ?_
    refine os_if_eq (tgt := 58) hX dJ0_init_bb550_30 (by decide) (fun c4 => ?_) (fun c4 => ?_)
    · rw [if_pos c4] at h
      refine os_aload_n (r := x0) hX dJ0_init_bb550_58 rfl rfl ?_
      refine os_iconst (v := 1) hX dJ0_init_bb550_59 (by decide) ?_
      obtain ⟨b5, h⟩ := ogd_e h
      obtain ⟨s6, e7, h⟩ := obn_e h
      refine ow_putF (r := x0) (x := .int 1) hX dJ0_init_bb550_60 oF_RJ0_15 (by decide) rfl rfl (opn_B oT_0_1 b5) e7 ?_
      refine os_aload_n (r := x0) hX dJ0_init_bb550_63 rfl rfl ?_
      refine os_aload_n (r := x1) hX dJ0_init_bb550_64 rfl rfl ?_
      refine os_iload_n hX dJ0_init_bb550_65 rfl rfl ?_
      refine os_iload_n hX dJ0_init_bb550_66 rfl rfl ?_
      cases h
    · rw [if_neg c4] at h
      refine os_aload_n (r := x1) hX dJ0_init_bb550_33 rfl rfl ?_
      refine os_iload_n hX dJ0_init_bb550_34 rfl rfl ?_
      refine os_iload_n hX dJ0_init_bb550_35 rfl rfl ?_
      obtain ⟨r10, s8, e9, h⟩ := orn_e h
      refine oc_RJ0_177 (a1 := va_rf x1) (a2 := .int x2) (a3 := .int x3) hX dJ0_init_bb550_36 (Nat.le_of_ble_eq_true rfl) (hc _ _ _ _ e9) ?_
      refine os_astore (r := r10) hX dJ0_init_bb550_39 (by decide) (ozlo (i := 4) (r := x4) rfl) ?_
      dsimp only [List.set]
      refine os_aload_n (r := x0) hX dJ0_init_bb550_41 rfl rfl ?_
      refine os_aload (r := r10) hX dJ0_init_bb550_42 rfl ?_
      refine os_iload_n hX dJ0_init_bb550_44 rfl rfl ?_
      obtain ⟨r13, s11, e12, h⟩ := oin_e h
      refine oc_RJ0_47 (a1 := va_rf r10) (a2 := .int x3) hX dJ0_init_bb550_45 (by simp only [List.map_cons, List.map_nil, List.sum_cons, List.sum_nil, ocat]; exact Nat.le_of_ble_eq_true rfl) (hc _ _ _ _ e12) ?_
      obtain ⟨b14, h⟩ := ogd_e h
      obtain ⟨s15, e16, h⟩ := obn_e h
      refine ow_putF (r := x0) (x := .int r13) hX dJ0_init_bb550_48 oF_RJ0_15 (by decide) rfl rfl (opn_B oT_0_1 b14) e16 ?_
      refine os_aload_n (r := x0) hX dJ0_init_bb550_51 rfl rfl ?_
      refine os_aload (r := r10) hX dJ0_init_bb550_52 rfl ?_
      obtain ⟨s17, e18, h⟩ := obn_e h
      refine ow_putF (r := x0) (x := va_rf r10) hX dJ0_init_bb550_54 oF_RJ0_9 (by decide) rfl rfl (orf_n (Or.inr ⟨_, oT_0_0⟩) r10) e18 ?_
      exact os_vret hX dJ0_init_bb550_57 rfl (Option.some.inj h)
  · rw [if_pos c3] at h
    refine os_aload_n (r := x0) hX dJ0_init_bb550_8 rfl rfl ?_
    refine os_ldcS (q := (RJ0, 7, "")) hX dJ0_init_bb550_9 (show okt[0]? = some _ from rfl) rfl ?_
    obtain ⟨v19, e20, h⟩ := obn_e h
    refine ow_getV (r := (some (κ.1 0))) hX dJ0_init_bb550_11 rfl oF_RJ0_9 (ovr_e e20) ?_
    obtain ⟨s21, e22, h⟩ := obn_e h
    refine ow_putF (r := x0) (x := va_rf v19) hX dJ0_init_bb550_14 oF_RJ0_9 (by decide) rfl rfl (orf_n (Or.inr ⟨_, oT_0_0⟩) v19) e22 ?_
    refine os_aload_n (r := x0) hX dJ0_init_bb550_17 rfl rfl ?_
    refine os_ldcS (q := (RJ0, 7, "")) hX dJ0_init_bb550_18 (show okt[0]? = some _ from rfl) rfl ?_
    obtain ⟨v23, e24, h⟩ := obn_e h
    refine ow_getCo (r := (some (κ.1 0))) hX dJ0_init_bb550_20 rfl oF_RJ0_15 (ovi_e e24) ?_
    obtain ⟨b25, h⟩ := ogd_e h
    obtain ⟨s26, e27, h⟩ := obn_e h
    refine ow_putF (r := x0) (x := .int v23) hX dJ0_init_bb550_23 oF_RJ0_15 (by decide) rfl rfl (opn_B oT_0_1 b25) e27 ?_
    exact os_vret hX dJ0_init_bb550_26 rfl (Option.some.inj h)
def ob_J2_compress_dfd3c (n : Nat) (call : oCl) (κ : oKv) (x0 : Option Nat) (x1 : Int32) (x2 : Int32) (σ : oSt) : oRs :=
  ogd (onn x2) (
  olet (onew σ (.inl (.byte, x2.toNatClampNeg, .inl (fun _ => 0))) x2.toNatClampNeg) fun s1 =>
  oin (call 199 [va_rf x0, .int x1, va_rf (some σ.2.1), .int 0, .int x2] s1) fun r6 s4 =>
  if r6 = x2 then
    some (some (va_rf (some σ.2.1)), s4)
  else
    none)
set_option maxHeartbeats 4000000 in
theorem qb_J2_compress_dfd3c {κ : oKv} {n : Nat} {call : oCl} {kc : Nat → List Value → oSt → Option Value × oSt → Prop} {v : Option Value × oSt} {X : Nat → zLv → List Value → oSt → Prop} (hX : oSem RJ2 cJ2_compress_dfd3c 6 1 (some (.array .byte)) κ kc v X) (hc : ∀ j av s w, call j av s = some w → kc j av s w) {x0 : Option Nat} {x1 : Int32} {x2 : Int32} {σ : oSt} (h : ob_J2_compress_dfd3c n call κ x0 x1 x2 σ = some v) : X 0 [some (va_rf x0), some (.int x1), some (.int x2), none, none, none] [] σ := by
  rw [ob_J2_compress_dfd3c] at h
  refine os_iload_n hX dJ2_compress_dfd3c_0 rfl rfl ?_
  obtain ⟨b3, h⟩ := ogd_e h
  obtain ⟨s1, e2, h⟩ := olet_e h
  refine os_newB hX dJ2_compress_dfd3c_1 (onn_e b3).1 (onn_e b3).2 ?_
  rw [← e2]
  refine os_astore_n (r := (some σ.2.1)) hX dJ2_compress_dfd3c_3 rfl (by decide) rfl ?_
  dsimp only [List.set]
  refine os_aload_n (r := x0) hX dJ2_compress_dfd3c_4 rfl rfl ?_
  refine os_iload_n hX dJ2_compress_dfd3c_5 rfl rfl ?_
  refine os_aload_n (r := (some σ.2.1)) hX dJ2_compress_dfd3c_6 rfl rfl ?_
  refine os_iconst (v := 0) hX dJ2_compress_dfd3c_7 (by decide) ?_
  refine os_iload_n hX dJ2_compress_dfd3c_8 rfl rfl ?_
  obtain ⟨r6, s4, e5, h⟩ := oin_e h
  refine oc_RJ2_115 (a1 := va_rf x0) (a2 := .int x1) (a3 := va_rf (some σ.2.1)) (a4 := .int 0) (a5 := .int x2) hX dJ2_compress_dfd3c_9 (Nat.le_of_ble_eq_true rfl) (hc _ _ _ _ e5) ?_
  refine os_istore hX dJ2_compress_dfd3c_12 (by decide) (ozlo (i := 3) (r := (some σ.2.1)) rfl) ?_
  dsimp only [List.set]
  refine os_iload hX dJ2_compress_dfd3c_14 rfl ?_
  refine os_iload_n hX dJ2_compress_dfd3c_16 rfl rfl ?_
  refine os_icmp_eq (tgt := 57) hX dJ2_compress_dfd3c_17 (by decide) (fun c7 => ?_) (fun c7 => ?_)
  · rw [if_pos c7] at h
    refine os_aload_n (r := (some σ.2.1)) hX dJ2_compress_dfd3c_57 rfl rfl ?_
    exact os_aretA (r := (some σ.2.1)) hX dJ2_compress_dfd3c_58 rfl (Option.some.inj h)
  · rw [if_neg c7] at h
    refine os_aload_n (r := x0) hX dJ2_compress_dfd3c_20 rfl rfl ?_
    refine os_iload_n hX dJ2_compress_dfd3c_21 rfl rfl ?_
    refine os_iload_n hX dJ2_compress_dfd3c_22 rfl rfl ?_
    cases h
def ol_J2_compress_fe38e_3 (n : Nat) (call : oCl) (κ : oKv) : Nat → Option Nat → Int32 → Option Nat → Int32 → Int32 → Int32 → oSt → oRs
  | 0, _, _, _, _, _, _, _ => none
  | f + 1, x0, x1, x2, x3, x4, x5, σ =>
    if x4 ≤ x5 then
      some (some (.int x4), σ)
    else
      obn (oai σ x0 .char x1) fun v2 =>
      if v2 ≤ 255 then
        obn (osi σ x2 .byte x3 (vp_nar .byte v2.toInt8.toInt32)) fun s5 =>
        ol_J2_compress_fe38e_3 n call κ f x0 (x1 + 1) x2 (x3 + 1) x4 (x5 + 1) s5
      else
        some (some (.int x5), σ)
def ob_J2_compress_fe38e (n : Nat) (call : oCl) (κ : oKv) (x0 : Option Nat) (x1 : Int32) (x2 : Option Nat) (x3 : Int32) (x4 : Int32) (σ : oSt) : oRs :=
  ol_J2_compress_fe38e_3 n call κ n x0 x1 x2 x3 x4 0 σ
set_option maxHeartbeats 4000000 in
theorem ql_J2_compress_fe38e_3 {κ : oKv} {n : Nat} {call : oCl} {kc : Nat → List Value → oSt → Option Value × oSt → Prop} {v : Option Value × oSt} {X : Nat → zLv → List Value → oSt → Prop} (hX : oSem RJ2 cJ2_compress_fe38e 7 1 (some .int) κ kc v X) (hc : ∀ j av s w, call j av s = some w → kc j av s w) : ∀ (f : Nat) (x0 : Option Nat) (x1 : Int32) (x2 : Option Nat) (x3 : Int32) (x4 : Int32) (x5 : Int32) (σ : oSt), ol_J2_compress_fe38e_3 n call κ f x0 x1 x2 x3 x4 x5 σ = some v → X 3 [some (va_rf x0), some (.int x1), some (va_rf x2), some (.int x3), some (.int x4), some (.int x5), none] [] σ := by
  intro f
  induction f with
  | zero => intro x0 x1 x2 x3 x4 x5 σ h; cases h
  | succ f hk3 =>
    intro x0 x1 x2 x3 x4 x5 σ h
    rw [ol_J2_compress_fe38e_3] at h
    refine os_iload hX dJ2_compress_fe38e_3 rfl ?_
    refine os_iload hX dJ2_compress_fe38e_5 rfl ?_
    refine os_icmp_ge (tgt := 44) hX dJ2_compress_fe38e_7 (by decide) (fun c1 => ?_) (fun c1 => ?_)
    · rw [if_pos c1] at h
      refine os_iload hX dJ2_compress_fe38e_44 rfl ?_
      exact os_iret hX dJ2_compress_fe38e_46 rfl (Option.some.inj h)
    · rw [if_neg c1] at h
      refine os_aload_n (r := x0) hX dJ2_compress_fe38e_10 rfl rfl ?_
      refine os_iload_n hX dJ2_compress_fe38e_11 rfl rfl ?_
      obtain ⟨v2, e3, h⟩ := obn_e h
      refine ow_ac (r := x0) (i := x1) hX dJ2_compress_fe38e_12 e3 ?_
      refine os_istore hX dJ2_compress_fe38e_13 (by decide) rfl ?_
      dsimp only [List.set]
      refine os_iload hX dJ2_compress_fe38e_15 rfl ?_
      refine os_sipush (v := 255) hX dJ2_compress_fe38e_17 (by decide) ?_
      refine os_icmp_le (tgt := 26) hX dJ2_compress_fe38e_20 (by decide) (fun c4 => ?_) (fun c4 => ?_)
      · rw [if_pos c4] at h
        refine os_aload_n (r := x2) hX dJ2_compress_fe38e_26 rfl rfl ?_
        refine os_iload_n hX dJ2_compress_fe38e_27 rfl rfl ?_
        refine os_iload hX dJ2_compress_fe38e_28 rfl ?_
        refine os_i2b hX dJ2_compress_fe38e_30 ?_
        obtain ⟨s5, e6, h⟩ := obn_e h
        refine ow_sb (r := x2) (i := x3) (x := v2.toInt8.toInt32) hX dJ2_compress_fe38e_31 e6 ?_
        refine os_iinc (v := x1 + 1) hX dJ2_compress_fe38e_32 rfl rfl (by decide) (ozlo (i := 0) (r := x0) rfl) ?_
        dsimp only [List.set]
        refine os_iinc (v := x3 + 1) hX dJ2_compress_fe38e_35 rfl rfl (by decide) (ozlo (i := 2) (r := x2) rfl) ?_
        dsimp only [List.set]
        refine os_iinc (v := x5 + 1) hX dJ2_compress_fe38e_38 rfl rfl (by decide) rfl ?_
        dsimp only [List.set]
        refine os_goto (tgt := 3) hX dJ2_compress_fe38e_41 (by decide) ?_
        refine os_weak hX (lw := [some (va_rf x0), some (.int (x1 + 1)), some (va_rf x2), some (.int (x3 + 1)), some (.int x4), some (.int (x5 + 1)), none]) ⟨rfl, rfl, rfl, rfl, rfl, rfl, trivial⟩ ?_
        exact hk3 _ _ _ _ _ _ _ h
      · rw [if_neg c4] at h
        refine os_iload hX dJ2_compress_fe38e_23 rfl ?_
        exact os_iret hX dJ2_compress_fe38e_25 rfl (Option.some.inj h)
set_option maxHeartbeats 4000000 in
theorem qb_J2_compress_fe38e {κ : oKv} {n : Nat} {call : oCl} {kc : Nat → List Value → oSt → Option Value × oSt → Prop} {v : Option Value × oSt} {X : Nat → zLv → List Value → oSt → Prop} (hX : oSem RJ2 cJ2_compress_fe38e 7 1 (some .int) κ kc v X) (hc : ∀ j av s w, call j av s = some w → kc j av s w) {x0 : Option Nat} {x1 : Int32} {x2 : Option Nat} {x3 : Int32} {x4 : Int32} {σ : oSt} (h : ob_J2_compress_fe38e n call κ x0 x1 x2 x3 x4 σ = some v) : X 0 [some (va_rf x0), some (.int x1), some (va_rf x2), some (.int x3), some (.int x4), none, none] [] σ := by
  rw [ob_J2_compress_fe38e] at h
  refine os_iconst (v := 0) hX dJ2_compress_fe38e_0 (by decide) ?_
  refine os_istore hX dJ2_compress_fe38e_1 (by decide) rfl ?_
  dsimp only [List.set]
  exact ql_J2_compress_fe38e_3 hX hc n _ _ _ _ _ _ _ h
def ob_J2_coderFromArrayLen_85cad (n : Nat) (call : oCl) (κ : oKv) (x0 : Option Nat) (x1 : Int32) (σ : oSt) : oRs :=
  obn (oln2 κ σ x0) fun v1 =>
  ogd (onar .byte ((((x1 - v1).toUInt32 >>> ((31 : Int32).toUInt32 &&& Int32.toUInt32 31)).toInt32).toInt8.toInt32)) (some (some (.int ((((x1 - v1).toUInt32 >>> ((31 : Int32).toUInt32 &&& Int32.toUInt32 31)).toInt32).toInt8.toInt32)), σ))
set_option maxHeartbeats 4000000 in
theorem qb_J2_coderFromArrayLen_85cad {κ : oKv} {n : Nat} {call : oCl} {kc : Nat → List Value → oSt → Option Value × oSt → Prop} {v : Option Value × oSt} {X : Nat → zLv → List Value → oSt → Prop} (hX : oSem RJ2 cJ2_coderFromArrayLen_85cad 2 1 (some .byte) κ kc v X) (hc : ∀ j av s w, call j av s = some w → kc j av s w) {x0 : Option Nat} {x1 : Int32} {σ : oSt} (h : ob_J2_coderFromArrayLen_85cad n call κ x0 x1 σ = some v) : X 0 [some (va_rf x0), some (.int x1)] [] σ := by
  rw [ob_J2_coderFromArrayLen_85cad] at h
  refine os_iload_n hX dJ2_coderFromArrayLen_85cad_0 rfl rfl ?_
  refine os_aload_n (r := x0) hX dJ2_coderFromArrayLen_85cad_1 rfl rfl ?_
  obtain ⟨v1, e2, h⟩ := obn_e h
  refine ow_len (r := x0) hX dJ2_coderFromArrayLen_85cad_2 e2 ?_
  refine os_isub hX dJ2_coderFromArrayLen_85cad_3 ?_
  refine os_bipush (v := 31) hX dJ2_coderFromArrayLen_85cad_4 (by decide) ?_
  refine os_iushr hX dJ2_coderFromArrayLen_85cad_6 ?_
  refine os_i2b hX dJ2_coderFromArrayLen_85cad_7 ?_
  obtain ⟨b3, h⟩ := ogd_e h
  exact os_nret (ty := .byte) hX dJ2_coderFromArrayLen_85cad_8 rfl rfl (znz_ok b3) (Option.some.inj h)
def ob_J0_charAt_5068e (n : Nat) (call : oCl) (κ : oKv) (x0 : Option Nat) (x1 : Int32) (σ : oSt) : oRs :=
  obn (oSt' κ σ x0) fun a1 =>
  oin (call 202 [va_rf x0] σ) fun r5 s3 =>
  if r5 = 0 then
    obn (ovr (ofk κ s3 x0 0)) fun v7 =>
    none
  else
    obn (ovr (ofk κ s3 x0 0)) fun v9 =>
    oin (call 203 [va_rf v9, .int x1] s3) fun r13 s11 =>
    ogd (onar .char r13) (some (some (.int r13), s11))
set_option maxHeartbeats 4000000 in
theorem qb_J0_charAt_5068e {κ : oKv} {n : Nat} {call : oCl} {kc : Nat → List Value → oSt → Option Value × oSt → Prop} {v : Option Value × oSt} {X : Nat → zLv → List Value → oSt → Prop} (hX : oSem RJ0 cJ0_charAt_5068e 2 0 (some .char) κ kc v X) (hc : ∀ j av s w, call j av s = some w → kc j av s w) {x0 : Option Nat} {x1 : Int32} {σ : oSt} (h : ob_J0_charAt_5068e n call κ x0 x1 σ = some v) : X 0 [some (va_rf x0), some (.int x1)] [] σ := by
  rw [ob_J0_charAt_5068e] at h
  refine os_aload_n (r := x0) hX dJ0_charAt_5068e_0 rfl rfl ?_
  obtain ⟨a1, e2, h⟩ := obn_e h
  obtain ⟨r5, s3, e4, h⟩ := oin_e h
  refine oc_RJ0_492 (rb := x0)  hX dJ0_charAt_5068e_1 (Nat.le_of_ble_eq_true rfl) e2 (hc _ _ _ _ e4) ?_
  refine os_if_eq (tgt := 16) hX dJ0_charAt_5068e_4 (by decide) (fun c6 => ?_) (fun c6 => ?_)
  · rw [if_pos c6] at h
    refine os_aload_n (r := x0) hX dJ0_charAt_5068e_16 rfl rfl ?_
    obtain ⟨v7, e8, h⟩ := obn_e h
    refine ow_getV (r := x0) hX dJ0_charAt_5068e_17 rfl oF_RJ0_9 (ovr_e e8) ?_
    refine os_iload_n hX dJ0_charAt_5068e_20 rfl rfl ?_
    cases h
  · rw [if_neg c6] at h
    refine os_aload_n (r := x0) hX dJ0_charAt_5068e_7 rfl rfl ?_
    obtain ⟨v9, e10, h⟩ := obn_e h
    refine ow_getV (r := x0) hX dJ0_charAt_5068e_8 rfl oF_RJ0_9 (ovr_e e10) ?_
    refine os_iload_n hX dJ0_charAt_5068e_11 rfl rfl ?_
    obtain ⟨r13, s11, e12, h⟩ := oin_e h
    refine oc_RJ0_495 (a1 := va_rf v9) (a2 := .int x1) hX dJ0_charAt_5068e_12 (Nat.le_of_ble_eq_true rfl) (hc _ _ _ _ e12) ?_
    obtain ⟨b14, h⟩ := ogd_e h
    exact os_nret (ty := .char) hX dJ0_charAt_5068e_15 rfl rfl (znz_ok b14) (Option.some.inj h)
def ob_J0_isLatin1_aae02 (n : Nat) (call : oCl) (κ : oKv) (x0 : Option Nat) (σ : oSt) : oRs :=
  if (1 : Int32) = 0 then
    some (some (.int 0), σ)
  else
    obn (ovi (ofk κ σ x0 1)) fun v2 =>
    if v2 = 0 then
      some (some (.int 1), σ)
    else
      some (some (.int 0), σ)
set_option maxHeartbeats 4000000 in
theorem qb_J0_isLatin1_aae02 {κ : oKv} {n : Nat} {call : oCl} {kc : Nat → List Value → oSt → Option Value × oSt → Prop} {v : Option Value × oSt} {X : Nat → zLv → List Value → oSt → Prop} (hX : oSem RJ0 cJ0_isLatin1_aae02 1 0 (some .boolean) κ kc v X) (hc : ∀ j av s w, call j av s = some w → kc j av s w) {x0 : Option Nat} {σ : oSt} (h : ob_J0_isLatin1_aae02 n call κ x0 σ = some v) : X 0 [some (va_rf x0)] [] σ := by
  rw [ob_J0_isLatin1_aae02] at h
  refine os_getsC hX dJ0_isLatin1_aae02_0 rfl ?_
  refine os_if_eq (tgt := 17) hX dJ0_isLatin1_aae02_3 (by decide) (fun c1 => ?_) (fun c1 => ?_)
  · rw [if_pos c1] at h
    refine os_iconst (v := 0) hX dJ0_isLatin1_aae02_17 (by decide) ?_
    exact os_nret (ty := .boolean) hX dJ0_isLatin1_aae02_18 rfl rfl (by decide) (Option.some.inj h)
  · rw [if_neg c1] at h
    refine os_aload_n (r := x0) hX dJ0_isLatin1_aae02_6 rfl rfl ?_
    obtain ⟨v2, e3, h⟩ := obn_e h
    refine ow_getCo (r := x0) hX dJ0_isLatin1_aae02_7 rfl oF_RJ0_15 (ovi_e e3) ?_
    refine os_if_ne (tgt := 17) hX dJ0_isLatin1_aae02_10 (by decide) (fun c4 => ?_) (fun c4 => ?_)
    · rw [if_neg c4] at h
      refine os_iconst (v := 0) hX dJ0_isLatin1_aae02_17 (by decide) ?_
      exact os_nret (ty := .boolean) hX dJ0_isLatin1_aae02_18 rfl rfl (by decide) (Option.some.inj h)
    · rw [if_pos c4] at h
      refine os_iconst (v := 1) hX dJ0_isLatin1_aae02_13 (by decide) ?_
      refine os_goto (tgt := 18) hX dJ0_isLatin1_aae02_14 (by decide) ?_
      exact os_nret (ty := .boolean) hX dJ0_isLatin1_aae02_18 rfl rfl (by decide) (Option.some.inj h)
def ob_J1_charAt_3b067 (n : Nat) (call : oCl) (κ : oKv) (x0 : Option Nat) (x1 : Int32) (σ : oSt) : oRs :=
  obn (oln2 κ σ x0) fun v1 =>
  ocv (call 204 [.int x1, .int v1] σ) fun s3 =>
  obn (oai8 κ s3 x0 x1) fun v6 =>
  ogd (onar .char (((v6 &&& 255).toUInt32 % 65536).toInt32)) (some (some (.int (((v6 &&& 255).toUInt32 % 65536).toInt32)), s3))
set_option maxHeartbeats 4000000 in
theorem qb_J1_charAt_3b067 {κ : oKv} {n : Nat} {call : oCl} {kc : Nat → List Value → oSt → Option Value × oSt → Prop} {v : Option Value × oSt} {X : Nat → zLv → List Value → oSt → Prop} (hX : oSem RJ1 cJ1_charAt_3b067 2 1 (some .char) κ kc v X) (hc : ∀ j av s w, call j av s = some w → kc j av s w) {x0 : Option Nat} {x1 : Int32} {σ : oSt} (h : ob_J1_charAt_3b067 n call κ x0 x1 σ = some v) : X 0 [some (va_rf x0), some (.int x1)] [] σ := by
  rw [ob_J1_charAt_3b067] at h
  refine os_iload_n hX dJ1_charAt_3b067_0 rfl rfl ?_
  refine os_aload_n (r := x0) hX dJ1_charAt_3b067_1 rfl rfl ?_
  obtain ⟨v1, e2, h⟩ := obn_e h
  refine ow_len (r := x0) hX dJ1_charAt_3b067_2 e2 ?_
  obtain ⟨s3, e4, h⟩ := ocv_e h
  refine oc_RJ1_9 (a1 := .int x1) (a2 := .int v1) hX dJ1_charAt_3b067_3 (Nat.le_of_ble_eq_true rfl) (hc _ _ _ _ e4) ?_
  refine os_aload_n (r := x0) hX dJ1_charAt_3b067_6 rfl rfl ?_
  refine os_iload_n hX dJ1_charAt_3b067_7 rfl rfl ?_
  obtain ⟨v6, e7, h⟩ := obn_e h
  refine ow_a8 (r := x0) (i := x1) hX dJ1_charAt_3b067_8 e7 ?_
  refine os_sipush (v := 255) hX dJ1_charAt_3b067_9 (by decide) ?_
  refine os_iand hX dJ1_charAt_3b067_12 ?_
  refine os_i2c hX dJ1_charAt_3b067_13 ?_
  obtain ⟨b8, h⟩ := ogd_e h
  exact os_nret (ty := .char) hX dJ1_charAt_3b067_14 rfl rfl (znz_ok b8) (Option.some.inj h)
def ob_J0_checkIndex_df160 (n : Nat) (call : oCl) (κ : oKv) (x0 : Int32) (x1 : Int32) (σ : oSt) : oRs :=
  oin (call 206 [.int x0, .int x1, va_rf κ.2.2.2.2] σ) fun r3 s1 =>
  some (none, s1)
set_option maxHeartbeats 4000000 in
theorem qb_J0_checkIndex_df160 {κ : oKv} {n : Nat} {call : oCl} {kc : Nat → List Value → oSt → Option Value × oSt → Prop} {v : Option Value × oSt} {X : Nat → zLv → List Value → oSt → Prop} (hX : oSem RJ0 cJ0_checkIndex_df160 2 1 none κ kc v X) (hc : ∀ j av s w, call j av s = some w → kc j av s w) {x0 : Int32} {x1 : Int32} {σ : oSt} (h : ob_J0_checkIndex_df160 n call κ x0 x1 σ = some v) : X 0 [some (.int x0), some (.int x1)] [] σ := by
  rw [ob_J0_checkIndex_df160] at h
  refine os_iload_n hX dJ0_checkIndex_df160_0 rfl rfl ?_
  refine os_iload_n hX dJ0_checkIndex_df160_1 rfl rfl ?_
  refine os_getsF hX dJ0_checkIndex_df160_2 rfl ?_
  obtain ⟨r3, s1, e2, h⟩ := oin_e h
  refine oc_RJ0_1059 (a1 := .int x0) (a2 := .int x1) (a3 := va_rf κ.2.2.2.2) hX dJ0_checkIndex_df160_5 (Nat.le_of_ble_eq_true rfl) (hc _ _ _ _ e2) ?_
  refine os_pop hX dJ0_checkIndex_df160_8 rfl ?_
  exact os_vret hX dJ0_checkIndex_df160_9 rfl (Option.some.inj h)
def ob_J15_checkIndex_7cf53 (n : Nat) (call : oCl) (κ : oKv) (x0 : Int32) (x1 : Int32) (σ : oSt) : oRs :=
  oin (call 206 [.int x0, .int x1, va_rf none] σ) fun r3 s1 =>
  some (some (.int r3), s1)
set_option maxHeartbeats 4000000 in
theorem qb_J15_checkIndex_7cf53 {κ : oKv} {n : Nat} {call : oCl} {kc : Nat → List Value → oSt → Option Value × oSt → Prop} {v : Option Value × oSt} {X : Nat → zLv → List Value → oSt → Prop} (hX : oSem RJ15 cJ15_checkIndex_7cf53 2 1 (some .int) κ kc v X) (hc : ∀ j av s w, call j av s = some w → kc j av s w) {x0 : Int32} {x1 : Int32} {σ : oSt} (h : ob_J15_checkIndex_7cf53 n call κ x0 x1 σ = some v) : X 0 [some (.int x0), some (.int x1)] [] σ := by
  rw [ob_J15_checkIndex_7cf53] at h
  refine os_iload_n hX dJ15_checkIndex_7cf53_0 rfl rfl ?_
  refine os_iload_n hX dJ15_checkIndex_7cf53_1 rfl rfl ?_
  refine os_null hX dJ15_checkIndex_7cf53_2 ?_
  obtain ⟨r3, s1, e2, h⟩ := oin_e h
  refine oc_RJ15_105 (a1 := .int x0) (a2 := .int x1) (a3 := va_rf none) hX dJ15_checkIndex_7cf53_3 (Nat.le_of_ble_eq_true rfl) (hc _ _ _ _ e2) ?_
  exact os_iret hX dJ15_checkIndex_7cf53_6 rfl (Option.some.inj h)
def oj_J3_checkIndex_8e157_9 (n : Nat) (call : oCl) (κ : oKv) (x0 : Int32) (x1 : Int32) (x2 : Option Nat) (σ : oSt) : oRs :=
  none
def ob_J3_checkIndex_8e157 (n : Nat) (call : oCl) (κ : oKv) (x0 : Int32) (x1 : Int32) (x2 : Option Nat) (σ : oSt) : oRs :=
  if x0 < 0 then
    oj_J3_checkIndex_8e157_9 n call κ x0 x1 x2 σ
  else
    if x0 < x1 then
      some (some (.int x0), σ)
    else
      oj_J3_checkIndex_8e157_9 n call κ x0 x1 x2 σ
set_option maxHeartbeats 4000000 in
theorem qj_J3_checkIndex_8e157_9 {κ : oKv} {n : Nat} {call : oCl} {kc : Nat → List Value → oSt → Option Value × oSt → Prop} {v : Option Value × oSt} {X : Nat → zLv → List Value → oSt → Prop} (hX : oSem RJ3 cJ3_checkIndex_8e157 3 1 (some .int) κ kc v X) (hc : ∀ j av s w, call j av s = some w → kc j av s w) {x0 : Int32} {x1 : Int32} {x2 : Option Nat} {σ : oSt} (h : oj_J3_checkIndex_8e157_9 n call κ x0 x1 x2 σ = some v) : X 9 [some (.int x0), some (.int x1), some (va_rf x2)] [] σ := by
  rw [oj_J3_checkIndex_8e157_9] at h
  refine os_aload_n (r := x2) hX dJ3_checkIndex_8e157_9 rfl rfl ?_
  refine os_iload_n hX dJ3_checkIndex_8e157_10 rfl rfl ?_
  refine os_iload_n hX dJ3_checkIndex_8e157_11 rfl rfl ?_
  cases h
set_option maxHeartbeats 4000000 in
theorem qb_J3_checkIndex_8e157 {κ : oKv} {n : Nat} {call : oCl} {kc : Nat → List Value → oSt → Option Value × oSt → Prop} {v : Option Value × oSt} {X : Nat → zLv → List Value → oSt → Prop} (hX : oSem RJ3 cJ3_checkIndex_8e157 3 1 (some .int) κ kc v X) (hc : ∀ j av s w, call j av s = some w → kc j av s w) {x0 : Int32} {x1 : Int32} {x2 : Option Nat} {σ : oSt} (h : ob_J3_checkIndex_8e157 n call κ x0 x1 x2 σ = some v) : X 0 [some (.int x0), some (.int x1), some (va_rf x2)] [] σ := by
  rw [ob_J3_checkIndex_8e157] at h
  refine os_iload_n hX dJ3_checkIndex_8e157_0 rfl rfl ?_
  refine os_if_lt (tgt := 9) hX dJ3_checkIndex_8e157_1 (by decide) (fun c1 => ?_) (fun c1 => ?_)
  · rw [if_pos c1] at h
    exact qj_J3_checkIndex_8e157_9 hX hc h
  · rw [if_neg c1] at h
    refine os_iload_n hX dJ3_checkIndex_8e157_4 rfl rfl ?_
    refine os_iload_n hX dJ3_checkIndex_8e157_5 rfl rfl ?_
    refine os_icmp_lt (tgt := 16) hX dJ3_checkIndex_8e157_6 (by decide) (fun c2 => ?_) (fun c2 => ?_)
    · rw [if_pos c2] at h
      refine os_iload_n hX dJ3_checkIndex_8e157_16 rfl rfl ?_
      exact os_iret hX dJ3_checkIndex_8e157_17 rfl (Option.some.inj h)
    · rw [if_neg c2] at h
      exact qj_J3_checkIndex_8e157_9 hX hc h
def ob_J0_length_8abf5 (n : Nat) (call : oCl) (κ : oKv) (x0 : Option Nat) (σ : oSt) : oRs :=
  obn (ovr (ofk κ σ x0 0)) fun v1 =>
  obn (oln2 κ σ v1) fun v3 =>
  obn (oSt' κ σ x0) fun a5 =>
  oin (call 208 [va_rf x0] σ) fun r9 s7 =>
  some (some (.int (v3 >>> (r9 &&& 31))), s7)
set_option maxHeartbeats 4000000 in
theorem qb_J0_length_8abf5 {κ : oKv} {n : Nat} {call : oCl} {kc : Nat → List Value → oSt → Option Value × oSt → Prop} {v : Option Value × oSt} {X : Nat → zLv → List Value → oSt → Prop} (hX : oSem RJ0 cJ0_length_8abf5 1 0 (some .int) κ kc v X) (hc : ∀ j av s w, call j av s = some w → kc j av s w) {x0 : Option Nat} {σ : oSt} (h : ob_J0_length_8abf5 n call κ x0 σ = some v) : X 0 [some (va_rf x0)] [] σ := by
  rw [ob_J0_length_8abf5] at h
  refine os_aload_n (r := x0) hX dJ0_length_8abf5_0 rfl rfl ?_
  obtain ⟨v1, e2, h⟩ := obn_e h
  refine ow_getV (r := x0) hX dJ0_length_8abf5_1 rfl oF_RJ0_9 (ovr_e e2) ?_
  obtain ⟨v3, e4, h⟩ := obn_e h
  refine ow_len (r := v1) hX dJ0_length_8abf5_4 e4 ?_
  refine os_aload_n (r := x0) hX dJ0_length_8abf5_5 rfl rfl ?_
  obtain ⟨a5, e6, h⟩ := obn_e h
  obtain ⟨r9, s7, e8, h⟩ := oin_e h
  refine oc_RJ0_335 (rb := x0)  hX dJ0_length_8abf5_6 (Nat.le_of_ble_eq_true rfl) e6 (hc _ _ _ _ e8) ?_
  refine os_ishr hX dJ0_length_8abf5_9 ?_
  exact os_iret hX dJ0_length_8abf5_10 rfl (Option.some.inj h)
def ob_J0_coder_7d493 (n : Nat) (call : oCl) (κ : oKv) (x0 : Option Nat) (σ : oSt) : oRs :=
  if (1 : Int32) = 0 then
    some (some (.int 1), σ)
  else
    obn (ovi (ofk κ σ x0 1)) fun v2 =>
    ogd (onar .byte v2) (some (some (.int v2), σ))
set_option maxHeartbeats 4000000 in
theorem qb_J0_coder_7d493 {κ : oKv} {n : Nat} {call : oCl} {kc : Nat → List Value → oSt → Option Value × oSt → Prop} {v : Option Value × oSt} {X : Nat → zLv → List Value → oSt → Prop} (hX : oSem RJ0 cJ0_coder_7d493 1 0 (some .byte) κ kc v X) (hc : ∀ j av s w, call j av s = some w → kc j av s w) {x0 : Option Nat} {σ : oSt} (h : ob_J0_coder_7d493 n call κ x0 σ = some v) : X 0 [some (va_rf x0)] [] σ := by
  rw [ob_J0_coder_7d493] at h
  refine os_getsC hX dJ0_coder_7d493_0 rfl ?_
  refine os_if_eq (tgt := 13) hX dJ0_coder_7d493_3 (by decide) (fun c1 => ?_) (fun c1 => ?_)
  · rw [if_pos c1] at h
    refine os_iconst (v := 1) hX dJ0_coder_7d493_13 (by decide) ?_
    exact os_nret (ty := .byte) hX dJ0_coder_7d493_14 rfl rfl (by decide) (Option.some.inj h)
  · rw [if_neg c1] at h
    refine os_aload_n (r := x0) hX dJ0_coder_7d493_6 rfl rfl ?_
    obtain ⟨v2, e3, h⟩ := obn_e h
    refine ow_getCo (r := x0) hX dJ0_coder_7d493_7 rfl oF_RJ0_15 (ovi_e e3) ?_
    refine os_goto (tgt := 14) hX dJ0_coder_7d493_10 (by decide) ?_
    obtain ⟨b4, h⟩ := ogd_e h
    exact os_nret (ty := .byte) hX dJ0_coder_7d493_14 rfl rfl (znz_ok b4) (Option.some.inj h)
def oj_J0_substring_37a41_22 (n : Nat) (call : oCl) (κ : oKv) (x0 : Option Nat) (x1 : Int32) (x2 : Int32) (σ : oSt) : oRs :=
  obn (oSt' κ σ x0) fun a1 =>
  oin (call 202 [va_rf x0] σ) fun r5 s3 =>
  if r5 = 0 then
    obn (ovr (ofk κ s3 x0 0)) fun v7 =>
    none
  else
    obn (ovr (ofk κ s3 x0 0)) fun v9 =>
    orn (call 212 [va_rf v9, .int x1, .int (x2 - x1)] s3) fun r13 s11 =>
    some (some (va_rf r13), s11)
def ob_J0_substring_37a41 (n : Nat) (call : oCl) (κ : oKv) (x0 : Option Nat) (x1 : Int32) (x2 : Int32) (σ : oSt) : oRs :=
  obn (oSt' κ σ x0) fun a1 =>
  oin (call 207 [va_rf x0] σ) fun r5 s3 =>
  ocv (call 210 [.int x1, .int x2, .int r5] s3) fun s6 =>
  if x1 = 0 then
    if x2 = r5 then
      some (some (va_rf x0), s6)
    else
      oj_J0_substring_37a41_22 n call κ x0 x1 x2 s6
  else
    oj_J0_substring_37a41_22 n call κ x0 x1 x2 s6
set_option maxHeartbeats 4000000 in
theorem qj_J0_substring_37a41_22 {κ : oKv} {n : Nat} {call : oCl} {kc : Nat → List Value → oSt → Option Value × oSt → Prop} {v : Option Value × oSt} {X : Nat → zLv → List Value → oSt → Prop} (hX : oSem RJ0 cJ0_substring_37a41 5 0 (some (.object "java/lang/String")) κ kc v X) (hc : ∀ j av s w, call j av s = some w → kc j av s w) {x0 : Option Nat} {x1 : Int32} {x2 : Int32} {σ : oSt} (h : oj_J0_substring_37a41_22 n call κ x0 x1 x2 σ = some v) : X 22 [some (va_rf x0), some (.int x1), some (.int x2), none, none] [] σ := by
  rw [oj_J0_substring_37a41_22] at h
  refine os_iload_n hX dJ0_substring_37a41_22 rfl rfl ?_
  refine os_iload_n hX dJ0_substring_37a41_23 rfl rfl ?_
  refine os_isub hX dJ0_substring_37a41_24 ?_
  refine os_istore hX dJ0_substring_37a41_25 (by decide) rfl ?_
  dsimp only [List.set]
  refine os_aload_n (r := x0) hX dJ0_substring_37a41_27 rfl rfl ?_
  obtain ⟨a1, e2, h⟩ := obn_e h
  obtain ⟨r5, s3, e4, h⟩ := oin_e h
  refine oc_RJ0_492 (rb := x0)  hX dJ0_substring_37a41_28 (Nat.le_of_ble_eq_true rfl) e2 (hc _ _ _ _ e4) ?_
  refine os_if_eq (tgt := 47) hX dJ0_substring_37a41_31 (by decide) (fun c6 => ?_) (fun c6 => ?_)
  · rw [if_pos c6] at h
    refine os_aload_n (r := x0) hX dJ0_substring_37a41_47 rfl rfl ?_
    obtain ⟨v7, e8, h⟩ := obn_e h
    refine ow_getV (r := x0) hX dJ0_substring_37a41_48 rfl oF_RJ0_9 (ovr_e e8) ?_
    refine os_iload_n hX dJ0_substring_37a41_51 rfl rfl ?_
    refine os_iload hX dJ0_substring_37a41_52 rfl ?_
    cases h
  · rw [if_neg c6] at h
    refine os_aload_n (r := x0) hX dJ0_substring_37a41_34 rfl rfl ?_
    obtain ⟨v9, e10, h⟩ := obn_e h
    refine ow_getV (r := x0) hX dJ0_substring_37a41_35 rfl oF_RJ0_9 (ovr_e e10) ?_
    refine os_iload_n hX dJ0_substring_37a41_38 rfl rfl ?_
    refine os_iload hX dJ0_substring_37a41_39 rfl ?_
    obtain ⟨r13, s11, e12, h⟩ := orn_e h
    refine oc_RJ0_685 (a1 := va_rf v9) (a2 := .int x1) (a3 := .int (x2 - x1)) hX dJ0_substring_37a41_41 (Nat.le_of_ble_eq_true rfl) (hc _ _ _ _ e12) ?_
    refine os_goto (tgt := 57) hX dJ0_substring_37a41_44 (by decide) ?_
    exact os_aret (r := r13) hX dJ0_substring_37a41_57 rfl (Option.some.inj h)
set_option maxHeartbeats 4000000 in
theorem qb_J0_substring_37a41 {κ : oKv} {n : Nat} {call : oCl} {kc : Nat → List Value → oSt → Option Value × oSt → Prop} {v : Option Value × oSt} {X : Nat → zLv → List Value → oSt → Prop} (hX : oSem RJ0 cJ0_substring_37a41 5 0 (some (.object "java/lang/String")) κ kc v X) (hc : ∀ j av s w, call j av s = some w → kc j av s w) {x0 : Option Nat} {x1 : Int32} {x2 : Int32} {σ : oSt} (h : ob_J0_substring_37a41 n call κ x0 x1 x2 σ = some v) : X 0 [some (va_rf x0), some (.int x1), some (.int x2), none, none] [] σ := by
  rw [ob_J0_substring_37a41] at h
  refine os_aload_n (r := x0) hX dJ0_substring_37a41_0 rfl rfl ?_
  obtain ⟨a1, e2, h⟩ := obn_e h
  obtain ⟨r5, s3, e4, h⟩ := oin_e h
  refine oc_RJ0_505 (rb := x0)  hX dJ0_substring_37a41_1 (Nat.le_of_ble_eq_true rfl) e2 (hc _ _ _ _ e4) ?_
  refine os_istore_n hX dJ0_substring_37a41_4 rfl (by decide) rfl ?_
  dsimp only [List.set]
  refine os_iload_n hX dJ0_substring_37a41_5 rfl rfl ?_
  refine os_iload_n hX dJ0_substring_37a41_6 rfl rfl ?_
  refine os_iload_n hX dJ0_substring_37a41_7 rfl rfl ?_
  obtain ⟨s6, e7, h⟩ := ocv_e h
  refine oc_RJ0_521 (a1 := .int x1) (a2 := .int x2) (a3 := .int r5) hX dJ0_substring_37a41_8 (Nat.le_of_ble_eq_true rfl) (hc _ _ _ _ e7) ?_
  refine os_iload_n hX dJ0_substring_37a41_11 rfl rfl ?_
  refine os_if_ne (tgt := 22) hX dJ0_substring_37a41_12 (by decide) (fun c9 => ?_) (fun c9 => ?_)
  · rw [if_neg c9] at h
    refine os_weak hX (lw := [some (va_rf x0), some (.int x1), some (.int x2), none, none]) ⟨rfl, rfl, rfl, trivial⟩ ?_
    exact qj_J0_substring_37a41_22 hX hc h
  · rw [if_pos c9] at h
    refine os_iload_n hX dJ0_substring_37a41_15 rfl rfl ?_
    refine os_iload_n hX dJ0_substring_37a41_16 rfl rfl ?_
    refine os_icmp_ne (tgt := 22) hX dJ0_substring_37a41_17 (by decide) (fun c10 => ?_) (fun c10 => ?_)
    · rw [if_neg c10] at h
      refine os_weak hX (lw := [some (va_rf x0), some (.int x1), some (.int x2), none, none]) ⟨rfl, rfl, rfl, trivial⟩ ?_
      exact qj_J0_substring_37a41_22 hX hc h
    · rw [if_pos c10] at h
      refine os_aload_n (r := x0) hX dJ0_substring_37a41_20 rfl rfl ?_
      exact os_aret (r := x0) hX dJ0_substring_37a41_21 rfl (Option.some.inj h)
def ob_J0_checkBoundsBeginEnd_23922 (n : Nat) (call : oCl) (κ : oKv) (x0 : Int32) (x1 : Int32) (x2 : Int32) (σ : oSt) : oRs :=
  oin (call 211 [.int x0, .int x1, .int x2, va_rf κ.2.2.2.2] σ) fun r3 s1 =>
  some (none, s1)
set_option maxHeartbeats 4000000 in
theorem qb_J0_checkBoundsBeginEnd_23922 {κ : oKv} {n : Nat} {call : oCl} {kc : Nat → List Value → oSt → Option Value × oSt → Prop} {v : Option Value × oSt} {X : Nat → zLv → List Value → oSt → Prop} (hX : oSem RJ0 cJ0_checkBoundsBeginEnd_23922 3 1 none κ kc v X) (hc : ∀ j av s w, call j av s = some w → kc j av s w) {x0 : Int32} {x1 : Int32} {x2 : Int32} {σ : oSt} (h : ob_J0_checkBoundsBeginEnd_23922 n call κ x0 x1 x2 σ = some v) : X 0 [some (.int x0), some (.int x1), some (.int x2)] [] σ := by
  rw [ob_J0_checkBoundsBeginEnd_23922] at h
  refine os_iload_n hX dJ0_checkBoundsBeginEnd_23922_0 rfl rfl ?_
  refine os_iload_n hX dJ0_checkBoundsBeginEnd_23922_1 rfl rfl ?_
  refine os_iload_n hX dJ0_checkBoundsBeginEnd_23922_2 rfl rfl ?_
  refine os_getsF hX dJ0_checkBoundsBeginEnd_23922_3 rfl ?_
  obtain ⟨r3, s1, e2, h⟩ := oin_e h
  refine oc_RJ0_1062 (a1 := .int x0) (a2 := .int x1) (a3 := .int x2) (a4 := va_rf κ.2.2.2.2) hX dJ0_checkBoundsBeginEnd_23922_6 (Nat.le_of_ble_eq_true rfl) (hc _ _ _ _ e2) ?_
  refine os_pop hX dJ0_checkBoundsBeginEnd_23922_9 rfl ?_
  exact os_vret hX dJ0_checkBoundsBeginEnd_23922_10 rfl (Option.some.inj h)
def oj_J3_checkFromToIndex_8c36e_14 (n : Nat) (call : oCl) (κ : oKv) (x0 : Int32) (x1 : Int32) (x2 : Int32) (x3 : Option Nat) (σ : oSt) : oRs :=
  none
def ob_J3_checkFromToIndex_8c36e (n : Nat) (call : oCl) (κ : oKv) (x0 : Int32) (x1 : Int32) (x2 : Int32) (x3 : Option Nat) (σ : oSt) : oRs :=
  if x0 < 0 then
    oj_J3_checkFromToIndex_8c36e_14 n call κ x0 x1 x2 x3 σ
  else
    if x1 < x0 then
      oj_J3_checkFromToIndex_8c36e_14 n call κ x0 x1 x2 x3 σ
    else
      if x1 ≤ x2 then
        some (some (.int x0), σ)
      else
        oj_J3_checkFromToIndex_8c36e_14 n call κ x0 x1 x2 x3 σ
set_option maxHeartbeats 4000000 in
theorem qj_J3_checkFromToIndex_8c36e_14 {κ : oKv} {n : Nat} {call : oCl} {kc : Nat → List Value → oSt → Option Value × oSt → Prop} {v : Option Value × oSt} {X : Nat → zLv → List Value → oSt → Prop} (hX : oSem RJ3 cJ3_checkFromToIndex_8c36e 4 1 (some .int) κ kc v X) (hc : ∀ j av s w, call j av s = some w → kc j av s w) {x0 : Int32} {x1 : Int32} {x2 : Int32} {x3 : Option Nat} {σ : oSt} (h : oj_J3_checkFromToIndex_8c36e_14 n call κ x0 x1 x2 x3 σ = some v) : X 14 [some (.int x0), some (.int x1), some (.int x2), some (va_rf x3)] [] σ := by
  rw [oj_J3_checkFromToIndex_8c36e_14] at h
  refine os_aload_n (r := x3) hX dJ3_checkFromToIndex_8c36e_14 rfl rfl ?_
  refine os_iload_n hX dJ3_checkFromToIndex_8c36e_15 rfl rfl ?_
  refine os_iload_n hX dJ3_checkFromToIndex_8c36e_16 rfl rfl ?_
  refine os_iload_n hX dJ3_checkFromToIndex_8c36e_17 rfl rfl ?_
  cases h
set_option maxHeartbeats 4000000 in
theorem qb_J3_checkFromToIndex_8c36e {κ : oKv} {n : Nat} {call : oCl} {kc : Nat → List Value → oSt → Option Value × oSt → Prop} {v : Option Value × oSt} {X : Nat → zLv → List Value → oSt → Prop} (hX : oSem RJ3 cJ3_checkFromToIndex_8c36e 4 1 (some .int) κ kc v X) (hc : ∀ j av s w, call j av s = some w → kc j av s w) {x0 : Int32} {x1 : Int32} {x2 : Int32} {x3 : Option Nat} {σ : oSt} (h : ob_J3_checkFromToIndex_8c36e n call κ x0 x1 x2 x3 σ = some v) : X 0 [some (.int x0), some (.int x1), some (.int x2), some (va_rf x3)] [] σ := by
  rw [ob_J3_checkFromToIndex_8c36e] at h
  refine os_iload_n hX dJ3_checkFromToIndex_8c36e_0 rfl rfl ?_
  refine os_if_lt (tgt := 14) hX dJ3_checkFromToIndex_8c36e_1 (by decide) (fun c1 => ?_) (fun c1 => ?_)
  · rw [if_pos c1] at h
    exact qj_J3_checkFromToIndex_8c36e_14 hX hc h
  · rw [if_neg c1] at h
    refine os_iload_n hX dJ3_checkFromToIndex_8c36e_4 rfl rfl ?_
    refine os_iload_n hX dJ3_checkFromToIndex_8c36e_5 rfl rfl ?_
    refine os_icmp_gt (tgt := 14) hX dJ3_checkFromToIndex_8c36e_6 (by decide) (fun c2 => ?_) (fun c2 => ?_)
    · rw [if_pos c2] at h
      exact qj_J3_checkFromToIndex_8c36e_14 hX hc h
    · rw [if_neg c2] at h
      refine os_iload_n hX dJ3_checkFromToIndex_8c36e_9 rfl rfl ?_
      refine os_iload_n hX dJ3_checkFromToIndex_8c36e_10 rfl rfl ?_
      refine os_icmp_le (tgt := 22) hX dJ3_checkFromToIndex_8c36e_11 (by decide) (fun c3 => ?_) (fun c3 => ?_)
      · rw [if_pos c3] at h
        refine os_iload_n hX dJ3_checkFromToIndex_8c36e_22 rfl rfl ?_
        exact os_iret hX dJ3_checkFromToIndex_8c36e_23 rfl (Option.some.inj h)
      · rw [if_neg c3] at h
        exact qj_J3_checkFromToIndex_8c36e_14 hX hc h
