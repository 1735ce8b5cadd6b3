/-! the methods of the class as plain functions (212 to 244) -/
def ob_J1_newString_b4f7a (n : Nat) (call : oCl) (κ : oKv) (x0 : Option Nat) (x1 : Int32) (x2 : Int32) (σ : oSt) : oRs :=
  if x2 = 0 then
    some (some (va_rf (some (κ.1 4))), σ)
  else
    olet (onew σ (.inr (0, odef 0)) (oq 0).2.2) fun s2 =>
    orn (call 213 [va_rf x0, .int x1, .int (x1 + x2)] s2) fun r6 s4 =>
    obn ((some σ.2.1)) fun a7 =>
    ocv (call 216 [va_rf (some σ.2.1), va_rf r6, .int 0] s4) fun s9 =>
    some (some (va_rf (some σ.2.1)), s9)
set_option maxHeartbeats 4000000 in
theorem qb_J1_newString_b4f7a {κ : oKv} {n : Nat} {call : oCl} {kc : Nat → List Value → oSt → Option Value × oSt → Prop} {v : Option Value × oSt} {X : Nat → zLv → List Value → oSt → Prop} (hX : oSem RJ1 cJ1_newString_b4f7a 3 1 (some (.object "java/lang/String")) κ kc v X) (hc : ∀ j av s w, call j av s = some w → kc j av s w) {x0 : Option Nat} {x1 : Int32} {x2 : Int32} {σ : oSt} (h : ob_J1_newString_b4f7a n call κ x0 x1 x2 σ = some v) : X 0 [some (va_rf x0), some (.int x1), some (.int x2)] [] σ := by
  rw [ob_J1_newString_b4f7a] at h
  refine os_iload_n hX dJ1_newString_b4f7a_0 rfl rfl ?_
  refine os_if_ne (tgt := 7) hX dJ1_newString_b4f7a_1 (by decide) (fun c1 => ?_) (fun c1 => ?_)
  · rw [if_neg c1] at h
    obtain ⟨s2, e3, h⟩ := olet_e h
    refine os_new hX dJ1_newString_b4f7a_7 oN_RJ1_1 ?_
    rw [← e3]
    refine os_dup hX dJ1_newString_b4f7a_10 (ocat (some σ.2.1)) ?_
    refine os_aload_n (r := x0) hX dJ1_newString_b4f7a_11 rfl rfl ?_
    refine os_iload_n hX dJ1_newString_b4f7a_12 rfl rfl ?_
    refine os_iload_n hX dJ1_newString_b4f7a_13 rfl rfl ?_
    refine os_iload_n hX dJ1_newString_b4f7a_14 rfl rfl ?_
    refine os_iadd hX dJ1_newString_b4f7a_15 ?_
    obtain ⟨r6, s4, e5, h⟩ := orn_e h
    refine oc_RJ1_232 (a1 := va_rf x0) (a2 := .int x1) (a3 := .int (x1 + x2)) hX dJ1_newString_b4f7a_16 (by simp only [List.map_cons, List.map_nil, List.sum_cons, List.sum_nil, ocat]; exact Nat.le_of_ble_eq_true rfl) (hc _ _ _ _ e5) ?_
    refine os_iconst (v := 0) hX dJ1_newString_b4f7a_19 (by decide) ?_
    obtain ⟨a7, e8, h⟩ := obn_e h
    obtain ⟨s9, e10, h⟩ := ocv_e h
    refine oc_RJ1_112 (rb := (some σ.2.1)) (a1 := va_rf r6) (a2 := .int 0) hX dJ1_newString_b4f7a_20 (by simp only [List.map_cons, List.map_nil, List.sum_cons, List.sum_nil, ocat]; exact Nat.le_of_ble_eq_true rfl) e8 (hc _ _ _ _ e10) ?_
    exact os_aret (r := (some σ.2.1)) hX dJ1_newString_b4f7a_23 rfl (Option.some.inj h)
  · rw [if_pos c1] at h
    refine os_ldcS (q := (RJ1, 151, "")) hX dJ1_newString_b4f7a_4 (show okt[4]? = some _ from rfl) rfl ?_
    exact os_aret (r := (some (κ.1 4))) hX dJ1_newString_b4f7a_6 rfl (Option.some.inj h)
def oj_J7_copyOfRange_39247_10 (n : Nat) (call : oCl) (κ : oKv) (x0 : Option Nat) (x1 : Int32) (x2 : Int32) (σ : oSt) : oRs :=
  orn (call 214 [va_rf x0, .int x1, .int x2] σ) fun r3 s1 =>
  some (some (va_rf r3), s1)
def ob_J7_copyOfRange_39247 (n : Nat) (call : oCl) (κ : oKv) (x0 : Option Nat) (x1 : Int32) (x2 : Int32) (σ : oSt) : oRs :=
  if x1 = 0 then
    obn (oln2 κ σ x0) fun v2 =>
    if x2 = v2 then
      none
    else
      oj_J7_copyOfRange_39247_10 n call κ x0 x1 x2 σ
  else
    oj_J7_copyOfRange_39247_10 n call κ x0 x1 x2 σ
set_option maxHeartbeats 4000000 in
theorem qj_J7_copyOfRange_39247_10 {κ : oKv} {n : Nat} {call : oCl} {kc : Nat → List Value → oSt → Option Value × oSt → Prop} {v : Option Value × oSt} {X : Nat → zLv → List Value → oSt → Prop} (hX : oSem RJ7 cJ7_copyOfRange_39247 3 1 (some (.array .byte)) κ kc v X) (hc : ∀ j av s w, call j av s = some w → kc j av s w) {x0 : Option Nat} {x1 : Int32} {x2 : Int32} {σ : oSt} (h : oj_J7_copyOfRange_39247_10 n call κ x0 x1 x2 σ = some v) : X 10 [some (va_rf x0), some (.int x1), some (.int x2)] [] σ := by
  rw [oj_J7_copyOfRange_39247_10] at h
  refine os_aload_n (r := x0) hX dJ7_copyOfRange_39247_10 rfl rfl ?_
  refine os_iload_n hX dJ7_copyOfRange_39247_11 rfl rfl ?_
  refine os_iload_n hX dJ7_copyOfRange_39247_12 rfl rfl ?_
  obtain ⟨r3, s1, e2, h⟩ := orn_e h
  refine oc_RJ7_339 (a1 := va_rf x0) (a2 := .int x1) (a3 := .int x2) hX dJ7_copyOfRange_39247_13 (Nat.le_of_ble_eq_true rfl) (hc _ _ _ _ e2) ?_
  exact os_aretA (r := r3) hX dJ7_copyOfRange_39247_16 rfl (Option.some.inj h)
set_option maxHeartbeats 4000000 in
theorem qb_J7_copyOfRange_39247 {κ : oKv} {n : Nat} {call : oCl} {kc : Nat → List Value → oSt → Option Value × oSt → Prop} {v : Option Value × oSt} {X : Nat → zLv → List Value → oSt → Prop} (hX : oSem RJ7 cJ7_copyOfRange_39247 3 1 (some (.array .byte)) κ kc v X) (hc : ∀ j av s w, call j av s = some w → kc j av s w) {x0 : Option Nat} {x1 : Int32} {x2 : Int32} {σ : oSt} (h : ob_J7_copyOfRange_39247 n call κ x0 x1 x2 σ = some v) : X 0 [some (va_rf x0), some (.int x1), some (.int x2)] [] σ := by
  rw [ob_J7_copyOfRange_39247] at h
  refine os_iload_n hX dJ7_copyOfRange_39247_0 rfl rfl ?_
  refine os_if_ne (tgt := 10) hX dJ7_copyOfRange_39247_1 (by decide) (fun c1 => ?_) (fun c1 => ?_)
  · rw [if_neg c1] at h
    exact qj_J7_copyOfRange_39247_10 hX hc h
  · rw [if_pos c1] at h
    refine os_iload_n hX dJ7_copyOfRange_39247_4 rfl rfl ?_
    refine os_aload_n (r := x0) hX dJ7_copyOfRange_39247_5 rfl rfl ?_
    obtain ⟨v2, e3, h⟩ := obn_e h
    refine ow_len (r := x0) hX dJ7_copyOfRange_39247_6 e3 ?_
    refine os_icmp_eq (tgt := 17) hX dJ7_copyOfRange_39247_7 (by decide) (fun c4 => ?_) (fun c4 => ?_)
    · rw [if_pos c4] at h
      refine os_aload_n (r := x0) hX dJ7_copyOfRange_39247_17 rfl rfl ?_
      cases h
    · rw [if_neg c4] at h
      exact qj_J7_copyOfRange_39247_10 hX hc h
def ob_J7_copyOfRangeByte_39247 (n : Nat) (call : oCl) (κ : oKv) (x0 : Option Nat) (x1 : Int32) (x2 : Int32) (σ : oSt) : oRs :=
  ocv (call 215 [.int x1, .int x2] σ) fun s1 =>
  ogd (onn (x2 - x1)) (
  olet (onew s1 (.inl (.byte, (x2 - x1).toNatClampNeg, .inl (fun _ => 0))) (x2 - x1).toNatClampNeg) fun s4 =>
  obn (oln2 κ s4 x0) fun v7 =>
  obn (ocy s4 x0 x1 (some s1.2.1) 0 ((if (x2 - x1) < (v7 - x1) then (x2 - x1) else (v7 - x1)))) fun s9 =>
  some (some (va_rf (some s1.2.1)), s9))
set_option maxHeartbeats 4000000 in
theorem qb_J7_copyOfRangeByte_39247 {κ : oKv} {n : Nat} {call : oCl} {kc : Nat → List Value → oSt → Option Value × oSt → Prop} {v : Option Value × oSt} {X : Nat → zLv → List Value → oSt → Prop} (hX : oSem RJ7 cJ7_copyOfRangeByte_39247 5 1 (some (.array .byte)) κ kc v X) (hc : ∀ j av s w, call j av s = some w → kc j av s w) {x0 : Option Nat} {x1 : Int32} {x2 : Int32} {σ : oSt} (h : ob_J7_copyOfRangeByte_39247 n call κ x0 x1 x2 σ = some v) : X 0 [some (va_rf x0), some (.int x1), some (.int x2), none, none] [] σ := by
  rw [ob_J7_copyOfRangeByte_39247] at h
  refine os_iload_n hX dJ7_copyOfRangeByte_39247_0 rfl rfl ?_
  refine os_iload_n hX dJ7_copyOfRangeByte_39247_1 rfl rfl ?_
  obtain ⟨s1, e2, h⟩ := ocv_e h
  refine oc_RJ7_343 (a1 := .int x1) (a2 := .int x2) hX dJ7_copyOfRangeByte_39247_2 (Nat.le_of_ble_eq_true rfl) (hc _ _ _ _ e2) ?_
  refine os_iload_n hX dJ7_copyOfRangeByte_39247_5 rfl rfl ?_
  refine os_iload_n hX dJ7_copyOfRangeByte_39247_6 rfl rfl ?_
  refine os_isub hX dJ7_copyOfRangeByte_39247_7 ?_
  refine os_istore_n hX dJ7_copyOfRangeByte_39247_8 rfl (by decide) rfl ?_
  dsimp only [List.set]
  refine os_iload_n hX dJ7_copyOfRangeByte_39247_9 rfl rfl ?_
  obtain ⟨b6, h⟩ := ogd_e h
  obtain ⟨s4, e5, h⟩ := olet_e h
  refine os_newB hX dJ7_copyOfRangeByte_39247_10 (onn_e b6).1 (onn_e b6).2 ?_
  rw [← e5]
  refine os_astore (r := (some s1.2.1)) hX dJ7_copyOfRangeByte_39247_12 (by decide) rfl ?_
  dsimp only [List.set]
  refine os_aload_n (r := x0) hX dJ7_copyOfRangeByte_39247_14 rfl rfl ?_
  refine os_iload_n hX dJ7_copyOfRangeByte_39247_15 rfl rfl ?_
  refine os_aload (r := (some s1.2.1)) hX dJ7_copyOfRangeByte_39247_16 rfl ?_
  refine os_iconst (v := 0) hX dJ7_copyOfRangeByte_39247_18 (by decide) ?_
  refine os_aload_n (r := x0) hX dJ7_copyOfRangeByte_39247_19 rfl rfl ?_
  obtain ⟨v7, e8, h⟩ := obn_e h
  refine ow_len (r := x0) hX dJ7_copyOfRangeByte_39247_20 e8 ?_
  refine os_iload_n hX dJ7_copyOfRangeByte_39247_21 rfl rfl ?_
  refine os_isub hX dJ7_copyOfRangeByte_39247_22 ?_
  refine os_iload_n hX dJ7_copyOfRangeByte_39247_23 rfl rfl ?_
  refine os_mmin hX dJ7_copyOfRangeByte_39247_24 ommin_RJ7_304 (by simp only [List.map_cons, List.map_nil, List.sum_cons, List.sum_nil, ocat]; exact Nat.le_of_ble_eq_true rfl) ?_
  obtain ⟨s9, e10, h⟩ := obn_e h
  refine ow_cpy (r0 := x0) (r1 := (some s1.2.1)) (sp := x1) (dp := 0) (n := ((if (x2 - x1) < (v7 - x1) then (x2 - x1) else (v7 - x1)))) hX dJ7_copyOfRangeByte_39247_27 oC_RJ7_150 (Nat.le_of_ble_eq_true rfl) e10 ?_
  refine os_aload (r := (some s1.2.1)) hX dJ7_copyOfRangeByte_39247_30 rfl ?_
  exact os_aretA (r := (some s1.2.1)) hX dJ7_copyOfRangeByte_39247_32 rfl (Option.some.inj h)
def ob_J7_checkLength_df160 (n : Nat) (call : oCl) (κ : oKv) (x0 : Int32) (x1 : Int32) (σ : oSt) : oRs :=
  if x0 ≤ x1 then
    some (none, σ)
  else
    none
set_option maxHeartbeats 4000000 in
theorem qb_J7_checkLength_df160 {κ : oKv} {n : Nat} {call : oCl} {kc : Nat → List Value → oSt → Option Value × oSt → Prop} {v : Option Value × oSt} {X : Nat → zLv → List Value → oSt → Prop} (hX : oSem RJ7 cJ7_checkLength_df160 2 1 none κ kc v X) (hc : ∀ j av s w, call j av s = some w → kc j av s w) {x0 : Int32} {x1 : Int32} {σ : oSt} (h : ob_J7_checkLength_df160 n call κ x0 x1 σ = some v) : X 0 [some (.int x0), some (.int x1)] [] σ := by
  rw [ob_J7_checkLength_df160] at h
  refine os_iload_n hX dJ7_checkLength_df160_0 rfl rfl ?_
  refine os_iload_n hX dJ7_checkLength_df160_1 rfl rfl ?_
  refine os_icmp_ge (tgt := 37) hX dJ7_checkLength_df160_2 (by decide) (fun c1 => ?_) (fun c1 => ?_)
  · rw [if_pos c1] at h
    exact os_vret hX dJ7_checkLength_df160_37 rfl (Option.some.inj h)
  · rw [if_neg c1] at h
    cases h
def ob_J0_init_031fb (n : Nat) (call : oCl) (κ : oKv) (x0 : Option Nat) (x1 : Option Nat) (x2 : Int32) (σ : oSt) : oRs :=
  obn (x0) fun a1 =>
  obn (opf σ x0 0 0 (va_rf x1)) fun s3 =>
  ogd (oby x2) (
  obn (opf s3 x0 0 1 (.int x2)) fun s6 =>
  some (none, s6))
set_option maxHeartbeats 4000000 in
theorem qb_J0_init_031fb {κ : oKv} {n : Nat} {call : oCl} {kc : Nat → List Value → oSt → Option Value × oSt → Prop} {v : Option Value × oSt} {X : Nat → zLv → List Value → oSt → Prop} (hX : oSem RJ0 cJ0_init_031fb 3 2 none κ kc v X) (hc : ∀ j av s w, call j av s = some w → kc j av s w) {x0 : Option Nat} {x1 : Option Nat} {x2 : Int32} {σ : oSt} (h : ob_J0_init_031fb n call κ x0 x1 x2 σ = some v) : X 0 [some (va_rf x0), some (va_rf x1), some (.int x2)] [] σ := by
  rw [ob_J0_init_031fb] at h
  refine os_aload_n (r := x0) hX dJ0_init_031fb_0 rfl rfl ?_
  obtain ⟨a1, e2, h⟩ := obn_e h
  refine ow_oI (r := x0) hX dJ0_init_031fb_1 oI_RJ0_1 (Nat.le_of_ble_eq_true rfl) e2 ?_
  refine os_aload_n (r := x0) hX dJ0_init_031fb_4 rfl rfl ?_
  refine os_aload_n (r := x1) hX dJ0_init_031fb_5 rfl rfl ?_
  obtain ⟨s3, e4, h⟩ := obn_e h
  refine ow_putF (r := x0) (x := va_rf x1) hX dJ0_init_031fb_6 oF_RJ0_9 (by decide) rfl rfl (orf_n (Or.inr ⟨_, oT_0_0⟩) x1) e4 ?_
  refine os_aload_n (r := x0) hX dJ0_init_031fb_9 rfl rfl ?_
  refine os_iload_n hX dJ0_init_031fb_10 rfl rfl ?_
  obtain ⟨b5, h⟩ := ogd_e h
  obtain ⟨s6, e7, h⟩ := obn_e h
  refine ow_putF (r := x0) (x := .int x2) hX dJ0_init_031fb_11 oF_RJ0_15 (by decide) rfl rfl (opn_B oT_0_1 b5) e7 ?_
  exact os_vret hX dJ0_init_031fb_14 rfl (Option.some.inj h)
def oj_J0_equals_9ea2d_36 (n : Nat) (call : oCl) (κ : oKv) (x0 : Option Nat) (x2 : Option Nat) (σ : oSt) : oRs :=
  obn (ovr (ofk κ σ x0 0)) fun v1 =>
  obn (ovr (ofk κ σ x2 0)) fun v3 =>
  oin (call 218 [va_rf v1, va_rf v3] σ) fun r7 s5 =>
  if r7 = 0 then
    some (some (.int 0), s5)
  else
    some (some (.int 1), s5)
def ob_J0_equals_9ea2d (n : Nat) (call : oCl) (κ : oKv) (x0 : Option Nat) (x1 : Option Nat) (σ : oSt) : oRs :=
  if x0 = x1 then
    some (some (.int 1), σ)
  else
    obn (oob σ x1 0) fun v2 =>
    if (1 : Int32) = 0 then
      some (some (.int 0), σ)
    else
      ogd (ocs σ x1 0) (
      if (1 : Int32) = 0 then
        oj_J0_equals_9ea2d_36 n call κ x0 x1 σ
      else
        obn (ovi (ofk κ σ x0 1)) fun v7 =>
        obn (ovi (ofk κ σ x1 1)) fun v9 =>
        if v7 = v9 then
          oj_J0_equals_9ea2d_36 n call κ x0 x1 σ
        else
          some (some (.int 0), σ))
set_option maxHeartbeats 4000000 in
theorem qj_J0_equals_9ea2d_36 {κ : oKv} {n : Nat} {call : oCl} {kc : Nat → List Value → oSt → Option Value × oSt → Prop} {v : Option Value × oSt} {X : Nat → zLv → List Value → oSt → Prop} (hX : oSem RJ0 cJ0_equals_9ea2d 3 0 (some .boolean) κ kc v X) (hc : ∀ j av s w, call j av s = some w → kc j av s w) {x0 : Option Nat} {x2 : Option Nat} {σ : oSt} (h : oj_J0_equals_9ea2d_36 n call κ x0 x2 σ = some v) : X 36 [some (va_rf x0), none, some (va_rf x2)] [] σ := by
  rw [oj_J0_equals_9ea2d_36] at h
  refine os_aload_n (r := x0) hX dJ0_equals_9ea2d_36 rfl rfl ?_
  obtain ⟨v1, e2, h⟩ := obn_e h
  refine ow_getV (r := x0) hX dJ0_equals_9ea2d_37 rfl oF_RJ0_9 (ovr_e e2) ?_
  refine os_aload_n (r := x2) hX dJ0_equals_9ea2d_40 rfl rfl ?_
  obtain ⟨v3, e4, h⟩ := obn_e h
  refine ow_getV (r := x2) hX dJ0_equals_9ea2d_41 rfl oF_RJ0_9 (ovr_e e4) ?_
  obtain ⟨r7, s5, e6, h⟩ := oin_e h
  refine oc_RJ0_541 (a1 := va_rf v1) (a2 := va_rf v3) hX dJ0_equals_9ea2d_44 (Nat.le_of_ble_eq_true rfl) (hc _ _ _ _ e6) ?_
  refine os_if_eq (tgt := 54) hX dJ0_equals_9ea2d_47 (by decide) (fun c8 => ?_) (fun c8 => ?_)
  · rw [if_pos c8] at h
    refine os_iconst (v := 0) hX dJ0_equals_9ea2d_54 (by decide) ?_
    exact os_nret (ty := .boolean) hX dJ0_equals_9ea2d_55 rfl rfl (by decide) (Option.some.inj h)
  · rw [if_neg c8] at h
    refine os_iconst (v := 1) hX dJ0_equals_9ea2d_50 (by decide) ?_
    refine os_goto (tgt := 55) hX dJ0_equals_9ea2d_51 (by decide) ?_
    exact os_nret (ty := .boolean) hX dJ0_equals_9ea2d_55 rfl rfl (by decide) (Option.some.inj h)
set_option maxHeartbeats 4000000 in
theorem qb_J0_equals_9ea2d {κ : oKv} {n : Nat} {call : oCl} {kc : Nat → List Value → oSt → Option Value × oSt → Prop} {v : Option Value × oSt} {X : Nat → zLv → List Value → oSt → Prop} (hX : oSem RJ0 cJ0_equals_9ea2d 3 0 (some .boolean) κ kc v X) (hc : ∀ j av s w, call j av s = some w → kc j av s w) {x0 : Option Nat} {x1 : Option Nat} {σ : oSt} (h : ob_J0_equals_9ea2d n call κ x0 x1 σ = some v) : X 0 [some (va_rf x0), some (va_rf x1), none] [] σ := by
  rw [ob_J0_equals_9ea2d] at h
  refine os_aload_n (r := x0) hX dJ0_equals_9ea2d_0 rfl rfl ?_
  refine os_aload_n (r := x1) hX dJ0_equals_9ea2d_1 rfl rfl ?_
  refine os_acmp_ne (rx := x0) (ry := x1) (tgt := 7) hX dJ0_equals_9ea2d_2 (by decide) (fun c1 => ?_) (fun c1 => ?_)
  · rw [if_neg c1] at h
    refine os_aload_n (r := x1) hX dJ0_equals_9ea2d_7 rfl rfl ?_
    obtain ⟨v2, e3, h⟩ := obn_e h
    refine ow_in (r := x1) hX dJ0_equals_9ea2d_8 oK_RJ0_10 e3 ?_
    refine os_if_eq (tgt := 54) hX dJ0_equals_9ea2d_11 (by decide) (fun c4 => ?_) (fun c4 => ?_)
    · rw [if_pos c4] at h
      refine os_iconst (v := 0) hX dJ0_equals_9ea2d_54 (by decide) ?_
      exact os_nret (ty := .boolean) hX dJ0_equals_9ea2d_55 rfl rfl (by decide) (Option.some.inj h)
    · rw [if_neg c4] at h
      refine os_aload_n (r := x1) hX dJ0_equals_9ea2d_14 rfl rfl ?_
      obtain ⟨b5, h⟩ := ogd_e h
      refine ow_cs (r := x1) hX dJ0_equals_9ea2d_15 oK_RJ0_10 b5 ?_
      refine os_astore_n (r := x1) hX dJ0_equals_9ea2d_18 rfl (by decide) (ozlo (i := 1) (r := x1) rfl) ?_
      dsimp only [List.set]
      refine os_getsC hX dJ0_equals_9ea2d_19 rfl ?_
      refine os_if_eq (tgt := 36) hX dJ0_equals_9ea2d_22 (by decide) (fun c6 => ?_) (fun c6 => ?_)
      · rw [if_pos c6] at h
        refine os_weak hX (lw := [some (va_rf x0), none, some (va_rf x1)]) ⟨rfl, rfl, trivial⟩ ?_
        exact qj_J0_equals_9ea2d_36 hX hc h
      · rw [if_neg c6] at h
        refine os_aload_n (r := x0) hX dJ0_equals_9ea2d_25 rfl rfl ?_
        obtain ⟨v7, e8, h⟩ := obn_e h
        refine ow_getCo (r := x0) hX dJ0_equals_9ea2d_26 rfl oF_RJ0_15 (ovi_e e8) ?_
        refine os_aload_n (r := x1) hX dJ0_equals_9ea2d_29 rfl rfl ?_
        obtain ⟨v9, e10, h⟩ := obn_e h
        refine ow_getCo (r := x1) hX dJ0_equals_9ea2d_30 rfl oF_RJ0_15 (ovi_e e10) ?_
        refine os_icmp_ne (tgt := 54) hX dJ0_equals_9ea2d_33 (by decide) (fun c11 => ?_) (fun c11 => ?_)
        · rw [if_neg c11] at h
          refine os_iconst (v := 0) hX dJ0_equals_9ea2d_54 (by decide) ?_
          exact os_nret (ty := .boolean) hX dJ0_equals_9ea2d_55 rfl rfl (by decide) (Option.some.inj h)
        · rw [if_pos c11] at h
          refine os_weak hX (lw := [some (va_rf x0), none, some (va_rf x1)]) ⟨rfl, rfl, trivial⟩ ?_
          exact qj_J0_equals_9ea2d_36 hX hc h
  · rw [if_pos c1] at h
    refine os_iconst (v := 1) hX dJ0_equals_9ea2d_5 (by decide) ?_
    exact os_nret (ty := .boolean) hX dJ0_equals_9ea2d_6 rfl rfl (by decide) (Option.some.inj h)
def ol_J1_equals_b5fdf_9 (n : Nat) (call : oCl) (κ : oKv) : Nat → Option Nat → Option Nat → Int32 → oSt → oRs
  | 0, _, _, _, _ => none
  | f + 1, x0, x1, x2, σ =>
    obn (oln2 κ σ x0) fun v1 =>
    if v1 ≤ x2 then
      some (some (.int 1), σ)
    else
      obn (oai8 κ σ x0 x2) fun v4 =>
      obn (oai8 κ σ x1 x2) fun v6 =>
      if v4 = v6 then
        ol_J1_equals_b5fdf_9 n call κ f x0 x1 (x2 + 1) σ
      else
        some (some (.int 0), σ)
def ob_J1_equals_b5fdf (n : Nat) (call : oCl) (κ : oKv) (x0 : Option Nat) (x1 : Option Nat) (σ : oSt) : oRs :=
  obn (oln2 κ σ x0) fun v1 =>
  obn (oln2 κ σ x1) fun v3 =>
  if v1 = v3 then
    ol_J1_equals_b5fdf_9 n call κ n x0 x1 0 σ
  else
    some (some (.int 0), σ)
set_option maxHeartbeats 4000000 in
theorem ql_J1_equals_b5fdf_9 {κ : oKv} {n : Nat} {call : oCl} {kc : Nat → List Value → oSt → Option Value × oSt → Prop} {v : Option Value × oSt} {X : Nat → zLv → List Value → oSt → Prop} (hX : oSem RJ1 cJ1_equals_b5fdf 3 1 (some .boolean) κ kc v X) (hc : ∀ j av s w, call j av s = some w → kc j av s w) : ∀ (f : Nat) (x0 : Option Nat) (x1 : Option Nat) (x2 : Int32) (σ : oSt), ol_J1_equals_b5fdf_9 n call κ f x0 x1 x2 σ = some v → X 9 [some (va_rf x0), some (va_rf x1), some (.int x2)] [] σ := by
  intro f
  induction f with
  | zero => intro x0 x1 x2 σ h; cases h
  | succ f hk9 =>
    intro x0 x1 x2 σ h
    rw [ol_J1_equals_b5fdf_9] at h
    refine os_iload_n hX dJ1_equals_b5fdf_9 rfl rfl ?_
    refine os_aload_n (r := x0) hX dJ1_equals_b5fdf_10 rfl rfl ?_
    obtain ⟨v1, e2, h⟩ := obn_e h
    refine ow_len (r := x0) hX dJ1_equals_b5fdf_11 e2 ?_
    refine os_icmp_ge (tgt := 32) hX dJ1_equals_b5fdf_12 (by decide) (fun c3 => ?_) (fun c3 => ?_)
    · rw [if_pos c3] at h
      refine os_iconst (v := 1) hX dJ1_equals_b5fdf_32 (by decide) ?_
      exact os_nret (ty := .boolean) hX dJ1_equals_b5fdf_33 rfl rfl (by decide) (Option.some.inj h)
    · rw [if_neg c3] at h
      refine os_aload_n (r := x0) hX dJ1_equals_b5fdf_15 rfl rfl ?_
      refine os_iload_n hX dJ1_equals_b5fdf_16 rfl rfl ?_
      obtain ⟨v4, e5, h⟩ := obn_e h
      refine ow_a8 (r := x0) (i := x2) hX dJ1_equals_b5fdf_17 e5 ?_
      refine os_aload_n (r := x1) hX dJ1_equals_b5fdf_18 rfl rfl ?_
      refine os_iload_n hX dJ1_equals_b5fdf_19 rfl rfl ?_
      obtain ⟨v6, e7, h⟩ := obn_e h
      refine ow_a8 (r := x1) (i := x2) hX dJ1_equals_b5fdf_20 e7 ?_
      refine os_icmp_eq (tgt := 26) hX dJ1_equals_b5fdf_21 (by decide) (fun c8 => ?_) (fun c8 => ?_)
      · rw [if_pos c8] at h
        refine os_iinc (v := x2 + 1) hX dJ1_equals_b5fdf_26 rfl rfl (by decide) (ozlo (i := 1) (r := x1) rfl) ?_
        dsimp only [List.set]
        refine os_goto (tgt := 9) hX dJ1_equals_b5fdf_29 (by decide) ?_
        exact hk9 _ _ _ _ h
      · rw [if_neg c8] at h
        refine os_iconst (v := 0) hX dJ1_equals_b5fdf_24 (by decide) ?_
        exact os_nret (ty := .boolean) hX dJ1_equals_b5fdf_25 rfl rfl (by decide) (Option.some.inj h)
set_option maxHeartbeats 4000000 in
theorem qb_J1_equals_b5fdf {κ : oKv} {n : Nat} {call : oCl} {kc : Nat → List Value → oSt → Option Value × oSt → Prop} {v : Option Value × oSt} {X : Nat → zLv → List Value → oSt → Prop} (hX : oSem RJ1 cJ1_equals_b5fdf 3 1 (some .boolean) κ kc v X) (hc : ∀ j av s w, call j av s = some w → kc j av s w) {x0 : Option Nat} {x1 : Option Nat} {σ : oSt} (h : ob_J1_equals_b5fdf n call κ x0 x1 σ = some v) : X 0 [some (va_rf x0), some (va_rf x1), none] [] σ := by
  rw [ob_J1_equals_b5fdf] at h
  refine os_aload_n (r := x0) hX dJ1_equals_b5fdf_0 rfl rfl ?_
  obtain ⟨v1, e2, h⟩ := obn_e h
  refine ow_len (r := x0) hX dJ1_equals_b5fdf_1 e2 ?_
  refine os_aload_n (r := x1) hX dJ1_equals_b5fdf_2 rfl rfl ?_
  obtain ⟨v3, e4, h⟩ := obn_e h
  refine ow_len (r := x1) hX dJ1_equals_b5fdf_3 e4 ?_
  refine os_icmp_ne (tgt := 34) hX dJ1_equals_b5fdf_4 (by decide) (fun c5 => ?_) (fun c5 => ?_)
  · rw [if_neg c5] at h
    refine os_iconst (v := 0) hX dJ1_equals_b5fdf_34 (by decide) ?_
    exact os_nret (ty := .boolean) hX dJ1_equals_b5fdf_35 rfl rfl (by decide) (Option.some.inj h)
  · rw [if_pos c5] at h
    refine os_iconst (v := 0) hX dJ1_equals_b5fdf_7 (by decide) ?_
    refine os_istore_n hX dJ1_equals_b5fdf_8 rfl (by decide) (ozlo (i := 1) (r := x1) rfl) ?_
    dsimp only [List.set]
    exact ql_J1_equals_b5fdf_9 hX hc n _ _ _ _ h
def ob_J0_indexOf_0f7a4 (n : Nat) (call : oCl) (κ : oKv) (x0 : Option Nat) (x1 : Int32) (σ : oSt) : oRs :=
  obn (oSt' κ σ x0) fun a1 =>
  oin (call 220 [va_rf x0, .int x1, .int 0] σ) fun r5 s3 =>
  some (some (.int r5), s3)
set_option maxHeartbeats 4000000 in
theorem qb_J0_indexOf_0f7a4 {κ : oKv} {n : Nat} {call : oCl} {kc : Nat → List Value → oSt → Option Value × oSt → Prop} {v : Option Value × oSt} {X : Nat → zLv → List Value → oSt → Prop} (hX : oSem RJ0 cJ0_indexOf_0f7a4 2 0 (some .int) κ kc v X) (hc : ∀ j av s w, call j av s = some w → kc j av s w) {x0 : Option Nat} {x1 : Int32} {σ : oSt} (h : ob_J0_indexOf_0f7a4 n call κ x0 x1 σ = some v) : X 0 [some (va_rf x0), some (.int x1)] [] σ := by
  rw [ob_J0_indexOf_0f7a4] at h
  refine os_aload_n (r := x0) hX dJ0_indexOf_0f7a4_0 rfl rfl ?_
  refine os_iload_n hX dJ0_indexOf_0f7a4_1 rfl rfl ?_
  refine os_iconst (v := 0) hX dJ0_indexOf_0f7a4_2 (by decide) ?_
  obtain ⟨a1, e2, h⟩ := obn_e h
  obtain ⟨r5, s3, e4, h⟩ := oin_e h
  refine oc_RJ0_633 (rb := x0) (a1 := .int x1) (a2 := .int 0) hX dJ0_indexOf_0f7a4_3 (Nat.le_of_ble_eq_true rfl) e2 (hc _ _ _ _ e4) ?_
  exact os_iret hX dJ0_indexOf_0f7a4_6 rfl (Option.some.inj h)
def ob_J0_indexOf_7cf53 (n : Nat) (call : oCl) (κ : oKv) (x0 : Option Nat) (x1 : Int32) (x2 : Int32) (σ : oSt) : oRs :=
  obn (oSt' κ σ x0) fun a1 =>
  oin (call 202 [va_rf x0] σ) fun r5 s3 =>
  if r5 = 0 then
    obn (ovr (ofk κ s3 x0 0)) fun v7 =>
    obn (oSt' κ s3 x0) fun a9 =>
    oin (call 207 [va_rf x0] s3) fun r13 s11 =>
    none
  else
    obn (ovr (ofk κ s3 x0 0)) fun v14 =>
    obn (oSt' κ s3 x0) fun a16 =>
    oin (call 207 [va_rf x0] s3) fun r20 s18 =>
    oin (call 221 [va_rf v14, .int x1, .int x2, .int r20] s18) fun r23 s21 =>
    some (some (.int r23), s21)
set_option maxHeartbeats 4000000 in
theorem qb_J0_indexOf_7cf53 {κ : oKv} {n : Nat} {call : oCl} {kc : Nat → List Value → oSt → Option Value × oSt → Prop} {v : Option Value × oSt} {X : Nat → zLv → List Value → oSt → Prop} (hX : oSem RJ0 cJ0_indexOf_7cf53 3 0 (some .int) κ kc v X) (hc : ∀ j av s w, call j av s = some w → kc j av s w) {x0 : Option Nat} {x1 : Int32} {x2 : Int32} {σ : oSt} (h : ob_J0_indexOf_7cf53 n call κ x0 x1 x2 σ = some v) : X 0 [some (va_rf x0), some (.int x1), some (.int x2)] [] σ := by
  rw [ob_J0_indexOf_7cf53] at h
  refine os_aload_n (r := x0) hX dJ0_indexOf_7cf53_0 rfl rfl ?_
  obtain ⟨a1, e2, h⟩ := obn_e h
  obtain ⟨r5, s3, e4, h⟩ := oin_e h
  refine oc_RJ0_492 (rb := x0)  hX dJ0_indexOf_7cf53_1 (Nat.le_of_ble_eq_true rfl) e2 (hc _ _ _ _ e4) ?_
  refine os_if_eq (tgt := 23) hX dJ0_indexOf_7cf53_4 (by decide) (fun c6 => ?_) (fun c6 => ?_)
  · rw [if_pos c6] at h
    refine os_aload_n (r := x0) hX dJ0_indexOf_7cf53_23 rfl rfl ?_
    obtain ⟨v7, e8, h⟩ := obn_e h
    refine ow_getV (r := x0) hX dJ0_indexOf_7cf53_24 rfl oF_RJ0_9 (ovr_e e8) ?_
    refine os_iload_n hX dJ0_indexOf_7cf53_27 rfl rfl ?_
    refine os_iload_n hX dJ0_indexOf_7cf53_28 rfl rfl ?_
    refine os_aload_n (r := x0) hX dJ0_indexOf_7cf53_29 rfl rfl ?_
    obtain ⟨a9, e10, h⟩ := obn_e h
    obtain ⟨r13, s11, e12, h⟩ := oin_e h
    refine oc_RJ0_505 (rb := x0)  hX dJ0_indexOf_7cf53_30 (by simp only [List.map_cons, List.map_nil, List.sum_cons, List.sum_nil, ocat]; exact Nat.le_of_ble_eq_true rfl) e10 (hc _ _ _ _ e12) ?_
    cases h
  · rw [if_neg c6] at h
    refine os_aload_n (r := x0) hX dJ0_indexOf_7cf53_7 rfl rfl ?_
    obtain ⟨v14, e15, h⟩ := obn_e h
    refine ow_getV (r := x0) hX dJ0_indexOf_7cf53_8 rfl oF_RJ0_9 (ovr_e e15) ?_
    refine os_iload_n hX dJ0_indexOf_7cf53_11 rfl rfl ?_
    refine os_iload_n hX dJ0_indexOf_7cf53_12 rfl rfl ?_
    refine os_aload_n (r := x0) hX dJ0_indexOf_7cf53_13 rfl rfl ?_
    obtain ⟨a16, e17, h⟩ := obn_e h
    obtain ⟨r20, s18, e19, h⟩ := oin_e h
    refine oc_RJ0_505 (rb := x0)  hX dJ0_indexOf_7cf53_14 (by simp only [List.map_cons, List.map_nil, List.sum_cons, List.sum_nil, ocat]; exact Nat.le_of_ble_eq_true rfl) e17 (hc _ _ _ _ e19) ?_
    obtain ⟨r23, s21, e22, h⟩ := oin_e h
    refine oc_RJ0_637 (a1 := va_rf v14) (a2 := .int x1) (a3 := .int x2) (a4 := .int r20) hX dJ0_indexOf_7cf53_17 (Nat.le_of_ble_eq_true rfl) (hc _ _ _ _ e22) ?_
    refine os_goto (tgt := 36) hX dJ0_indexOf_7cf53_20 (by decide) ?_
    exact os_iret hX dJ0_indexOf_7cf53_36 rfl (Option.some.inj h)
def ob_J1_indexOf_4cfef (n : Nat) (call : oCl) (κ : oKv) (x0 : Option Nat) (x1 : Int32) (x2 : Int32) (x3 : Int32) (σ : oSt) : oRs :=
  oin (call 222 [.int x1] σ) fun r3 s1 =>
  if r3 = 0 then
    some (some (.int (-1)), s1)
  else
    obn (oln2 κ s1 x0) fun v5 =>
    if (if x2 < 0 then 0 else x2) < ((if v5 < x3 then v5 else x3)) then
      oin (call 223 [va_rf x0, .int x1, .int (if x2 < 0 then 0 else x2), .int ((if v5 < x3 then v5 else x3))] s1) fun r10 s8 =>
      some (some (.int r10), s8)
    else
      some (some (.int (-1)), s1)
set_option maxHeartbeats 4000000 in
theorem qb_J1_indexOf_4cfef {κ : oKv} {n : Nat} {call : oCl} {kc : Nat → List Value → oSt → Option Value × oSt → Prop} {v : Option Value × oSt} {X : Nat → zLv → List Value → oSt → Prop} (hX : oSem RJ1 cJ1_indexOf_4cfef 4 1 (some .int) κ kc v X) (hc : ∀ j av s w, call j av s = some w → kc j av s w) {x0 : Option Nat} {x1 : Int32} {x2 : Int32} {x3 : Int32} {σ : oSt} (h : ob_J1_indexOf_4cfef n call κ x0 x1 x2 x3 σ = some v) : X 0 [some (va_rf x0), some (.int x1), some (.int x2), some (.int x3)] [] σ := by
  rw [ob_J1_indexOf_4cfef] at h
  refine os_iload_n hX dJ1_indexOf_4cfef_0 rfl rfl ?_
  obtain ⟨r3, s1, e2, h⟩ := oin_e h
  refine oc_RJ1_88 (a1 := .int x1) hX dJ1_indexOf_4cfef_1 (Nat.le_of_ble_eq_true rfl) (hc _ _ _ _ e2) ?_
  refine os_if_ne (tgt := 9) hX dJ1_indexOf_4cfef_4 (by decide) (fun c4 => ?_) (fun c4 => ?_)
  · rw [if_neg c4] at h
    refine os_iload_n hX dJ1_indexOf_4cfef_9 rfl rfl ?_
    refine os_iconst (v := 0) hX dJ1_indexOf_4cfef_10 (by decide) ?_
    refine os_mmax hX dJ1_indexOf_4cfef_11 ommax_RJ1_92 (Nat.le_of_ble_eq_true rfl) ?_
    refine os_istore_n hX dJ1_indexOf_4cfef_14 rfl (by decide) rfl ?_
    dsimp only [List.set]
    refine os_iload_n hX dJ1_indexOf_4cfef_15 rfl rfl ?_
    refine os_aload_n (r := x0) hX dJ1_indexOf_4cfef_16 rfl rfl ?_
    obtain ⟨v5, e6, h⟩ := obn_e h
    refine ow_len (r := x0) hX dJ1_indexOf_4cfef_17 e6 ?_
    refine os_mmin hX dJ1_indexOf_4cfef_18 ommin_RJ1_38 (Nat.le_of_ble_eq_true rfl) ?_
    refine os_istore_n hX dJ1_indexOf_4cfef_21 rfl (by decide) rfl ?_
    dsimp only [List.set]
    refine os_iload_n hX dJ1_indexOf_4cfef_22 rfl rfl ?_
    refine os_iload_n hX dJ1_indexOf_4cfef_23 rfl rfl ?_
    refine os_icmp_lt (tgt := 29) hX dJ1_indexOf_4cfef_24 (by decide) (fun c7 => ?_) (fun c7 => ?_)
    · rw [if_pos c7] at h
      refine os_aload_n (r := x0) hX dJ1_indexOf_4cfef_29 rfl rfl ?_
      refine os_iload_n hX dJ1_indexOf_4cfef_30 rfl rfl ?_
      refine os_iload_n hX dJ1_indexOf_4cfef_31 rfl rfl ?_
      refine os_iload_n hX dJ1_indexOf_4cfef_32 rfl rfl ?_
      obtain ⟨r10, s8, e9, h⟩ := oin_e h
      refine oc_RJ1_95 (a1 := va_rf x0) (a2 := .int x1) (a3 := .int (if x2 < 0 then 0 else x2)) (a4 := .int ((if v5 < x3 then v5 else x3))) hX dJ1_indexOf_4cfef_33 (Nat.le_of_ble_eq_true rfl) (hc _ _ _ _ e9) ?_
      exact os_iret hX dJ1_indexOf_4cfef_36 rfl (Option.some.inj h)
    · rw [if_neg c7] at h
      refine os_iconst (v := (-1)) hX dJ1_indexOf_4cfef_27 (by decide) ?_
      exact os_iret hX dJ1_indexOf_4cfef_28 rfl (Option.some.inj h)
  · rw [if_pos c4] at h
    refine os_iconst (v := (-1)) hX dJ1_indexOf_4cfef_7 (by decide) ?_
    exact os_iret hX dJ1_indexOf_4cfef_8 rfl (Option.some.inj h)
def ob_J1_canEncode_9a6ad (n : Nat) (call : oCl) (κ : oKv) (x0 : Int32) (σ : oSt) : oRs :=
  if x0 < 0 then
    some (some (.int 0), σ)
  else
    if 255 < x0 then
      some (some (.int 0), σ)
    else
      some (some (.int 1), σ)
set_option maxHeartbeats 4000000 in
theorem qb_J1_canEncode_9a6ad {κ : oKv} {n : Nat} {call : oCl} {kc : Nat → List Value → oSt → Option Value × oSt → Prop} {v : Option Value × oSt} {X : Nat → zLv → List Value → oSt → Prop} (hX : oSem RJ1 cJ1_canEncode_9a6ad 1 1 (some .boolean) κ kc v X) (hc : ∀ j av s w, call j av s = some w → kc j av s w) {x0 : Int32} {σ : oSt} (h : ob_J1_canEncode_9a6ad n call κ x0 σ = some v) : X 0 [some (.int x0)] [] σ := by
  rw [ob_J1_canEncode_9a6ad] at h
  refine os_iload_n hX dJ1_canEncode_9a6ad_0 rfl rfl ?_
  refine os_if_lt (tgt := 15) hX dJ1_canEncode_9a6ad_1 (by decide) (fun c1 => ?_) (fun c1 => ?_)
  · rw [if_pos c1] at h
    refine os_iconst (v := 0) hX dJ1_canEncode_9a6ad_15 (by decide) ?_
    exact os_nret (ty := .boolean) hX dJ1_canEncode_9a6ad_16 rfl rfl (by decide) (Option.some.inj h)
  · rw [if_neg c1] at h
    refine os_iload_n hX dJ1_canEncode_9a6ad_4 rfl rfl ?_
    refine os_sipush (v := 255) hX dJ1_canEncode_9a6ad_5 (by decide) ?_
    refine os_icmp_gt (tgt := 15) hX dJ1_canEncode_9a6ad_8 (by decide) (fun c2 => ?_) (fun c2 => ?_)
    · rw [if_pos c2] at h
      refine os_iconst (v := 0) hX dJ1_canEncode_9a6ad_15 (by decide) ?_
      exact os_nret (ty := .boolean) hX dJ1_canEncode_9a6ad_16 rfl rfl (by decide) (Option.some.inj h)
    · rw [if_neg c2] at h
      refine os_iconst (v := 1) hX dJ1_canEncode_9a6ad_11 (by decide) ?_
      refine os_goto (tgt := 16) hX dJ1_canEncode_9a6ad_12 (by decide) ?_
      exact os_nret (ty := .boolean) hX dJ1_canEncode_9a6ad_16 rfl rfl (by decide) (Option.some.inj h)
def ol_J1_indexOfChar_4cfef_7 (n : Nat) (call : oCl) (κ : oKv) : Nat → Option Nat → Int32 → Int32 → Int32 → oSt → oRs
  | 0, _, _, _, _, _ => none
  | f + 1, x0, x3, x4, x5, σ =>
    if x3 ≤ x5 then
      some (some (.int (-1)), σ)
    else
      obn (oai8 κ σ x0 x5) fun v2 =>
      if v2 = x4 then
        some (some (.int x5), σ)
      else
        ol_J1_indexOfChar_4cfef_7 n call κ f x0 x3 x4 (x5 + 1) σ
def ob_J1_indexOfChar_4cfef (n : Nat) (call : oCl) (κ : oKv) (x0 : Option Nat) (x1 : Int32) (x2 : Int32) (x3 : Int32) (σ : oSt) : oRs :=
  ol_J1_indexOfChar_4cfef_7 n call κ n x0 x3 x1.toInt8.toInt32 x2 σ
set_option maxHeartbeats 4000000 in
theorem ql_J1_indexOfChar_4cfef_7 {κ : oKv} {n : Nat} {call : oCl} {kc : Nat → List Value → oSt → Option Value × oSt → Prop} {v : Option Value × oSt} {X : Nat → zLv → List Value → oSt → Prop} (hX : oSem RJ1 cJ1_indexOfChar_4cfef 6 1 (some .int) κ kc v X) (hc : ∀ j av s w, call j av s = some w → kc j av s w) : ∀ (f : Nat) (x0 : Option Nat) (x3 : Int32) (x4 : Int32) (x5 : Int32) (σ : oSt), ol_J1_indexOfChar_4cfef_7 n call κ f x0 x3 x4 x5 σ = some v → X 7 [some (va_rf x0), none, none, some (.int x3), some (.int x4), some (.int x5)] [] σ := by
  intro f
  induction f with
  | zero => intro x0 x3 x4 x5 σ h; cases h
  | succ f hk7 =>
    intro x0 x3 x4 x5 σ h
    rw [ol_J1_indexOfChar_4cfef_7] at h
    refine os_iload hX dJ1_indexOfChar_4cfef_7 rfl ?_
    refine os_iload_n hX dJ1_indexOfChar_4cfef_9 rfl rfl ?_
    refine os_icmp_ge (tgt := 31) hX dJ1_indexOfChar_4cfef_10 (by decide) (fun c1 => ?_) (fun c1 => ?_)
    · rw [if_pos c1] at h
      refine os_iconst (v := (-1)) hX dJ1_indexOfChar_4cfef_31 (by decide) ?_
      exact os_iret hX dJ1_indexOfChar_4cfef_32 rfl (Option.some.inj h)
    · rw [if_neg c1] at h
      refine os_aload_n (r := x0) hX dJ1_indexOfChar_4cfef_13 rfl rfl ?_
      refine os_iload hX dJ1_indexOfChar_4cfef_14 rfl ?_
      obtain ⟨v2, e3, h⟩ := obn_e h
      refine ow_a8 (r := x0) (i := x5) hX dJ1_indexOfChar_4cfef_16 e3 ?_
      refine os_iload hX dJ1_indexOfChar_4cfef_17 rfl ?_
      refine os_icmp_ne (tgt := 25) hX dJ1_indexOfChar_4cfef_19 (by decide) (fun c4 => ?_) (fun c4 => ?_)
      · rw [if_neg c4] at h
        refine os_iinc (v := x5 + 1) hX dJ1_indexOfChar_4cfef_25 rfl rfl (by decide) rfl ?_
        dsimp only [List.set]
        refine os_goto (tgt := 7) hX dJ1_indexOfChar_4cfef_28 (by decide) ?_
        exact hk7 _ _ _ _ _ h
      · rw [if_pos c4] at h
        refine os_iload hX dJ1_indexOfChar_4cfef_22 rfl ?_
        exact os_iret hX dJ1_indexOfChar_4cfef_24 rfl (Option.some.inj h)
set_option maxHeartbeats 4000000 in
theorem qb_J1_indexOfChar_4cfef {κ : oKv} {n : Nat} {call : oCl} {kc : Nat → List Value → oSt → Option Value × oSt → Prop} {v : Option Value × oSt} {X : Nat → zLv → List Value → oSt → Prop} (hX : oSem RJ1 cJ1_indexOfChar_4cfef 6 1 (some .int) κ kc v X) (hc : ∀ j av s w, call j av s = some w → kc j av s w) {x0 : Option Nat} {x1 : Int32} {x2 : Int32} {x3 : Int32} {σ : oSt} (h : ob_J1_indexOfChar_4cfef n call κ x0 x1 x2 x3 σ = some v) : X 0 [some (va_rf x0), some (.int x1), some (.int x2), some (.int x3), none, none] [] σ := by
  rw [ob_J1_indexOfChar_4cfef] at h
  refine os_iload_n hX dJ1_indexOfChar_4cfef_0 rfl rfl ?_
  refine os_i2b hX dJ1_indexOfChar_4cfef_1 ?_
  refine os_istore hX dJ1_indexOfChar_4cfef_2 (by decide) rfl ?_
  dsimp only [List.set]
  refine os_iload_n hX dJ1_indexOfChar_4cfef_4 rfl rfl ?_
  refine os_istore hX dJ1_indexOfChar_4cfef_5 (by decide) rfl ?_
  dsimp only [List.set]
  refine os_weak hX (lw := [some (va_rf x0), none, none, some (.int x3), some (.int x1.toInt8.toInt32), some (.int x2)]) ⟨rfl, rfl, rfl, rfl, trivial⟩ ?_
  exact ql_J1_indexOfChar_4cfef_7 hX hc n _ _ _ _ _ h
def ob_Jx4a65c_init_da8c8 (n : Nat) (call : oCl) (κ : oKv) (x0 : Option Nat) (σ : oSt) : oRs :=
  obn (x0) fun a1 =>
  ocv (call 225 [va_rf x0] σ) fun s3 =>
  obn (opf s3 x0 1 1 (va_rf (some κ.2.2.1))) fun s6 =>
  some (none, s6)
set_option maxHeartbeats 4000000 in
theorem qb_Jx4a65c_init_da8c8 {κ : oKv} {n : Nat} {call : oCl} {kc : Nat → List Value → oSt → Option Value × oSt → Prop} {v : Option Value × oSt} {X : Nat → zLv → List Value → oSt → Prop} (hX : oSem RJx4a65c cJx4a65c_init_da8c8 1 2 none κ kc v X) (hc : ∀ j av s w, call j av s = some w → kc j av s w) {x0 : Option Nat} {σ : oSt} (h : ob_Jx4a65c_init_da8c8 n call κ x0 σ = some v) : X 0 [some (va_rf x0)] [] σ := by
  rw [ob_Jx4a65c_init_da8c8] at h
  refine os_aload_n (r := x0) hX dJx4a65c_init_da8c8_0 rfl rfl ?_
  obtain ⟨a1, e2, h⟩ := obn_e h
  obtain ⟨s3, e4, h⟩ := ocv_e h
  refine oc_RJx4a65c_1 (rb := x0)  hX dJx4a65c_init_da8c8_1 (Nat.le_of_ble_eq_true rfl) e2 (hc _ _ _ _ e4) ?_
  refine os_aload_n (r := x0) hX dJx4a65c_init_da8c8_4 rfl rfl ?_
  refine os_getsE hX dJx4a65c_init_da8c8_5 rfl ?_
  obtain ⟨s6, e7, h⟩ := obn_e h
  refine ow_put (r := x0) (x := va_rf (some κ.2.2.1)) hX dJx4a65c_init_da8c8_8 oF_RJx4a65c_9 (by decide) (orf_n (Or.inr ⟨_, oT_1_1⟩) (some κ.2.2.1)) e7 ?_
  exact os_vret hX dJx4a65c_init_da8c8_11 rfl (Option.some.inj h)
def ob_Jxc12de_init_da8c8 (n : Nat) (call : oCl) (κ : oKv) (x0 : Option Nat) (σ : oSt) : oRs :=
  obn (x0) fun a1 =>
  ocv (call 226 [va_rf x0] σ) fun s3 =>
  obn (opf s3 x0 1 0 (.int 0)) fun s6 =>
  some (none, s6)
set_option maxHeartbeats 4000000 in
theorem qb_Jxc12de_init_da8c8 {κ : oKv} {n : Nat} {call : oCl} {kc : Nat → List Value → oSt → Option Value × oSt → Prop} {v : Option Value × oSt} {X : Nat → zLv → List Value → oSt → Prop} (hX : oSem RJxc12de cJxc12de_init_da8c8 1 2 none κ kc v X) (hc : ∀ j av s w, call j av s = some w → kc j av s w) {x0 : Option Nat} {σ : oSt} (h : ob_Jxc12de_init_da8c8 n call κ x0 σ = some v) : X 0 [some (va_rf x0)] [] σ := by
  rw [ob_Jxc12de_init_da8c8] at h
  refine os_aload_n (r := x0) hX dJxc12de_init_da8c8_0 rfl rfl ?_
  obtain ⟨a1, e2, h⟩ := obn_e h
  obtain ⟨s3, e4, h⟩ := ocv_e h
  refine oc_RJxc12de_1 (rb := x0)  hX dJxc12de_init_da8c8_1 (Nat.le_of_ble_eq_true rfl) e2 (hc _ _ _ _ e4) ?_
  refine os_aload_n (r := x0) hX dJxc12de_init_da8c8_4 rfl rfl ?_
  refine os_iconst (v := 0) hX dJxc12de_init_da8c8_5 (by decide) ?_
  obtain ⟨s6, e7, h⟩ := obn_e h
  refine ow_put (r := x0) (x := .int 0) hX dJxc12de_init_da8c8_6 oF_RJxc12de_7 (by decide) (opn_I oT_1_0) e7 ?_
  exact os_vret hX dJxc12de_init_da8c8_9 rfl (Option.some.inj h)
def ob_Jxa1e45_init_da8c8 (n : Nat) (call : oCl) (κ : oKv) (x0 : Option Nat) (σ : oSt) : oRs :=
  obn (x0) fun a1 =>
  some (none, σ)
set_option maxHeartbeats 4000000 in
theorem qb_Jxa1e45_init_da8c8 {κ : oKv} {n : Nat} {call : oCl} {kc : Nat → List Value → oSt → Option Value × oSt → Prop} {v : Option Value × oSt} {X : Nat → zLv → List Value → oSt → Prop} (hX : oSem RJxa1e45 cJxa1e45_init_da8c8 1 2 none κ kc v X) (hc : ∀ j av s w, call j av s = some w → kc j av s w) {x0 : Option Nat} {σ : oSt} (h : ob_Jxa1e45_init_da8c8 n call κ x0 σ = some v) : X 0 [some (va_rf x0)] [] σ := by
  rw [ob_Jxa1e45_init_da8c8] at h
  refine os_aload_n (r := x0) hX dJxa1e45_init_da8c8_0 rfl rfl ?_
  obtain ⟨a1, e2, h⟩ := obn_e h
  refine ow_oI (r := x0) hX dJxa1e45_init_da8c8_1 oI_RJxa1e45_1 (Nat.le_of_ble_eq_true rfl) e2 ?_
  exact os_vret hX dJxa1e45_init_da8c8_4 rfl (Option.some.inj h)
def ob_Jx4a65c_add_9ea2d (n : Nat) (call : oCl) (κ : oKv) (x0 : Option Nat) (x1 : Option Nat) (σ : oSt) : oRs :=
  obn (ovi (ofd σ x0 1 0)) fun v1 =>
  obn (opf σ x0 1 0 (.int (v1 + 1))) fun s3 =>
  obn (ovr (ofd s3 x0 1 1)) fun v5 =>
  obn (ovi (ofd s3 x0 1 2)) fun v7 =>
  obn (oob s3 x0 1) fun a9 =>
  ocv (call 228 [va_rf x0, va_rf x1, va_rf v5, .int v7] s3) fun s11 =>
  some (some (.int 1), s11)
set_option maxHeartbeats 4000000 in
theorem qb_Jx4a65c_add_9ea2d {κ : oKv} {n : Nat} {call : oCl} {kc : Nat → List Value → oSt → Option Value × oSt → Prop} {v : Option Value × oSt} {X : Nat → zLv → List Value → oSt → Prop} (hX : oSem RJx4a65c cJx4a65c_add_9ea2d 2 0 (some .boolean) κ kc v X) (hc : ∀ j av s w, call j av s = some w → kc j av s w) {x0 : Option Nat} {x1 : Option Nat} {σ : oSt} (h : ob_Jx4a65c_add_9ea2d n call κ x0 x1 σ = some v) : X 0 [some (va_rf x0), some (va_rf x1)] [] σ := by
  rw [ob_Jx4a65c_add_9ea2d] at h
  refine os_aload_n (r := x0) hX dJx4a65c_add_9ea2d_0 rfl rfl ?_
  refine os_dup hX dJx4a65c_add_9ea2d_1 (ocat x0) ?_
  obtain ⟨v1, e2, h⟩ := obn_e h
  refine ow_getM (r := x0) hX dJx4a65c_add_9ea2d_2 rfl (ovi_e e2) ?_
  refine os_iconst (v := 1) hX dJx4a65c_add_9ea2d_5 (by decide) ?_
  refine os_iadd hX dJx4a65c_add_9ea2d_6 ?_
  obtain ⟨s3, e4, h⟩ := obn_e h
  refine ow_putM (r := x0) (x := (v1 + 1)) hX dJx4a65c_add_9ea2d_7 rfl e4 ?_
  refine os_aload_n (r := x0) hX dJx4a65c_add_9ea2d_10 rfl rfl ?_
  refine os_aload_n (r := x1) hX dJx4a65c_add_9ea2d_11 rfl rfl ?_
  refine os_aload_n (r := x0) hX dJx4a65c_add_9ea2d_12 rfl rfl ?_
  obtain ⟨v5, e6, h⟩ := obn_e h
  refine ow_get (r := x0) hX dJx4a65c_add_9ea2d_13 oF_RJx4a65c_9 (ovr_e e6) ?_
  refine os_aload_n (r := x0) hX dJx4a65c_add_9ea2d_16 rfl rfl ?_
  obtain ⟨v7, e8, h⟩ := obn_e h
  refine ow_get (r := x0) hX dJx4a65c_add_9ea2d_17 oF_RJx4a65c_48 (ovi_e e8) ?_
  obtain ⟨a9, e10, h⟩ := obn_e h
  obtain ⟨s11, e12, h⟩ := ocv_e h
  refine oc_RJx4a65c_131 (rb := x0) (a1 := va_rf x1) (a2 := va_rf v5) (a3 := .int v7) hX dJx4a65c_add_9ea2d_20 (Nat.le_of_ble_eq_true rfl) e10 (hc _ _ _ _ e12) ?_
  refine os_iconst (v := 1) hX dJx4a65c_add_9ea2d_23 (by decide) ?_
  exact os_nret (ty := .boolean) hX dJx4a65c_add_9ea2d_24 rfl rfl (by decide) (Option.some.inj h)
def oj_Jx4a65c_add_72be8_11 (n : Nat) (call : oCl) (κ : oKv) (x0 : Option Nat) (x1 : Option Nat) (x2 : Option Nat) (x3 : Int32) (σ : oSt) : oRs :=
  obn (osr σ x2 x3 x1) fun s1 =>
  obn (opf s1 x0 1 2 (.int (x3 + 1))) fun s3 =>
  some (none, s3)
def ob_Jx4a65c_add_72be8 (n : Nat) (call : oCl) (κ : oKv) (x0 : Option Nat) (x1 : Option Nat) (x2 : Option Nat) (x3 : Int32) (σ : oSt) : oRs :=
  obn (oln2 κ σ x2) fun v1 =>
  if x3 = v1 then
    obn (oob σ x0 1) fun a4 =>
    orn (call 229 [va_rf x0] σ) fun r8 s6 =>
    oj_Jx4a65c_add_72be8_11 n call κ x0 x1 r8 x3 s6
  else
    oj_Jx4a65c_add_72be8_11 n call κ x0 x1 x2 x3 σ
set_option maxHeartbeats 4000000 in
theorem qj_Jx4a65c_add_72be8_11 {κ : oKv} {n : Nat} {call : oCl} {kc : Nat → List Value → oSt → Option Value × oSt → Prop} {v : Option Value × oSt} {X : Nat → zLv → List Value → oSt → Prop} (hX : oSem RJx4a65c cJx4a65c_add_72be8 4 0 none κ kc v X) (hc : ∀ j av s w, call j av s = some w → kc j av s w) {x0 : Option Nat} {x1 : Option Nat} {x2 : Option Nat} {x3 : Int32} {σ : oSt} (h : oj_Jx4a65c_add_72be8_11 n call κ x0 x1 x2 x3 σ = some v) : X 11 [some (va_rf x0), some (va_rf x1), some (va_rf x2), some (.int x3)] [] σ := by
  rw [oj_Jx4a65c_add_72be8_11] at h
  refine os_aload_n (r := x2) hX dJx4a65c_add_72be8_11 rfl rfl ?_
  refine os_iload_n hX dJx4a65c_add_72be8_12 rfl rfl ?_
  refine os_aload_n (r := x1) hX dJx4a65c_add_72be8_13 rfl rfl ?_
  obtain ⟨s1, e2, h⟩ := obn_e h
  refine ow_sr (r := x2) (i := x3) (y := x1) hX dJx4a65c_add_72be8_14 e2 ?_
  refine os_aload_n (r := x0) hX dJx4a65c_add_72be8_15 rfl rfl ?_
  refine os_iload_n hX dJx4a65c_add_72be8_16 rfl rfl ?_
  refine os_iconst (v := 1) hX dJx4a65c_add_72be8_17 (by decide) ?_
  refine os_iadd hX dJx4a65c_add_72be8_18 ?_
  obtain ⟨s3, e4, h⟩ := obn_e h
  refine ow_put (r := x0) (x := .int (x3 + 1)) hX dJx4a65c_add_72be8_19 oF_RJx4a65c_48 (by decide) (opn_I oT_1_2) e4 ?_
  exact os_vret hX dJx4a65c_add_72be8_22 rfl (Option.some.inj h)
set_option maxHeartbeats 4000000 in
theorem qb_Jx4a65c_add_72be8 {κ : oKv} {n : Nat} {call : oCl} {kc : Nat → List Value → oSt → Option Value × oSt → Prop} {v : Option Value × oSt} {X : Nat → zLv → List Value → oSt → Prop} (hX : oSem RJx4a65c cJx4a65c_add_72be8 4 0 none κ kc v X) (hc : ∀ j av s w, call j av s = some w → kc j av s w) {x0 : Option Nat} {x1 : Option Nat} {x2 : Option Nat} {x3 : Int32} {σ : oSt} (h : ob_Jx4a65c_add_72be8 n call κ x0 x1 x2 x3 σ = some v) : X 0 [some (va_rf x0), some (va_rf x1), some (va_rf x2), some (.int x3)] [] σ := by
  rw [ob_Jx4a65c_add_72be8] at h
  refine os_iload_n hX dJx4a65c_add_72be8_0 rfl rfl ?_
  refine os_aload_n (r := x2) hX dJx4a65c_add_72be8_1 rfl rfl ?_
  obtain ⟨v1, e2, h⟩ := obn_e h
  refine ow_len (r := x2) hX dJx4a65c_add_72be8_2 e2 ?_
  refine os_icmp_ne (tgt := 11) hX dJx4a65c_add_72be8_3 (by decide) (fun c3 => ?_) (fun c3 => ?_)
  · rw [if_neg c3] at h
    exact qj_Jx4a65c_add_72be8_11 hX hc h
  · rw [if_pos c3] at h
    refine os_aload_n (r := x0) hX dJx4a65c_add_72be8_6 rfl rfl ?_
    obtain ⟨a4, e5, h⟩ := obn_e h
    obtain ⟨r8, s6, e7, h⟩ := orn_e h
    refine oc_RJx4a65c_129 (rb := x0)  hX dJx4a65c_add_72be8_7 (Nat.le_of_ble_eq_true rfl) e5 (hc _ _ _ _ e7) ?_
    refine os_astore_n (r := r8) hX dJx4a65c_add_72be8_10 rfl (by decide) (ozlo (i := 1) (r := x1) rfl) ?_
    dsimp only [List.set]
    exact qj_Jx4a65c_add_72be8_11 hX hc h
def ob_Jx4a65c_grow_d5877 (n : Nat) (call : oCl) (κ : oKv) (x0 : Option Nat) (σ : oSt) : oRs :=
  obn (ovi (ofd σ x0 1 2)) fun v1 =>
  obn (oob σ x0 1) fun a3 =>
  orn (call 230 [va_rf x0, .int (v1 + 1)] σ) fun r7 s5 =>
  some (some (va_rf r7), s5)
set_option maxHeartbeats 4000000 in
theorem qb_Jx4a65c_grow_d5877 {κ : oKv} {n : Nat} {call : oCl} {kc : Nat → List Value → oSt → Option Value × oSt → Prop} {v : Option Value × oSt} {X : Nat → zLv → List Value → oSt → Prop} (hX : oSem RJx4a65c cJx4a65c_grow_d5877 1 0 (some (.array (.object "java/lang/Object"))) κ kc v X) (hc : ∀ j av s w, call j av s = some w → kc j av s w) {x0 : Option Nat} {σ : oSt} (h : ob_Jx4a65c_grow_d5877 n call κ x0 σ = some v) : X 0 [some (va_rf x0)] [] σ := by
  rw [ob_Jx4a65c_grow_d5877] at h
  refine os_aload_n (r := x0) hX dJx4a65c_grow_d5877_0 rfl rfl ?_
  refine os_aload_n (r := x0) hX dJx4a65c_grow_d5877_1 rfl rfl ?_
  obtain ⟨v1, e2, h⟩ := obn_e h
  refine ow_get (r := x0) hX dJx4a65c_grow_d5877_2 oF_RJx4a65c_48 (ovi_e e2) ?_
  refine os_iconst (v := 1) hX dJx4a65c_grow_d5877_5 (by decide) ?_
  refine os_iadd hX dJx4a65c_grow_d5877_6 ?_
  obtain ⟨a3, e4, h⟩ := obn_e h
  obtain ⟨r7, s5, e6, h⟩ := orn_e h
  refine oc_RJx4a65c_69 (rb := x0) (a1 := .int (v1 + 1)) hX dJx4a65c_grow_d5877_7 (Nat.le_of_ble_eq_true rfl) e4 (hc _ _ _ _ e6) ?_
  exact os_aretA (r := r7) hX dJx4a65c_grow_d5877_10 rfl (Option.some.inj h)
def oj_Jx4a65c_grow_92f84_20 (n : Nat) (call : oCl) (κ : oKv) (x0 : Option Nat) (x1 : Int32) (x2 : Int32) (σ : oSt) : oRs :=
  oin (call 231 [.int x2, .int (x1 - x2), .int (x2 >>> (1 &&& 31))] σ) fun r3 s1 =>
  obn (ovr (ofd s1 x0 1 1)) fun v4 =>
  orn (call 232 [va_rf v4, .int r3] s1) fun r8 s6 =>
  obn (opf s6 x0 1 1 (va_rf r8)) fun s9 =>
  some (some (va_rf r8), s9)
def ob_Jx4a65c_grow_92f84 (n : Nat) (call : oCl) (κ : oKv) (x0 : Option Nat) (x1 : Int32) (σ : oSt) : oRs :=
  obn (ovr (ofd σ x0 1 1)) fun v1 =>
  obn (oln2 κ σ v1) fun v3 =>
  if 0 < v3 then
    oj_Jx4a65c_grow_92f84_20 n call κ x0 x1 v3 σ
  else
    obn (ovr (ofd σ x0 1 1)) fun v6 =>
    if v6 = (some κ.2.2.1) then
      ogd (onn (if (10 : Int32) < x1 then x1 else (10 : Int32))) (
      olet (onew σ (.inl (.object "java/lang/Object", (if (10 : Int32) < x1 then x1 else (10 : Int32)).toNatClampNeg, .inr (.inr (.inr (.inr (fun _ => none)))))) (if (10 : Int32) < x1 then x1 else (10 : Int32)).toNatClampNeg) fun s9 =>
      obn (opf s9 x0 1 1 (va_rf (some σ.2.1))) fun s12 =>
      some (some (va_rf (some σ.2.1)), s12))
    else
      oj_Jx4a65c_grow_92f84_20 n call κ x0 x1 v3 σ
set_option maxHeartbeats 4000000 in
theorem qj_Jx4a65c_grow_92f84_20 {κ : oKv} {n : Nat} {call : oCl} {kc : Nat → List Value → oSt → Option Value × oSt → Prop} {v : Option Value × oSt} {X : Nat → zLv → List Value → oSt → Prop} (hX : oSem RJx4a65c cJx4a65c_grow_92f84 4 0 (some (.array (.object "java/lang/Object"))) κ kc v X) (hc : ∀ j av s w, call j av s = some w → kc j av s w) {x0 : Option Nat} {x1 : Int32} {x2 : Int32} {σ : oSt} (h : oj_Jx4a65c_grow_92f84_20 n call κ x0 x1 x2 σ = some v) : X 20 [some (va_rf x0), some (.int x1), some (.int x2), none] [] σ := by
  rw [oj_Jx4a65c_grow_92f84_20] at h
  refine os_iload_n hX dJx4a65c_grow_92f84_20 rfl rfl ?_
  refine os_iload_n hX dJx4a65c_grow_92f84_21 rfl rfl ?_
  refine os_iload_n hX dJx4a65c_grow_92f84_22 rfl rfl ?_
  refine os_isub hX dJx4a65c_grow_92f84_23 ?_
  refine os_iload_n hX dJx4a65c_grow_92f84_24 rfl rfl ?_
  refine os_iconst (v := 1) hX dJx4a65c_grow_92f84_25 (by decide) ?_
  refine os_ishr hX dJx4a65c_grow_92f84_26 ?_
  obtain ⟨r3, s1, e2, h⟩ := oin_e h
  refine oc_RJx4a65c_73 (a1 := .int x2) (a2 := .int (x1 - x2)) (a3 := .int (x2 >>> (1 &&& 31))) hX dJx4a65c_grow_92f84_27 (Nat.le_of_ble_eq_true rfl) (hc _ _ _ _ e2) ?_
  refine os_istore_n hX dJx4a65c_grow_92f84_30 rfl (by decide) rfl ?_
  dsimp only [List.set]
  refine os_aload_n (r := x0) hX dJx4a65c_grow_92f84_31 rfl rfl ?_
  refine os_aload_n (r := x0) hX dJx4a65c_grow_92f84_32 rfl rfl ?_
  obtain ⟨v4, e5, h⟩ := obn_e h
  refine ow_get (r := x0) hX dJx4a65c_grow_92f84_33 oF_RJx4a65c_9 (ovr_e e5) ?_
  refine os_iload_n hX dJx4a65c_grow_92f84_36 rfl rfl ?_
  obtain ⟨r8, s6, e7, h⟩ := orn_e h
  refine oc_RJx4a65c_66 (a1 := va_rf v4) (a2 := .int r3) hX dJx4a65c_grow_92f84_37 (by simp only [List.map_cons, List.map_nil, List.sum_cons, List.sum_nil, ocat]; exact Nat.le_of_ble_eq_true rfl) (hc _ _ _ _ e7) ?_
  refine os_dup_x1 hX dJx4a65c_grow_92f84_40 (ocat r8) (ocat x0) ?_
  obtain ⟨s9, e10, h⟩ := obn_e h
  refine ow_put (r := x0) (x := va_rf r8) hX dJx4a65c_grow_92f84_41 oF_RJx4a65c_9 (by decide) (orf_n (Or.inr ⟨_, oT_1_1⟩) r8) e10 ?_
  exact os_aretA (r := r8) hX dJx4a65c_grow_92f84_44 rfl (Option.some.inj h)
set_option maxHeartbeats 4000000 in
theorem qb_Jx4a65c_grow_92f84 {κ : oKv} {n : Nat} {call : oCl} {kc : Nat → List Value → oSt → Option Value × oSt → Prop} {v : Option Value × oSt} {X : Nat → zLv → List Value → oSt → Prop} (hX : oSem RJx4a65c cJx4a65c_grow_92f84 4 0 (some (.array (.object "java/lang/Object"))) κ kc v X) (hc : ∀ j av s w, call j av s = some w → kc j av s w) {x0 : Option Nat} {x1 : Int32} {σ : oSt} (h : ob_Jx4a65c_grow_92f84 n call κ x0 x1 σ = some v) : X 0 [some (va_rf x0), some (.int x1), none, none] [] σ := by
  rw [ob_Jx4a65c_grow_92f84] at h
  refine os_aload_n (r := x0) hX dJx4a65c_grow_92f84_0 rfl rfl ?_
  obtain ⟨v1, e2, h⟩ := obn_e h
  refine ow_get (r := x0) hX dJx4a65c_grow_92f84_1 oF_RJx4a65c_9 (ovr_e e2) ?_
  obtain ⟨v3, e4, h⟩ := obn_e h
  refine ow_len (r := v1) hX dJx4a65c_grow_92f84_4 e4 ?_
  refine os_istore_n hX dJx4a65c_grow_92f84_5 rfl (by decide) rfl ?_
  dsimp only [List.set]
  refine os_iload_n hX dJx4a65c_grow_92f84_6 rfl rfl ?_
  refine os_if_gt (tgt := 20) hX dJx4a65c_grow_92f84_7 (by decide) (fun c5 => ?_) (fun c5 => ?_)
  · rw [if_pos c5] at h
    exact qj_Jx4a65c_grow_92f84_20 hX hc h
  · rw [if_neg c5] at h
    refine os_aload_n (r := x0) hX dJx4a65c_grow_92f84_10 rfl rfl ?_
    obtain ⟨v6, e7, h⟩ := obn_e h
    refine ow_get (r := x0) hX dJx4a65c_grow_92f84_11 oF_RJx4a65c_9 (ovr_e e7) ?_
    refine os_getsE hX dJx4a65c_grow_92f84_14 rfl ?_
    refine os_acmp_eq (rx := v6) (ry := (some κ.2.2.1)) (tgt := 45) hX dJx4a65c_grow_92f84_17 (by decide) (fun c8 => ?_) (fun c8 => ?_)
    · rw [if_pos c8] at h
      refine os_aload_n (r := x0) hX dJx4a65c_grow_92f84_45 rfl rfl ?_
      refine os_bipush (v := 10) hX dJx4a65c_grow_92f84_46 (by decide) ?_
      refine os_iload_n hX dJx4a65c_grow_92f84_48 rfl rfl ?_
      refine os_mmax hX dJx4a65c_grow_92f84_49 ommax_RJx4a65c_79 (by simp only [List.map_cons, List.map_nil, List.sum_cons, List.sum_nil, ocat]; exact Nat.le_of_ble_eq_true rfl) ?_
      obtain ⟨b11, h⟩ := ogd_e h
      obtain ⟨s9, e10, h⟩ := olet_e h
      refine os_newO hX dJx4a65c_grow_92f84_52 oO_RJx4a65c_7 (onn_e b11).1 (onn_e b11).2 ?_
      rw [← e10]
      refine os_dup_x1 hX dJx4a65c_grow_92f84_55 (ocat (some σ.2.1)) (ocat x0) ?_
      obtain ⟨s12, e13, h⟩ := obn_e h
      refine ow_put (r := x0) (x := va_rf (some σ.2.1)) hX dJx4a65c_grow_92f84_56 oF_RJx4a65c_9 (by decide) (orf_n (Or.inr ⟨_, oT_1_1⟩) (some σ.2.1)) e13 ?_
      exact os_aretA (r := (some σ.2.1)) hX dJx4a65c_grow_92f84_59 rfl (Option.some.inj h)
    · rw [if_neg c8] at h
      exact qj_Jx4a65c_grow_92f84_20 hX hc h
def oj_J8_newLength_cabcc_21 (n : Nat) (call : oCl) (κ : oKv) (x0 : Int32) (x1 : Int32) (σ : oSt) : oRs :=
  none
def ob_J8_newLength_cabcc (n : Nat) (call : oCl) (κ : oKv) (x0 : Int32) (x1 : Int32) (x2 : Int32) (σ : oSt) : oRs :=
  if (x0 + (if x1 < x2 then x2 else x1)) ≤ (0 : Int32) then
    oj_J8_newLength_cabcc_21 n call κ x0 x1 σ
  else
    if 2147483639 < (x0 + (if x1 < x2 then x2 else x1)) then
      oj_J8_newLength_cabcc_21 n call κ x0 x1 σ
    else
      some (some (.int (x0 + (if x1 < x2 then x2 else x1))), σ)
set_option maxHeartbeats 4000000 in
theorem qj_J8_newLength_cabcc_21 {κ : oKv} {n : Nat} {call : oCl} {kc : Nat → List Value → oSt → Option Value × oSt → Prop} {v : Option Value × oSt} {X : Nat → zLv → List Value → oSt → Prop} (hX : oSem RJ8 cJ8_newLength_cabcc 4 1 (some .int) κ kc v X) (hc : ∀ j av s w, call j av s = some w → kc j av s w) {x0 : Int32} {x1 : Int32} {σ : oSt} (h : oj_J8_newLength_cabcc_21 n call κ x0 x1 σ = some v) : X 21 [some (.int x0), some (.int x1), none, none] [] σ := by
  rw [oj_J8_newLength_cabcc_21] at h
  refine os_iload_n hX dJ8_newLength_cabcc_21 rfl rfl ?_
  refine os_iload_n hX dJ8_newLength_cabcc_22 rfl rfl ?_
  cases h
set_option maxHeartbeats 4000000 in
theorem qb_J8_newLength_cabcc {κ : oKv} {n : Nat} {call : oCl} {kc : Nat → List Value → oSt → Option Value × oSt → Prop} {v : Option Value × oSt} {X : Nat → zLv → List Value → oSt → Prop} (hX : oSem RJ8 cJ8_newLength_cabcc 4 1 (some .int) κ kc v X) (hc : ∀ j av s w, call j av s = some w → kc j av s w) {x0 : Int32} {x1 : Int32} {x2 : Int32} {σ : oSt} (h : ob_J8_newLength_cabcc n call κ x0 x1 x2 σ = some v) : X 0 [some (.int x0), some (.int x1), some (.int x2), none] [] σ := by
  rw [ob_J8_newLength_cabcc] at h
  refine os_iload_n hX dJ8_newLength_cabcc_0 rfl rfl ?_
  refine os_iload_n hX dJ8_newLength_cabcc_1 rfl rfl ?_
  refine os_iload_n hX dJ8_newLength_cabcc_2 rfl rfl ?_
  refine os_mmax hX dJ8_newLength_cabcc_3 ommax_RJ8_194 (Nat.le_of_ble_eq_true rfl) ?_
  refine os_iadd hX dJ8_newLength_cabcc_6 ?_
  refine os_istore_n hX dJ8_newLength_cabcc_7 rfl (by decide) rfl ?_
  dsimp only [List.set]
  refine os_iconst (v := 0) hX dJ8_newLength_cabcc_8 (by decide) ?_
  refine os_iload_n hX dJ8_newLength_cabcc_9 rfl rfl ?_
  refine os_icmp_ge (tgt := 21) hX dJ8_newLength_cabcc_10 (by decide) (fun c1 => ?_) (fun c1 => ?_)
  · rw [if_pos c1] at h
    refine os_weak hX (lw := [some (.int x0), some (.int x1), none, none]) ⟨rfl, rfl, trivial⟩ ?_
    exact qj_J8_newLength_cabcc_21 hX hc h
  · rw [if_neg c1] at h
    refine os_iload_n hX dJ8_newLength_cabcc_13 rfl rfl ?_
    refine os_ldc (x := 2147483639) hX dJ8_newLength_cabcc_14 oCI_RJ8_200 ?_
    refine os_icmp_gt (tgt := 21) hX dJ8_newLength_cabcc_16 (by decide) (fun c2 => ?_) (fun c2 => ?_)
    · rw [if_pos c2] at h
      refine os_weak hX (lw := [some (.int x0), some (.int x1), none, none]) ⟨rfl, rfl, trivial⟩ ?_
      exact qj_J8_newLength_cabcc_21 hX hc h
    · rw [if_neg c2] at h
      refine os_iload_n hX dJ8_newLength_cabcc_19 rfl rfl ?_
      exact os_iret hX dJ8_newLength_cabcc_20 rfl (Option.some.inj h)
def ob_J7_copyOf_1904c (n : Nat) (call : oCl) (κ : oKv) (x0 : Option Nat) (x1 : Int32) (σ : oSt) : oRs :=
  obn (oOb σ x0) fun a1 =>
  orn (call 233 [va_rf x0, .int x1, va_rf (some κ.2.2.2.1)] σ) fun r5 s3 =>
  some (some (va_rf r5), s3)
set_option maxHeartbeats 4000000 in
theorem qb_J7_copyOf_1904c {κ : oKv} {n : Nat} {call : oCl} {kc : Nat → List Value → oSt → Option Value × oSt → Prop} {v : Option Value × oSt} {X : Nat → zLv → List Value → oSt → Prop} (hX : oSem RJ7 cJ7_copyOf_1904c 2 1 (some (.array (.object "java/lang/Object"))) κ kc v X) (hc : ∀ j av s w, call j av s = some w → kc j av s w) {x0 : Option Nat} {x1 : Int32} {σ : oSt} (h : ob_J7_copyOf_1904c n call κ x0 x1 σ = some v) : X 0 [some (va_rf x0), some (.int x1)] [] σ := by
  rw [ob_J7_copyOf_1904c] at h
  refine os_aload_n (r := x0) hX dJ7_copyOf_1904c_0 rfl rfl ?_
  refine os_iload_n hX dJ7_copyOf_1904c_1 rfl rfl ?_
  refine os_aload_n (r := x0) hX dJ7_copyOf_1904c_2 rfl rfl ?_
  obtain ⟨a1, e2, h⟩ := obn_e h
  refine ow_gC (r := x0) hX dJ7_copyOf_1904c_3 rfl (by simp only [List.map_cons, List.map_nil, List.sum_cons, List.sum_nil, ocat]; exact Nat.le_of_ble_eq_true rfl) e2 ?_
  obtain ⟨r5, s3, e4, h⟩ := orn_e h
  refine oc_RJ7_300 (a1 := va_rf x0) (a2 := .int x1) (a3 := va_rf (some κ.2.2.2.1)) hX dJ7_copyOf_1904c_6 (Nat.le_of_ble_eq_true rfl) (hc _ _ _ _ e4) ?_
  exact os_aretA (r := r5) hX dJ7_copyOf_1904c_9 rfl (Option.some.inj h)
def ob_J7_copyOf_6403c (n : Nat) (call : oCl) (κ : oKv) (x0 : Option Nat) (x1 : Int32) (x2 : Option Nat) (σ : oSt) : oRs :=
  if x2 = (some κ.2.2.2.1) then
    ogd (onn x1) (
    olet (onew σ (.inl (.object "java/lang/Object", x1.toNatClampNeg, .inr (.inr (.inr (.inr (fun _ => none)))))) x1.toNatClampNeg) fun s2 =>
    obn (oln2 κ s2 x0) fun v5 =>
    obn (ocy s2 x0 0 (some σ.2.1) 0 ((if x1 < v5 then x1 else v5))) fun s7 =>
    some (some (va_rf (some σ.2.1)), s7))
  else
    none
set_option maxHeartbeats 4000000 in
theorem qb_J7_copyOf_6403c {κ : oKv} {n : Nat} {call : oCl} {kc : Nat → List Value → oSt → Option Value × oSt → Prop} {v : Option Value × oSt} {X : Nat → zLv → List Value → oSt → Prop} (hX : oSem RJ7 cJ7_copyOf_6403c 4 1 (some (.array (.object "java/lang/Object"))) κ kc v X) (hc : ∀ j av s w, call j av s = some w → kc j av s w) {x0 : Option Nat} {x1 : Int32} {x2 : Option Nat} {σ : oSt} (h : ob_J7_copyOf_6403c n call κ x0 x1 x2 σ = some v) : X 0 [some (va_rf x0), some (.int x1), some (va_rf x2), none] [] σ := by
  rw [ob_J7_copyOf_6403c] at h
  refine os_aload_n (r := x2) hX dJ7_copyOf_6403c_0 rfl rfl ?_
  refine os_ldcM hX dJ7_copyOf_6403c_1 rfl ?_
  refine os_acmp_ne (rx := x2) (ry := (some κ.2.2.2.1)) (tgt := 13) hX dJ7_copyOf_6403c_3 (by decide) (fun c1 => ?_) (fun c1 => ?_)
  · rw [if_neg c1] at h
    refine os_aload_n (r := x2) hX dJ7_copyOf_6403c_13 rfl rfl ?_
    cases h
  · rw [if_pos c1] at h
    refine os_iload_n hX dJ7_copyOf_6403c_6 rfl rfl ?_
    obtain ⟨b4, h⟩ := ogd_e h
    obtain ⟨s2, e3, h⟩ := olet_e h
    refine os_newO hX dJ7_copyOf_6403c_7 oO_RJ7_2 (onn_e b4).1 (onn_e b4).2 ?_
    rw [← e3]
    refine os_goto (tgt := 24) hX dJ7_copyOf_6403c_10 (by decide) ?_
    refine os_astore_n (r := (some σ.2.1)) hX dJ7_copyOf_6403c_24 rfl (by decide) (ozlo (i := 2) (r := x2) rfl) ?_
    dsimp only [List.set]
    refine os_aload_n (r := x0) hX dJ7_copyOf_6403c_25 rfl rfl ?_
    refine os_iconst (v := 0) hX dJ7_copyOf_6403c_26 (by decide) ?_
    refine os_aload_n (r := (some σ.2.1)) hX dJ7_copyOf_6403c_27 rfl rfl ?_
    refine os_iconst (v := 0) hX dJ7_copyOf_6403c_28 (by decide) ?_
    refine os_aload_n (r := x0) hX dJ7_copyOf_6403c_29 rfl rfl ?_
    obtain ⟨v5, e6, h⟩ := obn_e h
    refine ow_len (r := x0) hX dJ7_copyOf_6403c_30 e6 ?_
    refine os_iload_n hX dJ7_copyOf_6403c_31 rfl rfl ?_
    refine os_mmin hX dJ7_copyOf_6403c_32 ommin_RJ7_304 (by simp only [List.map_cons, List.map_nil, List.sum_cons, List.sum_nil, ocat]; exact Nat.le_of_ble_eq_true rfl) ?_
    obtain ⟨s7, e8, h⟩ := obn_e h
    refine ow_cpy (r0 := x0) (r1 := (some σ.2.1)) (sp := 0) (dp := 0) (n := ((if x1 < v5 then x1 else v5))) hX dJ7_copyOf_6403c_35 oC_RJ7_150 (Nat.le_of_ble_eq_true rfl) e8 ?_
    refine os_aload_n (r := (some σ.2.1)) hX dJ7_copyOf_6403c_38 rfl rfl ?_
    exact os_aretA (r := (some σ.2.1)) hX dJ7_copyOf_6403c_39 rfl (Option.some.inj h)
def ob_Jx4a65c_get_915e3 (n : Nat) (call : oCl) (κ : oKv) (x0 : Option Nat) (x1 : Int32) (σ : oSt) : oRs :=
  obn (ovi (ofd σ x0 1 2)) fun v1 =>
  oin (call 205 [.int x1, .int v1] σ) fun r5 s3 =>
  obn (oob s3 x0 1) fun a6 =>
  orn (call 235 [va_rf x0, .int x1] s3) fun r10 s8 =>
  some (some (va_rf r10), s8)
set_option maxHeartbeats 4000000 in
theorem qb_Jx4a65c_get_915e3 {κ : oKv} {n : Nat} {call : oCl} {kc : Nat → List Value → oSt → Option Value × oSt → Prop} {v : Option Value × oSt} {X : Nat → zLv → List Value → oSt → Prop} (hX : oSem RJx4a65c cJx4a65c_get_915e3 2 0 (some (.object "java/lang/Object")) κ kc v X) (hc : ∀ j av s w, call j av s = some w → kc j av s w) {x0 : Option Nat} {x1 : Int32} {σ : oSt} (h : ob_Jx4a65c_get_915e3 n call κ x0 x1 σ = some v) : X 0 [some (va_rf x0), some (.int x1)] [] σ := by
  rw [ob_Jx4a65c_get_915e3] at h
  refine os_iload_n hX dJx4a65c_get_915e3_0 rfl rfl ?_
  refine os_aload_n (r := x0) hX dJx4a65c_get_915e3_1 rfl rfl ?_
  obtain ⟨v1, e2, h⟩ := obn_e h
  refine ow_get (r := x0) hX dJx4a65c_get_915e3_2 oF_RJx4a65c_48 (ovi_e e2) ?_
  obtain ⟨r5, s3, e4, h⟩ := oin_e h
  refine oc_RJx4a65c_118 (a1 := .int x1) (a2 := .int v1) hX dJx4a65c_get_915e3_5 (Nat.le_of_ble_eq_true rfl) (hc _ _ _ _ e4) ?_
  refine os_pop hX dJx4a65c_get_915e3_8 rfl ?_
  refine os_aload_n (r := x0) hX dJx4a65c_get_915e3_9 rfl rfl ?_
  refine os_iload_n hX dJx4a65c_get_915e3_10 rfl rfl ?_
  obtain ⟨a6, e7, h⟩ := obn_e h
  obtain ⟨r10, s8, e9, h⟩ := orn_e h
  refine oc_RJx4a65c_123 (rb := x0) (a1 := .int x1) hX dJx4a65c_get_915e3_11 (Nat.le_of_ble_eq_true rfl) e7 (hc _ _ _ _ e9) ?_
  exact os_aret (r := r10) hX dJx4a65c_get_915e3_14 rfl (Option.some.inj h)
def ob_Jx4a65c_elementData_915e3 (n : Nat) (call : oCl) (κ : oKv) (x0 : Option Nat) (x1 : Int32) (σ : oSt) : oRs :=
  obn (ovr (ofd σ x0 1 1)) fun v1 =>
  obn (oar σ v1 x1) fun v3 =>
  some (some (va_rf v3), σ)
set_option maxHeartbeats 4000000 in
theorem qb_Jx4a65c_elementData_915e3 {κ : oKv} {n : Nat} {call : oCl} {kc : Nat → List Value → oSt → Option Value × oSt → Prop} {v : Option Value × oSt} {X : Nat → zLv → List Value → oSt → Prop} (hX : oSem RJx4a65c cJx4a65c_elementData_915e3 2 0 (some (.object "java/lang/Object")) κ kc v X) (hc : ∀ j av s w, call j av s = some w → kc j av s w) {x0 : Option Nat} {x1 : Int32} {σ : oSt} (h : ob_Jx4a65c_elementData_915e3 n call κ x0 x1 σ = some v) : X 0 [some (va_rf x0), some (.int x1)] [] σ := by
  rw [ob_Jx4a65c_elementData_915e3] at h
  refine os_aload_n (r := x0) hX dJx4a65c_elementData_915e3_0 rfl rfl ?_
  obtain ⟨v1, e2, h⟩ := obn_e h
  refine ow_get (r := x0) hX dJx4a65c_elementData_915e3_1 oF_RJx4a65c_9 (ovr_e e2) ?_
  refine os_iload_n hX dJx4a65c_elementData_915e3_4 rfl rfl ?_
  obtain ⟨v3, e4, h⟩ := obn_e h
  refine ow_ar (r := v1) (i := x1) hX dJx4a65c_elementData_915e3_5 e4 ?_
  exact os_aret (r := v3) hX dJx4a65c_elementData_915e3_6 rfl (Option.some.inj h)
def ob_Jx4a65c_size_8abf5 (n : Nat) (call : oCl) (κ : oKv) (x0 : Option Nat) (σ : oSt) : oRs :=
  obn (ovi (ofd σ x0 1 2)) fun v1 =>
  some (some (.int v1), σ)
set_option maxHeartbeats 4000000 in
theorem qb_Jx4a65c_size_8abf5 {κ : oKv} {n : Nat} {call : oCl} {kc : Nat → List Value → oSt → Option Value × oSt → Prop} {v : Option Value × oSt} {X : Nat → zLv → List Value → oSt → Prop} (hX : oSem RJx4a65c cJx4a65c_size_8abf5 1 0 (some .int) κ kc v X) (hc : ∀ j av s w, call j av s = some w → kc j av s w) {x0 : Option Nat} {σ : oSt} (h : ob_Jx4a65c_size_8abf5 n call κ x0 σ = some v) : X 0 [some (va_rf x0)] [] σ := by
  rw [ob_Jx4a65c_size_8abf5] at h
  refine os_aload_n (r := x0) hX dJx4a65c_size_8abf5_0 rfl rfl ?_
  obtain ⟨v1, e2, h⟩ := obn_e h
  refine ow_get (r := x0) hX dJx4a65c_size_8abf5_1 oF_RJx4a65c_48 (ovi_e e2) ?_
  exact os_iret hX dJx4a65c_size_8abf5_4 rfl (Option.some.inj h)
def ol_Jx4a65c_clear_da8c8_27 (n : Nat) (call : oCl) (κ : oKv) : Nat → Option Nat → Int32 → Int32 → oSt → oRs
  | 0, _, _, _, _ => none
  | f + 1, x1, x2, x3, σ =>
    if x2 ≤ x3 then
      some (none, σ)
    else
      obn (osr σ x1 x3 none) fun s2 =>
      ol_Jx4a65c_clear_da8c8_27 n call κ f x1 x2 (x3 + 1) s2
def ob_Jx4a65c_clear_da8c8 (n : Nat) (call : oCl) (κ : oKv) (x0 : Option Nat) (σ : oSt) : oRs :=
  obn (ovi (ofd σ x0 1 0)) fun v1 =>
  obn (opf σ x0 1 0 (.int (v1 + 1))) fun s3 =>
  obn (ovr (ofd s3 x0 1 1)) fun v5 =>
  obn (ovi (ofd s3 x0 1 2)) fun v7 =>
  obn (opf s3 x0 1 2 (.int 0)) fun s9 =>
  ol_Jx4a65c_clear_da8c8_27 n call κ n v5 v7 0 s9
set_option maxHeartbeats 4000000 in
theorem ql_Jx4a65c_clear_da8c8_27 {κ : oKv} {n : Nat} {call : oCl} {kc : Nat → List Value → oSt → Option Value × oSt → Prop} {v : Option Value × oSt} {X : Nat → zLv → List Value → oSt → Prop} (hX : oSem RJx4a65c cJx4a65c_clear_da8c8 4 0 none κ kc v X) (hc : ∀ j av s w, call j av s = some w → kc j av s w) : ∀ (f : Nat) (x1 : Option Nat) (x2 : Int32) (x3 : Int32) (σ : oSt), ol_Jx4a65c_clear_da8c8_27 n call κ f x1 x2 x3 σ = some v → X 27 [none, some (va_rf x1), some (.int x2), some (.int x3)] [] σ := by
  intro f
  induction f with
  | zero => intro x1 x2 x3 σ h; cases h
  | succ f hk27 =>
    intro x1 x2 x3 σ h
    rw [ol_Jx4a65c_clear_da8c8_27] at h
    refine os_iload_n hX dJx4a65c_clear_da8c8_27 rfl rfl ?_
    refine os_iload_n hX dJx4a65c_clear_da8c8_28 rfl rfl ?_
    refine os_icmp_ge (tgt := 42) hX dJx4a65c_clear_da8c8_29 (by decide) (fun c1 => ?_) (fun c1 => ?_)
    · rw [if_pos c1] at h
      exact os_vret hX dJx4a65c_clear_da8c8_42 rfl (Option.some.inj h)
    · rw [if_neg c1] at h
      refine os_aload_n (r := x1) hX dJx4a65c_clear_da8c8_32 rfl rfl ?_
      refine os_iload_n hX dJx4a65c_clear_da8c8_33 rfl rfl ?_
      refine os_null hX dJx4a65c_clear_da8c8_34 ?_
      obtain ⟨s2, e3, h⟩ := obn_e h
      refine ow_sr (r := x1) (i := x3) (y := none) hX dJx4a65c_clear_da8c8_35 e3 ?_
      refine os_iinc (v := x3 + 1) hX dJx4a65c_clear_da8c8_36 rfl rfl (by decide) rfl ?_
      dsimp only [List.set]
      refine os_goto (tgt := 27) hX dJx4a65c_clear_da8c8_39 (by decide) ?_
      exact hk27 _ _ _ _ h
set_option maxHeartbeats 4000000 in
theorem qb_Jx4a65c_clear_da8c8 {κ : oKv} {n : Nat} {call : oCl} {kc : Nat → List Value → oSt → Option Value × oSt → Prop} {v : Option Value × oSt} {X : Nat → zLv → List Value → oSt → Prop} (hX : oSem RJx4a65c cJx4a65c_clear_da8c8 4 0 none κ kc v X) (hc : ∀ j av s w, call j av s = some w → kc j av s w) {x0 : Option Nat} {σ : oSt} (h : ob_Jx4a65c_clear_da8c8 n call κ x0 σ = some v) : X 0 [some (va_rf x0), none, none, none] [] σ := by
  rw [ob_Jx4a65c_clear_da8c8] at h
  refine os_aload_n (r := x0) hX dJx4a65c_clear_da8c8_0 rfl rfl ?_
  refine os_dup hX dJx4a65c_clear_da8c8_1 (ocat x0) ?_
  obtain ⟨v1, e2, h⟩ := obn_e h
  refine ow_getM (r := x0) hX dJx4a65c_clear_da8c8_2 rfl (ovi_e e2) ?_
  refine os_iconst (v := 1) hX dJx4a65c_clear_da8c8_5 (by decide) ?_
  refine os_iadd hX dJx4a65c_clear_da8c8_6 ?_
  obtain ⟨s3, e4, h⟩ := obn_e h
  refine ow_putM (r := x0) (x := (v1 + 1)) hX dJx4a65c_clear_da8c8_7 rfl e4 ?_
  refine os_aload_n (r := x0) hX dJx4a65c_clear_da8c8_10 rfl rfl ?_
  obtain ⟨v5, e6, h⟩ := obn_e h
  refine ow_get (r := x0) hX dJx4a65c_clear_da8c8_11 oF_RJx4a65c_9 (ovr_e e6) ?_
  refine os_astore_n (r := v5) hX dJx4a65c_clear_da8c8_14 rfl (by decide) (ozlo (i := 0) (r := x0) rfl) ?_
  dsimp only [List.set]
  refine os_aload_n (r := x0) hX dJx4a65c_clear_da8c8_15 rfl rfl ?_
  obtain ⟨v7, e8, h⟩ := obn_e h
  refine ow_get (r := x0) hX dJx4a65c_clear_da8c8_16 oF_RJx4a65c_48 (ovi_e e8) ?_
  refine os_istore_n hX dJx4a65c_clear_da8c8_19 rfl (by decide) (ozlo (i := 1) (r := v5) rfl) ?_
  dsimp only [List.set]
  refine os_aload_n (r := x0) hX dJx4a65c_clear_da8c8_20 rfl rfl ?_
  refine os_iconst (v := 0) hX dJx4a65c_clear_da8c8_21 (by decide) ?_
  refine os_dup_x1 hX dJx4a65c_clear_da8c8_22 rfl (ocat x0) ?_
  obtain ⟨s9, e10, h⟩ := obn_e h
  refine ow_put (r := x0) (x := .int 0) hX dJx4a65c_clear_da8c8_23 oF_RJx4a65c_48 (by decide) (opn_I oT_1_2) e10 ?_
  refine os_istore_n hX dJx4a65c_clear_da8c8_26 rfl (by decide) rfl ?_
  dsimp only [List.set]
  refine os_weak hX (lw := [none, some (va_rf v5), some (.int v7), some (.int 0)]) ⟨rfl, rfl, rfl, trivial⟩ ?_
  exact ql_Jx4a65c_clear_da8c8_27 hX hc n _ _ _ _ h
def ob_J7_copyOf_59c91 (n : Nat) (call : oCl) (κ : oKv) (x0 : Option Nat) (x1 : Int32) (σ : oSt) : oRs :=
  obn (oln2 κ σ x0) fun v1 =>
  if x1 = v1 then
    none
  else
    ogd (onn x1) (
    olet (onew σ (.inl (.int, x1.toNatClampNeg, .inl (fun _ => 0))) x1.toNatClampNeg) fun s4 =>
    obn (oln2 κ s4 x0) fun v7 =>
    obn (ocy s4 x0 0 (some σ.2.1) 0 ((if x1 < v7 then x1 else v7))) fun s9 =>
    some (some (va_rf (some σ.2.1)), s9))
set_option maxHeartbeats 4000000 in
theorem qb_J7_copyOf_59c91 {κ : oKv} {n : Nat} {call : oCl} {kc : Nat → List Value → oSt → Option Value × oSt → Prop} {v : Option Value × oSt} {X : Nat → zLv → List Value → oSt → Prop} (hX : oSem RJ7 cJ7_copyOf_59c91 3 1 (some (.array .int)) κ kc v X) (hc : ∀ j av s w, call j av s = some w → kc j av s w) {x0 : Option Nat} {x1 : Int32} {σ : oSt} (h : ob_J7_copyOf_59c91 n call κ x0 x1 σ = some v) : X 0 [some (va_rf x0), some (.int x1), none] [] σ := by
  rw [ob_J7_copyOf_59c91] at h
  refine os_iload_n hX dJ7_copyOf_59c91_0 rfl rfl ?_
  refine os_aload_n (r := x0) hX dJ7_copyOf_59c91_1 rfl rfl ?_
  obtain ⟨v1, e2, h⟩ := obn_e h
  refine ow_len (r := x0) hX dJ7_copyOf_59c91_2 e2 ?_
  refine os_icmp_ne (tgt := 14) hX dJ7_copyOf_59c91_3 (by decide) (fun c3 => ?_) (fun c3 => ?_)
  · rw [if_neg c3] at h
    refine os_iload_n hX dJ7_copyOf_59c91_14 rfl rfl ?_
    obtain ⟨b6, h⟩ := ogd_e h
    obtain ⟨s4, e5, h⟩ := olet_e h
    refine os_newI hX dJ7_copyOf_59c91_15 (onn_e b6).1 (onn_e b6).2 ?_
    rw [← e5]
    refine os_astore_n (r := (some σ.2.1)) hX dJ7_copyOf_59c91_17 rfl (by decide) rfl ?_
    dsimp only [List.set]
    refine os_aload_n (r := x0) hX dJ7_copyOf_59c91_18 rfl rfl ?_
    refine os_iconst (v := 0) hX dJ7_copyOf_59c91_19 (by decide) ?_
    refine os_aload_n (r := (some σ.2.1)) hX dJ7_copyOf_59c91_20 rfl rfl ?_
    refine os_iconst (v := 0) hX dJ7_copyOf_59c91_21 (by decide) ?_
    refine os_aload_n (r := x0) hX dJ7_copyOf_59c91_22 rfl rfl ?_
    obtain ⟨v7, e8, h⟩ := obn_e h
    refine ow_len (r := x0) hX dJ7_copyOf_59c91_23 e8 ?_
    refine os_iload_n hX dJ7_copyOf_59c91_24 rfl rfl ?_
    refine os_mmin hX dJ7_copyOf_59c91_25 ommin_RJ7_304 (by simp only [List.map_cons, List.map_nil, List.sum_cons, List.sum_nil, ocat]; exact Nat.le_of_ble_eq_true rfl) ?_
    obtain ⟨s9, e10, h⟩ := obn_e h
    refine ow_cpy (r0 := x0) (r1 := (some σ.2.1)) (sp := 0) (dp := 0) (n := ((if x1 < v7 then x1 else v7))) hX dJ7_copyOf_59c91_28 oC_RJ7_150 (Nat.le_of_ble_eq_true rfl) e10 ?_
    refine os_aload_n (r := (some σ.2.1)) hX dJ7_copyOf_59c91_31 rfl rfl ?_
    exact os_aretA (r := (some σ.2.1)) hX dJ7_copyOf_59c91_32 rfl (Option.some.inj h)
  · rw [if_pos c3] at h
    refine os_aload_n (r := x0) hX dJ7_copyOf_59c91_6 rfl rfl ?_
    cases h
def ob_J7_copyOf_c38d5 (n : Nat) (call : oCl) (κ : oKv) (x0 : Option Nat) (x1 : Int32) (σ : oSt) : oRs :=
  obn (oln2 κ σ x0) fun v1 =>
  if x1 = v1 then
    none
  else
    ogd (onn x1) (
    olet (onew σ (.inl (.long, x1.toNatClampNeg, .inr (.inl (fun _ => 0)))) x1.toNatClampNeg) fun s4 =>
    obn (oln2 κ s4 x0) fun v7 =>
    obn (ocy s4 x0 0 (some σ.2.1) 0 ((if x1 < v7 then x1 else v7))) fun s9 =>
    some (some (va_rf (some σ.2.1)), s9))
set_option maxHeartbeats 4000000 in
theorem qb_J7_copyOf_c38d5 {κ : oKv} {n : Nat} {call : oCl} {kc : Nat → List Value → oSt → Option Value × oSt → Prop} {v : Option Value × oSt} {X : Nat → zLv → List Value → oSt → Prop} (hX : oSem RJ7 cJ7_copyOf_c38d5 3 1 (some (.array .long)) κ kc v X) (hc : ∀ j av s w, call j av s = some w → kc j av s w) {x0 : Option Nat} {x1 : Int32} {σ : oSt} (h : ob_J7_copyOf_c38d5 n call κ x0 x1 σ = some v) : X 0 [some (va_rf x0), some (.int x1), none] [] σ := by
  rw [ob_J7_copyOf_c38d5] at h
  refine os_iload_n hX dJ7_copyOf_c38d5_0 rfl rfl ?_
  refine os_aload_n (r := x0) hX dJ7_copyOf_c38d5_1 rfl rfl ?_
  obtain ⟨v1, e2, h⟩ := obn_e h
  refine ow_len (r := x0) hX dJ7_copyOf_c38d5_2 e2 ?_
  refine os_icmp_ne (tgt := 14) hX dJ7_copyOf_c38d5_3 (by decide) (fun c3 => ?_) (fun c3 => ?_)
  · rw [if_neg c3] at h
    refine os_iload_n hX dJ7_copyOf_c38d5_14 rfl rfl ?_
    obtain ⟨b6, h⟩ := ogd_e h
    obtain ⟨s4, e5, h⟩ := olet_e h
    refine os_newJ hX dJ7_copyOf_c38d5_15 (onn_e b6).1 (onn_e b6).2 ?_
    rw [← e5]
    refine os_astore_n (r := (some σ.2.1)) hX dJ7_copyOf_c38d5_17 rfl (by decide) rfl ?_
    dsimp only [List.set]
    refine os_aload_n (r := x0) hX dJ7_copyOf_c38d5_18 rfl rfl ?_
    refine os_iconst (v := 0) hX dJ7_copyOf_c38d5_19 (by decide) ?_
    refine os_aload_n (r := (some σ.2.1)) hX dJ7_copyOf_c38d5_20 rfl rfl ?_
    refine os_iconst (v := 0) hX dJ7_copyOf_c38d5_21 (by decide) ?_
    refine os_aload_n (r := x0) hX dJ7_copyOf_c38d5_22 rfl rfl ?_
    obtain ⟨v7, e8, h⟩ := obn_e h
    refine ow_len (r := x0) hX dJ7_copyOf_c38d5_23 e8 ?_
    refine os_iload_n hX dJ7_copyOf_c38d5_24 rfl rfl ?_
    refine os_mmin hX dJ7_copyOf_c38d5_25 ommin_RJ7_304 (by simp only [List.map_cons, List.map_nil, List.sum_cons, List.sum_nil, ocat]; exact Nat.le_of_ble_eq_true rfl) ?_
    obtain ⟨s9, e10, h⟩ := obn_e h
    refine ow_cpy (r0 := x0) (r1 := (some σ.2.1)) (sp := 0) (dp := 0) (n := ((if x1 < v7 then x1 else v7))) hX dJ7_copyOf_c38d5_28 oC_RJ7_150 (Nat.le_of_ble_eq_true rfl) e10 ?_
    refine os_aload_n (r := (some σ.2.1)) hX dJ7_copyOf_c38d5_31 rfl rfl ?_
    exact os_aretA (r := (some σ.2.1)) hX dJ7_copyOf_c38d5_32 rfl (Option.some.inj h)
  · rw [if_pos c3] at h
    refine os_aload_n (r := x0) hX dJ7_copyOf_c38d5_6 rfl rfl ?_
    cases h
def ob_J7_copyOf_9075b (n : Nat) (call : oCl) (κ : oKv) (x0 : Option Nat) (x1 : Int32) (σ : oSt) : oRs :=
  obn (oln2 κ σ x0) fun v1 =>
  if x1 = v1 then
    none
  else
    ogd (onn x1) (
    olet (onew σ (.inl (.byte, x1.toNatClampNeg, .inl (fun _ => 0))) x1.toNatClampNeg) fun s4 =>
    obn (oln2 κ s4 x0) fun v7 =>
    obn (ocy s4 x0 0 (some σ.2.1) 0 ((if x1 < v7 then x1 else v7))) fun s9 =>
    some (some (va_rf (some σ.2.1)), s9))
set_option maxHeartbeats 4000000 in
theorem qb_J7_copyOf_9075b {κ : oKv} {n : Nat} {call : oCl} {kc : Nat → List Value → oSt → Option Value × oSt → Prop} {v : Option Value × oSt} {X : Nat → zLv → List Value → oSt → Prop} (hX : oSem RJ7 cJ7_copyOf_9075b 3 1 (some (.array .byte)) κ kc v X) (hc : ∀ j av s w, call j av s = some w → kc j av s w) {x0 : Option Nat} {x1 : Int32} {σ : oSt} (h : ob_J7_copyOf_9075b n call κ x0 x1 σ = some v) : X 0 [some (va_rf x0), some (.int x1), none] [] σ := by
  rw [ob_J7_copyOf_9075b] at h
  refine os_iload_n hX dJ7_copyOf_9075b_0 rfl rfl ?_
  refine os_aload_n (r := x0) hX dJ7_copyOf_9075b_1 rfl rfl ?_
  obtain ⟨v1, e2, h⟩ := obn_e h
  refine ow_len (r := x0) hX dJ7_copyOf_9075b_2 e2 ?_
  refine os_icmp_ne (tgt := 14) hX dJ7_copyOf_9075b_3 (by decide) (fun c3 => ?_) (fun c3 => ?_)
  · rw [if_neg c3] at h
    refine os_iload_n hX dJ7_copyOf_9075b_14 rfl rfl ?_
    obtain ⟨b6, h⟩ := ogd_e h
    obtain ⟨s4, e5, h⟩ := olet_e h
    refine os_newB hX dJ7_copyOf_9075b_15 (onn_e b6).1 (onn_e b6).2 ?_
    rw [← e5]
    refine os_astore_n (r := (some σ.2.1)) hX dJ7_copyOf_9075b_17 rfl (by decide) rfl ?_
    dsimp only [List.set]
    refine os_aload_n (r := x0) hX dJ7_copyOf_9075b_18 rfl rfl ?_
    refine os_iconst (v := 0) hX dJ7_copyOf_9075b_19 (by decide) ?_
    refine os_aload_n (r := (some σ.2.1)) hX dJ7_copyOf_9075b_20 rfl rfl ?_
    refine os_iconst (v := 0) hX dJ7_copyOf_9075b_21 (by decide) ?_
    refine os_aload_n (r := x0) hX dJ7_copyOf_9075b_22 rfl rfl ?_
    obtain ⟨v7, e8, h⟩ := obn_e h
    refine ow_len (r := x0) hX dJ7_copyOf_9075b_23 e8 ?_
    refine os_iload_n hX dJ7_copyOf_9075b_24 rfl rfl ?_
    refine os_mmin hX dJ7_copyOf_9075b_25 ommin_RJ7_304 (by simp only [List.map_cons, List.map_nil, List.sum_cons, List.sum_nil, ocat]; exact Nat.le_of_ble_eq_true rfl) ?_
    obtain ⟨s9, e10, h⟩ := obn_e h
    refine ow_cpy (r0 := x0) (r1 := (some σ.2.1)) (sp := 0) (dp := 0) (n := ((if x1 < v7 then x1 else v7))) hX dJ7_copyOf_9075b_28 oC_RJ7_150 (Nat.le_of_ble_eq_true rfl) e10 ?_
    refine os_aload_n (r := (some σ.2.1)) hX dJ7_copyOf_9075b_31 rfl rfl ?_
    exact os_aretA (r := (some σ.2.1)) hX dJ7_copyOf_9075b_32 rfl (Option.some.inj h)
  · rw [if_pos c3] at h
    refine os_aload_n (r := x0) hX dJ7_copyOf_9075b_6 rfl rfl ?_
    cases h
def ol_J7_fill_d0a16_6 (n : Nat) (call : oCl) (κ : oKv) : Nat → Option Nat → Int64 → Int32 → Int32 → oSt → oRs
  | 0, _, _, _, _, _ => none
  | f + 1, x0, x1, x3, x4, σ =>
    if x4 ≤ x3 then
      some (none, σ)
    else
      obn (osj σ x0 x3 x1) fun s2 =>
      ol_J7_fill_d0a16_6 n call κ f x0 x1 (x3 + 1) x4 s2
def ob_J7_fill_d0a16 (n : Nat) (call : oCl) (κ : oKv) (x0 : Option Nat) (x1 : Int64) (σ : oSt) : oRs :=
  obn (oln2 κ σ x0) fun v1 =>
  ol_J7_fill_d0a16_6 n call κ n x0 x1 0 v1 σ
set_option maxHeartbeats 4000000 in
theorem ql_J7_fill_d0a16_6 {κ : oKv} {n : Nat} {call : oCl} {kc : Nat → List Value → oSt → Option Value × oSt → Prop} {v : Option Value × oSt} {X : Nat → zLv → List Value → oSt → Prop} (hX : oSem RJ7 cJ7_fill_d0a16 5 1 none κ kc v X) (hc : ∀ j av s w, call j av s = some w → kc j av s w) : ∀ (f : Nat) (x0 : Option Nat) (x1 : Int64) (x3 : Int32) (x4 : Int32) (σ : oSt), ol_J7_fill_d0a16_6 n call κ f x0 x1 x3 x4 σ = some v → X 6 [some (va_rf x0), some (.long x1), none, some (.int x3), some (.int x4)] [] σ := by
  intro f
  induction f with
  | zero => intro x0 x1 x3 x4 σ h; cases h
  | succ f hk6 =>
    intro x0 x1 x3 x4 σ h
    rw [ol_J7_fill_d0a16_6] at h
    refine os_iload_n hX dJ7_fill_d0a16_6 rfl rfl ?_
    refine os_iload hX dJ7_fill_d0a16_7 rfl ?_
    refine os_icmp_ge (tgt := 22) hX dJ7_fill_d0a16_9 (by decide) (fun c1 => ?_) (fun c1 => ?_)
    · rw [if_pos c1] at h
      exact os_vret hX dJ7_fill_d0a16_22 rfl (Option.some.inj h)
    · rw [if_neg c1] at h
      refine os_aload_n (r := x0) hX dJ7_fill_d0a16_12 rfl rfl ?_
      refine os_iload_n hX dJ7_fill_d0a16_13 rfl rfl ?_
      refine os_lload_n hX dJ7_fill_d0a16_14 rfl rfl ?_
      obtain ⟨s2, e3, h⟩ := obn_e h
      refine ow_sj (r := x0) (i := x3) (x := x1) hX dJ7_fill_d0a16_15 e3 ?_
      refine os_iinc (v := x3 + 1) hX dJ7_fill_d0a16_16 rfl rfl (by decide) rfl ?_
      dsimp only [List.set]
      refine os_goto (tgt := 6) hX dJ7_fill_d0a16_19 (by decide) ?_
      exact hk6 _ _ _ _ _ h
set_option maxHeartbeats 4000000 in
theorem qb_J7_fill_d0a16 {κ : oKv} {n : Nat} {call : oCl} {kc : Nat → List Value → oSt → Option Value × oSt → Prop} {v : Option Value × oSt} {X : Nat → zLv → List Value → oSt → Prop} (hX : oSem RJ7 cJ7_fill_d0a16 5 1 none κ kc v X) (hc : ∀ j av s w, call j av s = some w → kc j av s w) {x0 : Option Nat} {x1 : Int64} {σ : oSt} (h : ob_J7_fill_d0a16 n call κ x0 x1 σ = some v) : X 0 [some (va_rf x0), some (.long x1), none, none, none] [] σ := by
  rw [ob_J7_fill_d0a16] at h
  refine os_iconst (v := 0) hX dJ7_fill_d0a16_0 (by decide) ?_
  refine os_istore_n hX dJ7_fill_d0a16_1 rfl (by decide) rfl ?_
  dsimp only [List.set]
  refine os_aload_n (r := x0) hX dJ7_fill_d0a16_2 rfl rfl ?_
  obtain ⟨v1, e2, h⟩ := obn_e h
  refine ow_len (r := x0) hX dJ7_fill_d0a16_3 e2 ?_
  refine os_istore hX dJ7_fill_d0a16_4 (by decide) rfl ?_
  dsimp only [List.set]
  exact ql_J7_fill_d0a16_6 hX hc n _ _ _ _ _ h
def ol_J7_fill_53178_5 (n : Nat) (call : oCl) (κ : oKv) : Nat → Option Nat → Int32 → Int32 → Int32 → oSt → oRs
  | 0, _, _, _, _, _ => none
  | f + 1, x0, x1, x2, x3, σ =>
    if x3 ≤ x2 then
      some (none, σ)
    else
      obn (osi σ x0 .int x2 x1) fun s2 =>
      ol_J7_fill_53178_5 n call κ f x0 x1 (x2 + 1) x3 s2
def ob_J7_fill_53178 (n : Nat) (call : oCl) (κ : oKv) (x0 : Option Nat) (x1 : Int32) (σ : oSt) : oRs :=
  obn (oln2 κ σ x0) fun v1 =>
  ol_J7_fill_53178_5 n call κ n x0 x1 0 v1 σ
set_option maxHeartbeats 4000000 in
theorem ql_J7_fill_53178_5 {κ : oKv} {n : Nat} {call : oCl} {kc : Nat → List Value → oSt → Option Value × oSt → Prop} {v : Option Value × oSt} {X : Nat → zLv → List Value → oSt → Prop} (hX : oSem RJ7 cJ7_fill_53178 4 1 none κ kc v X) (hc : ∀ j av s w, call j av s = some w → kc j av s w) : ∀ (f : Nat) (x0 : Option Nat) (x1 : Int32) (x2 : Int32) (x3 : Int32) (σ : oSt), ol_J7_fill_53178_5 n call κ f x0 x1 x2 x3 σ = some v → X 5 [some (va_rf x0), some (.int x1), some (.int x2), some (.int x3)] [] σ := by
  intro f
  induction f with
  | zero => intro x0 x1 x2 x3 σ h; cases h
  | succ f hk5 =>
    intro x0 x1 x2 x3 σ h
    rw [ol_J7_fill_53178_5] at h
    refine os_iload_n hX dJ7_fill_53178_5 rfl rfl ?_
    refine os_iload_n hX dJ7_fill_53178_6 rfl rfl ?_
    refine os_icmp_ge (tgt := 20) hX dJ7_fill_53178_7 (by decide) (fun c1 => ?_) (fun c1 => ?_)
    · rw [if_pos c1] at h
      exact os_vret hX dJ7_fill_53178_20 rfl (Option.some.inj h)
    · rw [if_neg c1] at h
      refine os_aload_n (r := x0) hX dJ7_fill_53178_10 rfl rfl ?_
      refine os_iload_n hX dJ7_fill_53178_11 rfl rfl ?_
      refine os_iload_n hX dJ7_fill_53178_12 rfl rfl ?_
      obtain ⟨s2, e3, h⟩ := obn_e h
      refine ow_si (r := x0) (i := x2) (x := x1) hX dJ7_fill_53178_13 e3 ?_
      refine os_iinc (v := x2 + 1) hX dJ7_fill_53178_14 rfl rfl (by decide) rfl ?_
      dsimp only [List.set]
      refine os_goto (tgt := 5) hX dJ7_fill_53178_17 (by decide) ?_
      exact hk5 _ _ _ _ _ h
set_option maxHeartbeats 4000000 in
theorem qb_J7_fill_53178 {κ : oKv} {n : Nat} {call : oCl} {kc : Nat → List Value → oSt → Option Value × oSt → Prop} {v : Option Value × oSt} {X : Nat → zLv → List Value → oSt → Prop} (hX : oSem RJ7 cJ7_fill_53178 4 1 none κ kc v X) (hc : ∀ j av s w, call j av s = some w → kc j av s w) {x0 : Option Nat} {x1 : Int32} {σ : oSt} (h : ob_J7_fill_53178 n call κ x0 x1 σ = some v) : X 0 [some (va_rf x0), some (.int x1), none, none] [] σ := by
  rw [ob_J7_fill_53178] at h
  refine os_iconst (v := 0) hX dJ7_fill_53178_0 (by decide) ?_
  refine os_istore_n hX dJ7_fill_53178_1 rfl (by decide) rfl ?_
  dsimp only [List.set]
  refine os_aload_n (r := x0) hX dJ7_fill_53178_2 rfl rfl ?_
  obtain ⟨v1, e2, h⟩ := obn_e h
  refine ow_len (r := x0) hX dJ7_fill_53178_3 e2 ?_
  refine os_istore_n hX dJ7_fill_53178_4 rfl (by decide) rfl ?_
  dsimp only [List.set]
  exact ql_J7_fill_53178_5 hX hc n _ _ _ _ _ h
def ob_J9_floorDiv_f86c9 (n : Nat) (call : oCl) (κ : oKv) (x0 : Int64) (x2 : Int64) (σ : oSt) : oRs :=
  ogd (decide (¬ x2 = 0)) (
  if 0 ≤ (lg_cmp (x0 ^^^ x2) 0) then
    some (some (.long (x0 / x2)), σ)
  else
    if (lg_cmp ((x0 / x2) * x2) x0) = 0 then
      some (some (.long (x0 / x2)), σ)
    else
      some (some (.long ((x0 / x2) - 1)), σ))
set_option maxHeartbeats 4000000 in
theorem qb_J9_floorDiv_f86c9 {κ : oKv} {n : Nat} {call : oCl} {kc : Nat → List Value → oSt → Option Value × oSt → Prop} {v : Option Value × oSt} {X : Nat → zLv → List Value → oSt → Prop} (hX : oSem RJ9 cJ9_floorDiv_f86c9 6 1 (some .long) κ kc v X) (hc : ∀ j av s w, call j av s = some w → kc j av s w) {x0 : Int64} {x2 : Int64} {σ : oSt} (h : ob_J9_floorDiv_f86c9 n call κ x0 x2 σ = some v) : X 0 [some (.long x0), none, some (.long x2), none, none, none] [] σ := by
  rw [ob_J9_floorDiv_f86c9] at h
  refine os_lload_n hX dJ9_floorDiv_f86c9_0 rfl rfl ?_
  refine os_lload_n hX dJ9_floorDiv_f86c9_1 rfl rfl ?_
  obtain ⟨b1, h⟩ := ogd_e h
  refine os_ldiv hX dJ9_floorDiv_f86c9_2 (znz_ok b1) ?_
  refine os_lstore hX dJ9_floorDiv_f86c9_3 (by decide) rfl ?_
  dsimp only [List.set]
  refine os_lload_n hX dJ9_floorDiv_f86c9_5 rfl rfl ?_
  refine os_lload_n hX dJ9_floorDiv_f86c9_6 rfl rfl ?_
  refine os_lxor hX dJ9_floorDiv_f86c9_7 ?_
  refine os_lconst (v := 0) hX dJ9_floorDiv_f86c9_8 (by decide) ?_
  refine os_lcmp hX dJ9_floorDiv_f86c9_9 ?_
  refine os_if_ge (tgt := 27) hX dJ9_floorDiv_f86c9_10 (by decide) (fun c2 => ?_) (fun c2 => ?_)
  · rw [if_pos c2] at h
    refine os_lload hX dJ9_floorDiv_f86c9_27 rfl ?_
    exact os_lret hX dJ9_floorDiv_f86c9_29 rfl (Option.some.inj h)
  · rw [if_neg c2] at h
    refine os_lload hX dJ9_floorDiv_f86c9_13 rfl ?_
    refine os_lload_n hX dJ9_floorDiv_f86c9_15 rfl rfl ?_
    refine os_lmul hX dJ9_floorDiv_f86c9_16 ?_
    refine os_lload_n hX dJ9_floorDiv_f86c9_17 rfl rfl ?_
    refine os_lcmp hX dJ9_floorDiv_f86c9_18 ?_
    refine os_if_eq (tgt := 27) hX dJ9_floorDiv_f86c9_19 (by decide) (fun c3 => ?_) (fun c3 => ?_)
    · rw [if_pos c3] at h
      refine os_lload hX dJ9_floorDiv_f86c9_27 rfl ?_
      exact os_lret hX dJ9_floorDiv_f86c9_29 rfl (Option.some.inj h)
    · rw [if_neg c3] at h
      refine os_lload hX dJ9_floorDiv_f86c9_22 rfl ?_
      refine os_lconst (v := 1) hX dJ9_floorDiv_f86c9_24 (by decide) ?_
      refine os_lsub hX dJ9_floorDiv_f86c9_25 ?_
      exact os_lret hX dJ9_floorDiv_f86c9_26 rfl (Option.some.inj h)
def ob_J9_floorMod_f86c9 (n : Nat) (call : oCl) (κ : oKv) (x0 : Int64) (x2 : Int64) (σ : oSt) : oRs :=
  ogd (decide (¬ x2 = 0)) (
  if 0 ≤ (lg_cmp (x0 ^^^ x2) 0) then
    some (some (.long (x0 - x0 / x2 * x2)), σ)
  else
    if (lg_cmp (x0 - x0 / x2 * x2) 0) = 0 then
      some (some (.long (x0 - x0 / x2 * x2)), σ)
    else
      some (some (.long ((x0 - x0 / x2 * x2) + x2)), σ))
set_option maxHeartbeats 4000000 in
theorem qb_J9_floorMod_f86c9 {κ : oKv} {n : Nat} {call : oCl} {kc : Nat → List Value → oSt → Option Value × oSt → Prop} {v : Option Value × oSt} {X : Nat → zLv → List Value → oSt → Prop} (hX : oSem RJ9 cJ9_floorMod_f86c9 6 1 (some .long) κ kc v X) (hc : ∀ j av s w, call j av s = some w → kc j av s w) {x0 : Int64} {x2 : Int64} {σ : oSt} (h : ob_J9_floorMod_f86c9 n call κ x0 x2 σ = some v) : X 0 [some (.long x0), none, some (.long x2), none, none, none] [] σ := by
  rw [ob_J9_floorMod_f86c9] at h
  refine os_lload_n hX dJ9_floorMod_f86c9_0 rfl rfl ?_
  refine os_lload_n hX dJ9_floorMod_f86c9_1 rfl rfl ?_
  obtain ⟨b1, h⟩ := ogd_e h
  refine os_lrem hX dJ9_floorMod_f86c9_2 (znz_ok b1) ?_
  refine os_lstore hX dJ9_floorMod_f86c9_3 (by decide) rfl ?_
  dsimp only [List.set]
  refine os_lload_n hX dJ9_floorMod_f86c9_5 rfl rfl ?_
  refine os_lload_n hX dJ9_floorMod_f86c9_6 rfl rfl ?_
  refine os_lxor hX dJ9_floorMod_f86c9_7 ?_
  refine os_lconst (v := 0) hX dJ9_floorMod_f86c9_8 (by decide) ?_
  refine os_lcmp hX dJ9_floorMod_f86c9_9 ?_
  refine os_if_ge (tgt := 25) hX dJ9_floorMod_f86c9_10 (by decide) (fun c2 => ?_) (fun c2 => ?_)
  · rw [if_pos c2] at h
    refine os_lload hX dJ9_floorMod_f86c9_25 rfl ?_
    exact os_lret hX dJ9_floorMod_f86c9_27 rfl (Option.some.inj h)
  · rw [if_neg c2] at h
    refine os_lload hX dJ9_floorMod_f86c9_13 rfl ?_
    refine os_lconst (v := 0) hX dJ9_floorMod_f86c9_15 (by decide) ?_
    refine os_lcmp hX dJ9_floorMod_f86c9_16 ?_
    refine os_if_eq (tgt := 25) hX dJ9_floorMod_f86c9_17 (by decide) (fun c3 => ?_) (fun c3 => ?_)
    · rw [if_pos c3] at h
      refine os_lload hX dJ9_floorMod_f86c9_25 rfl ?_
      exact os_lret hX dJ9_floorMod_f86c9_27 rfl (Option.some.inj h)
    · rw [if_neg c3] at h
      refine os_lload hX dJ9_floorMod_f86c9_20 rfl ?_
      refine os_lload_n hX dJ9_floorMod_f86c9_22 rfl rfl ?_
      refine os_ladd hX dJ9_floorMod_f86c9_23 ?_
      exact os_lret hX dJ9_floorMod_f86c9_24 rfl (Option.some.inj h)
