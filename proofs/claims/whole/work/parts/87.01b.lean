/-! the methods of the class as plain functions (21 to 35) -/
def ol_X10_root_4 (n : Nat) (call : oCl) (κ : oKv) : Nat → Option Nat → Int32 → Int32 → oSt → oRs
  | 0, _, _, _, _ => none
  | f + 1, x0, x2, x3, σ =>
    obn (ovi (ofd σ x0 12 6)) fun v1 =>
    if v1 ≤ x3 then
      some (some (.int x2), σ)
    else
      obn (ovr (ofd σ x0 12 3)) fun v4 =>
      obn (oai σ v4 .int x2) fun v6 =>
      if v6 = x2 then
        some (some (.int x2), σ)
      else
        obn (ovr (ofd σ x0 12 3)) fun v9 =>
        obn (oai σ v9 .int x2) fun v11 =>
        ol_X10_root_4 n call κ f x0 v11 (x3 + 1) σ
def ob_X10_root (n : Nat) (call : oCl) (κ : oKv) (x0 : Option Nat) (x1 : Int32) (σ : oSt) : oRs :=
  ol_X10_root_4 n call κ n x0 x1 0 σ
set_option maxHeartbeats 4000000 in
theorem ql_X10_root_4 {κ : oKv} {n : Nat} {call : oCl} {kc : Nat → List Value → oSt → Option Value × oSt → Prop} {v : Option Value × oSt} {X : Nat → zLv → List Value → oSt → Prop} (hX : oSem RX10 cX10_root 4 0 (some .int) κ kc v X) (hc : ∀ j av s w, call j av s = some w → kc j av s w) : ∀ (f : Nat) (x0 : Option Nat) (x2 : Int32) (x3 : Int32) (σ : oSt), ol_X10_root_4 n call κ f x0 x2 x3 σ = some v → X 4 [some (va_rf x0), none, some (.int x2), some (.int x3)] [] σ := by
  intro f
  induction f with
  | zero => intro x0 x2 x3 σ h; cases h
  | succ f hk4 =>
    intro x0 x2 x3 σ h
    rw [ol_X10_root_4] at h
    refine os_iload_n hX dX10_root_4 rfl rfl ?_
    refine os_aload_n (r := x0) hX dX10_root_5 rfl rfl ?_
    obtain ⟨v1, e2, h⟩ := obn_e h
    refine ow_get (r := x0) hX dX10_root_6 oF_RX10_86 (ovi_e e2) ?_
    refine os_icmp_ge (tgt := 35) hX dX10_root_9 (by decide) (fun c3 => ?_) (fun c3 => ?_)
    · rw [if_pos c3] at h
      refine os_iload_n hX dX10_root_35 rfl rfl ?_
      exact os_iret hX dX10_root_36 rfl (Option.some.inj h)
    · rw [if_neg c3] at h
      refine os_aload_n (r := x0) hX dX10_root_12 rfl rfl ?_
      obtain ⟨v4, e5, h⟩ := obn_e h
      refine ow_get (r := x0) hX dX10_root_13 oF_RX10_28 (ovr_e e5) ?_
      refine os_iload_n hX dX10_root_16 rfl rfl ?_
      obtain ⟨v6, e7, h⟩ := obn_e h
      refine ow_ai (r := v4) (i := x2) hX dX10_root_17 e7 ?_
      refine os_iload_n hX dX10_root_18 rfl rfl ?_
      refine os_icmp_eq (tgt := 35) hX dX10_root_19 (by decide) (fun c8 => ?_) (fun c8 => ?_)
      · rw [if_pos c8] at h
        refine os_iload_n hX dX10_root_35 rfl rfl ?_
        exact os_iret hX dX10_root_36 rfl (Option.some.inj h)
      · rw [if_neg c8] at h
        refine os_aload_n (r := x0) hX dX10_root_22 rfl rfl ?_
        obtain ⟨v9, e10, h⟩ := obn_e h
        refine ow_get (r := x0) hX dX10_root_23 oF_RX10_28 (ovr_e e10) ?_
        refine os_iload_n hX dX10_root_26 rfl rfl ?_
        obtain ⟨v11, e12, h⟩ := obn_e h
        refine ow_ai (r := v9) (i := x2) hX dX10_root_27 e12 ?_
        refine os_istore_n hX dX10_root_28 rfl (by decide) rfl ?_
        dsimp only [List.set]
        refine os_iinc (v := x3 + 1) hX dX10_root_29 rfl rfl (by decide) rfl ?_
        dsimp only [List.set]
        refine os_goto (tgt := 4) hX dX10_root_32 (by decide) ?_
        exact hk4 _ _ _ _ h
set_option maxHeartbeats 4000000 in
theorem qb_X10_root {κ : oKv} {n : Nat} {call : oCl} {kc : Nat → List Value → oSt → Option Value × oSt → Prop} {v : Option Value × oSt} {X : Nat → zLv → List Value → oSt → Prop} (hX : oSem RX10 cX10_root 4 0 (some .int) κ kc v X) (hc : ∀ j av s w, call j av s = some w → kc j av s w) {x0 : Option Nat} {x1 : Int32} {σ : oSt} (h : ob_X10_root n call κ x0 x1 σ = some v) : X 0 [some (va_rf x0), some (.int x1), none, none] [] σ := by
  rw [ob_X10_root] at h
  refine os_iload_n hX dX10_root_0 rfl rfl ?_
  refine os_istore_n hX dX10_root_1 rfl (by decide) rfl ?_
  dsimp only [List.set]
  refine os_iconst (v := 0) hX dX10_root_2 (by decide) ?_
  refine os_istore_n hX dX10_root_3 rfl (by decide) rfl ?_
  dsimp only [List.set]
  refine os_weak hX (lw := [some (va_rf x0), none, some (.int x1), some (.int 0)]) ⟨rfl, rfl, rfl, trivial⟩ ?_
  exact ql_X10_root_4 hX hc n _ _ _ _ h
def ob_X10_kindOf (n : Nat) (call : oCl) (κ : oKv) (x0 : Option Nat) (x1 : Int32) (σ : oSt) : oRs :=
  obn (ovr (ofd σ x0 12 0)) fun v1 =>
  obn (oob σ x0 12) fun a3 =>
  oin (call 21 [va_rf x0, .int x1] σ) fun r7 s5 =>
  obn (oai s5 v1 .int r7) fun v8 =>
  if v8 = 0 then
    some (some (.int 210), s5)
  else
    some (some (.int v8), s5)
set_option maxHeartbeats 4000000 in
theorem qb_X10_kindOf {κ : oKv} {n : Nat} {call : oCl} {kc : Nat → List Value → oSt → Option Value × oSt → Prop} {v : Option Value × oSt} {X : Nat → zLv → List Value → oSt → Prop} (hX : oSem RX10 cX10_kindOf 3 0 (some .int) κ kc v X) (hc : ∀ j av s w, call j av s = some w → kc j av s w) {x0 : Option Nat} {x1 : Int32} {σ : oSt} (h : ob_X10_kindOf n call κ x0 x1 σ = some v) : X 0 [some (va_rf x0), some (.int x1), none] [] σ := by
  rw [ob_X10_kindOf] at h
  refine os_aload_n (r := x0) hX dX10_kindOf_0 rfl rfl ?_
  obtain ⟨v1, e2, h⟩ := obn_e h
  refine ow_get (r := x0) hX dX10_kindOf_1 oF_RX10_18 (ovr_e e2) ?_
  refine os_aload_n (r := x0) hX dX10_kindOf_4 rfl rfl ?_
  refine os_iload_n hX dX10_kindOf_5 rfl rfl ?_
  obtain ⟨a3, e4, h⟩ := obn_e h
  obtain ⟨r7, s5, e6, h⟩ := oin_e h
  refine oc_RX10_89 (rb := x0) (a1 := .int x1) hX dX10_kindOf_6 (by simp only [List.map_cons, List.map_nil, List.sum_cons, List.sum_nil, ocat]; exact Nat.le_of_ble_eq_true rfl) e4 (hc _ _ _ _ e6) ?_
  obtain ⟨v8, e9, h⟩ := obn_e h
  refine ow_ai (r := v1) (i := r7) hX dX10_kindOf_9 e9 ?_
  refine os_istore_n hX dX10_kindOf_10 rfl (by decide) rfl ?_
  dsimp only [List.set]
  refine os_iload_n hX dX10_kindOf_11 rfl rfl ?_
  refine os_if_ne (tgt := 21) hX dX10_kindOf_12 (by decide) (fun c10 => ?_) (fun c10 => ?_)
  · rw [if_neg c10] at h
    refine os_iload_n hX dX10_kindOf_21 rfl rfl ?_
    exact os_iret hX dX10_kindOf_22 rfl (Option.some.inj h)
  · rw [if_pos c10] at h
    refine os_sipush (v := 210) hX dX10_kindOf_15 (by decide) ?_
    refine os_goto (tgt := 22) hX dX10_kindOf_18 (by decide) ?_
    exact os_iret hX dX10_kindOf_22 rfl (Option.some.inj h)
def ob_X10_takenBy (n : Nat) (call : oCl) (κ : oKv) (x0 : Option Nat) (x1 : Int32) (σ : oSt) : oRs :=
  obn (ovr (ofd σ x0 12 1)) fun v1 =>
  obn (oob σ x0 12) fun a3 =>
  oin (call 21 [va_rf x0, .int x1] σ) fun r7 s5 =>
  obn (oai s5 v1 .int r7) fun v8 =>
  some (some (.int v8), s5)
set_option maxHeartbeats 4000000 in
theorem qb_X10_takenBy {κ : oKv} {n : Nat} {call : oCl} {kc : Nat → List Value → oSt → Option Value × oSt → Prop} {v : Option Value × oSt} {X : Nat → zLv → List Value → oSt → Prop} (hX : oSem RX10 cX10_takenBy 2 0 (some .int) κ kc v X) (hc : ∀ j av s w, call j av s = some w → kc j av s w) {x0 : Option Nat} {x1 : Int32} {σ : oSt} (h : ob_X10_takenBy n call κ x0 x1 σ = some v) : X 0 [some (va_rf x0), some (.int x1)] [] σ := by
  rw [ob_X10_takenBy] at h
  refine os_aload_n (r := x0) hX dX10_takenBy_0 rfl rfl ?_
  obtain ⟨v1, e2, h⟩ := obn_e h
  refine ow_get (r := x0) hX dX10_takenBy_1 oF_RX10_22 (ovr_e e2) ?_
  refine os_aload_n (r := x0) hX dX10_takenBy_4 rfl rfl ?_
  refine os_iload_n hX dX10_takenBy_5 rfl rfl ?_
  obtain ⟨a3, e4, h⟩ := obn_e h
  obtain ⟨r7, s5, e6, h⟩ := oin_e h
  refine oc_RX10_89 (rb := x0) (a1 := .int x1) hX dX10_takenBy_6 (by simp only [List.map_cons, List.map_nil, List.sum_cons, List.sum_nil, ocat]; exact Nat.le_of_ble_eq_true rfl) e4 (hc _ _ _ _ e6) ?_
  obtain ⟨v8, e9, h⟩ := obn_e h
  refine ow_ai (r := v1) (i := r7) hX dX10_takenBy_9 e9 ?_
  exact os_iret hX dX10_takenBy_10 rfl (Option.some.inj h)
def ob_X10_answeredBy (n : Nat) (call : oCl) (κ : oKv) (x0 : Option Nat) (x1 : Int32) (σ : oSt) : oRs :=
  obn (ovr (ofd σ x0 12 2)) fun v1 =>
  obn (oob σ x0 12) fun a3 =>
  oin (call 21 [va_rf x0, .int x1] σ) fun r7 s5 =>
  obn (oai s5 v1 .int r7) fun v8 =>
  some (some (.int v8), s5)
set_option maxHeartbeats 4000000 in
theorem qb_X10_answeredBy {κ : oKv} {n : Nat} {call : oCl} {kc : Nat → List Value → oSt → Option Value × oSt → Prop} {v : Option Value × oSt} {X : Nat → zLv → List Value → oSt → Prop} (hX : oSem RX10 cX10_answeredBy 2 0 (some .int) κ kc v X) (hc : ∀ j av s w, call j av s = some w → kc j av s w) {x0 : Option Nat} {x1 : Int32} {σ : oSt} (h : ob_X10_answeredBy n call κ x0 x1 σ = some v) : X 0 [some (va_rf x0), some (.int x1)] [] σ := by
  rw [ob_X10_answeredBy] at h
  refine os_aload_n (r := x0) hX dX10_answeredBy_0 rfl rfl ?_
  obtain ⟨v1, e2, h⟩ := obn_e h
  refine ow_get (r := x0) hX dX10_answeredBy_1 oF_RX10_25 (ovr_e e2) ?_
  refine os_aload_n (r := x0) hX dX10_answeredBy_4 rfl rfl ?_
  refine os_iload_n hX dX10_answeredBy_5 rfl rfl ?_
  obtain ⟨a3, e4, h⟩ := obn_e h
  obtain ⟨r7, s5, e6, h⟩ := oin_e h
  refine oc_RX10_89 (rb := x0) (a1 := .int x1) hX dX10_answeredBy_6 (by simp only [List.map_cons, List.map_nil, List.sum_cons, List.sum_nil, ocat]; exact Nat.le_of_ble_eq_true rfl) e4 (hc _ _ _ _ e6) ?_
  obtain ⟨v8, e9, h⟩ := obn_e h
  refine ow_ai (r := v1) (i := r7) hX dX10_answeredBy_9 e9 ?_
  exact os_iret hX dX10_answeredBy_10 rfl (Option.some.inj h)
def oj_X0_instance_54 (n : Nat) (call : oCl) (κ : oKv) (x1 : Option Nat) (x2 : Int32) (σ : oSt) : oRs :=
  obn (ovr (ofd σ x1 6 5)) fun v1 =>
  obn (oar σ v1 x2) fun v3 =>
  some (some (va_rf v3), σ)
def oj_X0_instance_16 (n : Nat) (call : oCl) (κ : oKv) (x0 : Option Nat) (x1 : Option Nat) (x2 : Int32) (σ : oSt) : oRs :=
  obn (ovr (ofd σ x1 6 5)) fun v1 =>
  obn (oar σ v1 x2) fun v3 =>
  if v3 = none then
    obn (ovr (ofd σ x1 6 5)) fun v6 =>
    obn (ovr (ofd σ x0 2 0)) fun v8 =>
    obn (ovr (ofd σ v8 9 6)) fun v10 =>
    obn (oai σ v10 .int x2) fun v12 =>
    obn (ovr (ofd σ x0 2 0)) fun v14 =>
    obn (ovr (ofd σ v14 9 7)) fun v16 =>
    obn (oai σ v16 .int x2) fun v18 =>
    orn (call 11 [va_rf x1, .int v12, .long v18.toInt64] σ) fun r22 s20 =>
    obn (osr s20 v6 x2 r22) fun s23 =>
    oj_X0_instance_54 n call κ x1 x2 s23
  else
    oj_X0_instance_54 n call κ x1 x2 σ
def ob_X0_instance (n : Nat) (call : oCl) (κ : oKv) (x0 : Option Nat) (x1 : Option Nat) (x2 : Int32) (σ : oSt) : oRs :=
  obn (ovr (ofd σ x1 6 5)) fun v1 =>
  if v1 = none then
    ogd (onn 6) (
    olet (onew σ (.inl (.object (oq 11).1, (6 : Int32).toNatClampNeg, .inr (.inr (.inr (.inr (fun _ => none)))))) (6 : Int32).toNatClampNeg) fun s4 =>
    obn (opf s4 x1 6 5 (va_rf (some σ.2.1))) fun s7 =>
    oj_X0_instance_16 n call κ x0 x1 x2 s7)
  else
    oj_X0_instance_16 n call κ x0 x1 x2 σ
set_option maxHeartbeats 4000000 in
theorem qj_X0_instance_54 {κ : oKv} {n : Nat} {call : oCl} {kc : Nat → List Value → oSt → Option Value × oSt → Prop} {v : Option Value × oSt} {X : Nat → zLv → List Value → oSt → Prop} (hX : oSem RX0 cX0_instance 3 0 (some (.object "LiquidTongue$Sum")) κ kc v X) (hc : ∀ j av s w, call j av s = some w → kc j av s w) {x1 : Option Nat} {x2 : Int32} {σ : oSt} (h : oj_X0_instance_54 n call κ x1 x2 σ = some v) : X 54 [none, some (va_rf x1), some (.int x2)] [] σ := by
  rw [oj_X0_instance_54] at h
  refine os_aload_n (r := x1) hX dX0_instance_54 rfl rfl ?_
  obtain ⟨v1, e2, h⟩ := obn_e h
  refine ow_get (r := x1) hX dX0_instance_55 oF_RX0_316 (ovr_e e2) ?_
  refine os_iload_n hX dX0_instance_58 rfl rfl ?_
  obtain ⟨v3, e4, h⟩ := obn_e h
  refine ow_ar (r := v1) (i := x2) hX dX0_instance_59 e4 ?_
  exact os_aret (r := v3) hX dX0_instance_60 rfl (Option.some.inj h)
set_option maxHeartbeats 4000000 in
theorem qj_X0_instance_16 {κ : oKv} {n : Nat} {call : oCl} {kc : Nat → List Value → oSt → Option Value × oSt → Prop} {v : Option Value × oSt} {X : Nat → zLv → List Value → oSt → Prop} (hX : oSem RX0 cX0_instance 3 0 (some (.object "LiquidTongue$Sum")) κ kc v X) (hc : ∀ j av s w, call j av s = some w → kc j av s w) {x0 : Option Nat} {x1 : Option Nat} {x2 : Int32} {σ : oSt} (h : oj_X0_instance_16 n call κ x0 x1 x2 σ = some v) : X 16 [some (va_rf x0), some (va_rf x1), some (.int x2)] [] σ := by
  rw [oj_X0_instance_16] at h
  refine os_aload_n (r := x1) hX dX0_instance_16 rfl rfl ?_
  obtain ⟨v1, e2, h⟩ := obn_e h
  refine ow_get (r := x1) hX dX0_instance_17 oF_RX0_316 (ovr_e e2) ?_
  refine os_iload_n hX dX0_instance_20 rfl rfl ?_
  obtain ⟨v3, e4, h⟩ := obn_e h
  refine ow_ar (r := v1) (i := x2) hX dX0_instance_21 e4 ?_
  refine os_ifnonnull (r := v3) (tgt := 54) hX dX0_instance_22 (by decide) (fun c5 => ?_) (fun c5 => ?_)
  · rw [if_neg c5] at h
    refine os_weak hX (lw := [none, some (va_rf x1), some (.int x2)]) ⟨rfl, rfl, trivial⟩ ?_
    exact qj_X0_instance_54 hX hc h
  · rw [if_pos c5] at h
    refine os_aload_n (r := x1) hX dX0_instance_25 rfl rfl ?_
    obtain ⟨v6, e7, h⟩ := obn_e h
    refine ow_get (r := x1) hX dX0_instance_26 oF_RX0_316 (ovr_e e7) ?_
    refine os_iload_n hX dX0_instance_29 rfl rfl ?_
    refine os_aload_n (r := x1) hX dX0_instance_30 rfl rfl ?_
    refine os_aload_n (r := x0) hX dX0_instance_31 rfl rfl ?_
    obtain ⟨v8, e9, h⟩ := obn_e h
    refine ow_get (r := x0) hX dX0_instance_32 oF_RX0_37 (ovr_e e9) ?_
    obtain ⟨v10, e11, h⟩ := obn_e h
    refine ow_get (r := v8) hX dX0_instance_35 oF_RX0_303 (ovr_e e11) ?_
    refine os_iload_n hX dX0_instance_38 rfl rfl ?_
    obtain ⟨v12, e13, h⟩ := obn_e h
    refine ow_ai (r := v10) (i := x2) hX dX0_instance_39 e13 ?_
    refine os_aload_n (r := x0) hX dX0_instance_40 rfl rfl ?_
    obtain ⟨v14, e15, h⟩ := obn_e h
    refine ow_get (r := x0) hX dX0_instance_41 oF_RX0_37 (ovr_e e15) ?_
    obtain ⟨v16, e17, h⟩ := obn_e h
    refine ow_get (r := v14) hX dX0_instance_44 oF_RX0_309 (ovr_e e17) ?_
    refine os_iload_n hX dX0_instance_47 rfl rfl ?_
    obtain ⟨v18, e19, h⟩ := obn_e h
    refine ow_ai (r := v16) (i := x2) hX dX0_instance_48 e19 ?_
    refine os_i2l hX dX0_instance_49 ?_
    obtain ⟨r22, s20, e21, h⟩ := orn_e h
    refine oc_RX0_192 (a1 := va_rf x1) (a2 := .int v12) (a3 := .long v18.toInt64) hX dX0_instance_50 (by simp only [List.map_cons, List.map_nil, List.sum_cons, List.sum_nil, ocat]; exact Nat.le_of_ble_eq_true rfl) (hc _ _ _ _ e21) ?_
    obtain ⟨s23, e24, h⟩ := obn_e h
    refine ow_sr (r := v6) (i := x2) (y := r22) hX dX0_instance_53 e24 ?_
    refine os_weak hX (lw := [none, some (va_rf x1), some (.int x2)]) ⟨rfl, rfl, trivial⟩ ?_
    exact qj_X0_instance_54 hX hc h
set_option maxHeartbeats 4000000 in
theorem qb_X0_instance {κ : oKv} {n : Nat} {call : oCl} {kc : Nat → List Value → oSt → Option Value × oSt → Prop} {v : Option Value × oSt} {X : Nat → zLv → List Value → oSt → Prop} (hX : oSem RX0 cX0_instance 3 0 (some (.object "LiquidTongue$Sum")) κ kc v X) (hc : ∀ j av s w, call j av s = some w → kc j av s w) {x0 : Option Nat} {x1 : Option Nat} {x2 : Int32} {σ : oSt} (h : ob_X0_instance n call κ x0 x1 x2 σ = some v) : X 0 [some (va_rf x0), some (va_rf x1), some (.int x2)] [] σ := by
  rw [ob_X0_instance] at h
  refine os_aload_n (r := x1) hX dX0_instance_0 rfl rfl ?_
  obtain ⟨v1, e2, h⟩ := obn_e h
  refine ow_get (r := x1) hX dX0_instance_1 oF_RX0_316 (ovr_e e2) ?_
  refine os_ifnonnull (r := v1) (tgt := 16) hX dX0_instance_4 (by decide) (fun c3 => ?_) (fun c3 => ?_)
  · rw [if_neg c3] at h
    exact qj_X0_instance_16 hX hc h
  · rw [if_pos c3] at h
    refine os_aload_n (r := x1) hX dX0_instance_7 rfl rfl ?_
    refine os_bipush (v := 6) hX dX0_instance_8 (by decide) ?_
    obtain ⟨b6, h⟩ := ogd_e h
    obtain ⟨s4, e5, h⟩ := olet_e h
    refine os_newq hX dX0_instance_10 oA_RX0_177 (onn_e b6).1 (onn_e b6).2 ?_
    rw [← e5]
    obtain ⟨s7, e8, h⟩ := obn_e h
    refine ow_put (r := x1) (x := va_rf (some σ.2.1)) hX dX0_instance_13 oF_RX0_316 (by decide) (orf_n (Or.inr ⟨_, oT_6_5⟩) (some σ.2.1)) e8 ?_
    exact qj_X0_instance_16 hX hc h
def oj_X0_sayInstances_200 (n : Nat) (call : oCl) (κ : oKv) (k71 : Option Nat → Option Nat → Int32 → oSt → oRs) (x0 : Option Nat) (x1 : Option Nat) (x3 : Int32) (σ : oSt) : oRs :=
  k71 x0 x1 (x3 + 1) σ
def ol_X0_sayInstances_160 (n : Nat) (call : oCl) (κ : oKv) (k71 : Option Nat → Option Nat → Int32 → oSt → oRs) : Nat → Option Nat → Option Nat → Int32 → Int32 → oSt → oRs
  | 0, _, _, _, _, _ => none
  | f + 1, x0, x1, x3, x4, σ =>
    obn (ovi (ofd σ x0 2 8)) fun v1 =>
    if v1 ≤ x4 then
      oj_X0_sayInstances_200 n call κ k71 x0 x1 x3 σ
    else
      obn (ovr (ofd σ x0 2 0)) fun v4 =>
      obn (ovr (ofd σ v4 9 5)) fun v6 =>
      obn (oai σ v6 .int x3) fun v8 =>
      obn (ovr (ofd σ x0 2 7)) fun v10 =>
      obn (oar σ v10 x4) fun v12 =>
      obn (oob σ x0 2) fun a14 =>
      orn (call 25 [va_rf x0, va_rf v12, .int x3] σ) fun r18 s16 =>
      obn (oob s16 x1 4) fun a19 =>
      ocv (call 16 [va_rf x1, .int v8, va_rf r18] s16) fun s21 =>
      ol_X0_sayInstances_160 n call κ k71 f x0 x1 x3 (x4 + 1) s21
def oj_X0_sayInstances_141 (n : Nat) (call : oCl) (κ : oKv) (k71 : Option Nat → Option Nat → Int32 → oSt → oRs) (x0 : Option Nat) (x1 : Option Nat) (x3 : Int32) (σ : oSt) : oRs :=
  obn (ovr (ofd σ x0 2 0)) fun v1 =>
  obn (ovr (ofd σ v1 9 4)) fun v3 =>
  obn (oai σ v3 .int x3) fun v5 =>
  obn (ovi (ofd σ x1 4 0)) fun v7 =>
  if v5 = v7 then
    ol_X0_sayInstances_160 n call κ k71 n x0 x1 x3 0 σ
  else
    oj_X0_sayInstances_200 n call κ k71 x0 x1 x3 σ
def ol_X0_sayInstances_71 (n : Nat) (call : oCl) (κ : oKv) : Nat → Option Nat → Option Nat → Int32 → oSt → oRs
  | 0, _, _, _, _ => none
  | f + 1, x0, x1, x3, σ =>
    obn (ovr (ofd σ x0 2 0)) fun v1 =>
    obn (ovi (ofd σ v1 9 8)) fun v3 =>
    if v3 ≤ x3 then
      some (none, σ)
    else
      obn (ovr (ofd σ x0 2 0)) fun v6 =>
      obn (ovr (ofd σ v6 9 4)) fun v8 =>
      obn (oai σ v8 .int x3) fun v10 =>
      obn (ovi (ofd σ x1 4 0)) fun v12 =>
      if v10 = v12 then
        obn (ovr (ofd σ x0 2 0)) fun v15 =>
        obn (ovr (ofd σ v15 9 6)) fun v17 =>
        obn (oai σ v17 .int x3) fun v19 =>
        if v19 = 0 then
          obn (ovr (ofd σ x0 2 0)) fun v22 =>
          obn (ovr (ofd σ v22 9 5)) fun v24 =>
          obn (oai σ v24 .int x3) fun v26 =>
          obn (ovr (ofd σ x0 2 0)) fun v28 =>
          obn (ovr (ofd σ v28 9 7)) fun v30 =>
          obn (oai σ v30 .int x3) fun v32 =>
          orn (call 11 [va_rf none, .int 0, .long v32.toInt64] σ) fun r36 s34 =>
          obn (oob s34 x1 4) fun a37 =>
          ocv (call 16 [va_rf x1, .int v26, va_rf r36] s34) fun s39 =>
          oj_X0_sayInstances_200 n call κ (ol_X0_sayInstances_71 n call κ f) x0 x1 x3 s39
        else
          oj_X0_sayInstances_141 n call κ (ol_X0_sayInstances_71 n call κ f) x0 x1 x3 σ
      else
        oj_X0_sayInstances_141 n call κ (ol_X0_sayInstances_71 n call κ f) x0 x1 x3 σ
def oj_X0_sayInstances_56 (n : Nat) (call : oCl) (κ : oKv) (k4 : Option Nat → Option Nat → Int32 → Int32 → oSt → oRs) (x0 : Option Nat) (x1 : Option Nat) (x3 : Int32) (t0 : Int32) (t1 : Int32) (σ : oSt) : oRs :=
  k4 x0 x1 (t0 + t1) (x3 + 1) σ
def ol_X0_sayInstances_4 (n : Nat) (call : oCl) (κ : oKv) : Nat → Option Nat → Option Nat → Int32 → Int32 → oSt → oRs
  | 0, _, _, _, _, _ => none
  | f + 1, x0, x1, x2, x3, σ =>
    obn (ovr (ofd σ x0 2 0)) fun v1 =>
    obn (ovi (ofd σ v1 9 8)) fun v3 =>
    if v3 ≤ x3 then
      obn (oob σ x1 4) fun a6 =>
      ocv (call 15 [va_rf x1, .int x2] σ) fun s8 =>
      ol_X0_sayInstances_71 n call κ n x0 x1 0 s8
    else
      obn (ovr (ofd σ x0 2 0)) fun v11 =>
      obn (ovr (ofd σ v11 9 4)) fun v13 =>
      obn (oai σ v13 .int x3) fun v15 =>
      obn (ovi (ofd σ x1 4 0)) fun v17 =>
      if v15 = v17 then
        obn (ovr (ofd σ x0 2 0)) fun v20 =>
        obn (ovr (ofd σ v20 9 6)) fun v22 =>
        obn (oai σ v22 .int x3) fun v24 =>
        if v24 = 0 then
          oj_X0_sayInstances_56 n call κ (ol_X0_sayInstances_4 n call κ f) x0 x1 x3 x2 1 σ
        else
          obn (ovi (ofd σ x0 2 8)) fun v27 =>
          oj_X0_sayInstances_56 n call κ (ol_X0_sayInstances_4 n call κ f) x0 x1 x3 x2 v27 σ
      else
        oj_X0_sayInstances_56 n call κ (ol_X0_sayInstances_4 n call κ f) x0 x1 x3 x2 0 σ
def ob_X0_sayInstances (n : Nat) (call : oCl) (κ : oKv) (x0 : Option Nat) (x1 : Option Nat) (σ : oSt) : oRs :=
  ol_X0_sayInstances_4 n call κ n x0 x1 0 0 σ
set_option maxHeartbeats 4000000 in
theorem qj_X0_sayInstances_200 {κ : oKv} {n : Nat} {call : oCl} {kc : Nat → List Value → oSt → Option Value × oSt → Prop} {v : Option Value × oSt} {X : Nat → zLv → List Value → oSt → Prop} (hX : oSem RX0 cX0_sayInstances 5 0 none κ kc v X) (hc : ∀ j av s w, call j av s = some w → kc j av s w) {k71 : Option Nat → Option Nat → Int32 → oSt → oRs} (hk71 : ∀ (x0 : Option Nat) (x1 : Option Nat) (x3 : Int32) (s : oSt), k71 x0 x1 x3 s = some v → X 71 [some (va_rf x0), some (va_rf x1), none, some (.int x3), none] [] s) {x0 : Option Nat} {x1 : Option Nat} {x3 : Int32} {σ : oSt} (h : oj_X0_sayInstances_200 n call κ k71 x0 x1 x3 σ = some v) : X 200 [some (va_rf x0), some (va_rf x1), none, some (.int x3), none] [] σ := by
  rw [oj_X0_sayInstances_200] at h
  refine os_iinc (v := x3 + 1) hX dX0_sayInstances_200 rfl rfl (by decide) rfl ?_
  dsimp only [List.set]
  refine os_goto (tgt := 71) hX dX0_sayInstances_203 (by decide) ?_
  exact hk71 _ _ _ _ h
set_option maxHeartbeats 4000000 in
theorem ql_X0_sayInstances_160 {κ : oKv} {n : Nat} {call : oCl} {kc : Nat → List Value → oSt → Option Value × oSt → Prop} {v : Option Value × oSt} {X : Nat → zLv → List Value → oSt → Prop} (hX : oSem RX0 cX0_sayInstances 5 0 none κ kc v X) (hc : ∀ j av s w, call j av s = some w → kc j av s w) {k71 : Option Nat → Option Nat → Int32 → oSt → oRs} (hk71 : ∀ (x0 : Option Nat) (x1 : Option Nat) (x3 : Int32) (s : oSt), k71 x0 x1 x3 s = some v → X 71 [some (va_rf x0), some (va_rf x1), none, some (.int x3), none] [] s) : ∀ (f : Nat) (x0 : Option Nat) (x1 : Option Nat) (x3 : Int32) (x4 : Int32) (σ : oSt), ol_X0_sayInstances_160 n call κ k71 f x0 x1 x3 x4 σ = some v → X 160 [some (va_rf x0), some (va_rf x1), none, some (.int x3), some (.int x4)] [] σ := by
  intro f
  induction f with
  | zero => intro x0 x1 x3 x4 σ h; cases h
  | succ f hk160 =>
    intro x0 x1 x3 x4 σ h
    rw [ol_X0_sayInstances_160] at h
    refine os_iload hX dX0_sayInstances_160 rfl ?_
    refine os_aload_n (r := x0) hX dX0_sayInstances_162 rfl rfl ?_
    obtain ⟨v1, e2, h⟩ := obn_e h
    refine ow_get (r := x0) hX dX0_sayInstances_163 oF_RX0_268 (ovi_e e2) ?_
    refine os_icmp_ge (tgt := 200) hX dX0_sayInstances_166 (by decide) (fun c3 => ?_) (fun c3 => ?_)
    · rw [if_pos c3] at h
      refine os_weak hX (lw := [some (va_rf x0), some (va_rf x1), none, some (.int x3), none]) ⟨rfl, rfl, rfl, trivial⟩ ?_
      exact qj_X0_sayInstances_200 hX hc hk71 h
    · rw [if_neg c3] at h
      refine os_aload_n (r := x1) hX dX0_sayInstances_169 rfl rfl ?_
      refine os_aload_n (r := x0) hX dX0_sayInstances_170 rfl rfl ?_
      obtain ⟨v4, e5, h⟩ := obn_e h
      refine ow_get (r := x0) hX dX0_sayInstances_171 oF_RX0_37 (ovr_e e5) ?_
      obtain ⟨v6, e7, h⟩ := obn_e h
      refine ow_get (r := v4) hX dX0_sayInstances_174 oF_RX0_306 (ovr_e e7) ?_
      refine os_iload_n hX dX0_sayInstances_177 rfl rfl ?_
      obtain ⟨v8, e9, h⟩ := obn_e h
      refine ow_ai (r := v6) (i := x3) hX dX0_sayInstances_178 e9 ?_
      refine os_aload_n (r := x0) hX dX0_sayInstances_179 rfl rfl ?_
      refine os_aload_n (r := x0) hX dX0_sayInstances_180 rfl rfl ?_
      obtain ⟨v10, e11, h⟩ := obn_e h
      refine ow_get (r := x0) hX dX0_sayInstances_181 oF_RX0_29 (ovr_e e11) ?_
      refine os_iload hX dX0_sayInstances_184 rfl ?_
      obtain ⟨v12, e13, h⟩ := obn_e h
      refine ow_ar (r := v10) (i := x4) hX dX0_sayInstances_186 e13 ?_
      refine os_iload_n hX dX0_sayInstances_187 rfl rfl ?_
      obtain ⟨a14, e15, h⟩ := obn_e h
      obtain ⟨r18, s16, e17, h⟩ := orn_e h
      refine oc_RX0_312 (rb := x0) (a1 := va_rf v12) (a2 := .int x3) hX dX0_sayInstances_188 (by simp only [List.map_cons, List.map_nil, List.sum_cons, List.sum_nil, ocat]; exact Nat.le_of_ble_eq_true rfl) e15 (hc _ _ _ _ e17) ?_
      obtain ⟨a19, e20, h⟩ := obn_e h
      obtain ⟨s21, e22, h⟩ := ocv_e h
      refine oc_RX0_220 (rb := x1) (a1 := .int v8) (a2 := va_rf r18) hX dX0_sayInstances_191 (Nat.le_of_ble_eq_true rfl) e20 (hc _ _ _ _ e22) ?_
      refine os_iinc (v := x4 + 1) hX dX0_sayInstances_194 rfl rfl (by decide) rfl ?_
      dsimp only [List.set]
      refine os_goto (tgt := 160) hX dX0_sayInstances_197 (by decide) ?_
      exact hk160 _ _ _ _ _ h
set_option maxHeartbeats 4000000 in
theorem qj_X0_sayInstances_141 {κ : oKv} {n : Nat} {call : oCl} {kc : Nat → List Value → oSt → Option Value × oSt → Prop} {v : Option Value × oSt} {X : Nat → zLv → List Value → oSt → Prop} (hX : oSem RX0 cX0_sayInstances 5 0 none κ kc v X) (hc : ∀ j av s w, call j av s = some w → kc j av s w) {k71 : Option Nat → Option Nat → Int32 → oSt → oRs} (hk71 : ∀ (x0 : Option Nat) (x1 : Option Nat) (x3 : Int32) (s : oSt), k71 x0 x1 x3 s = some v → X 71 [some (va_rf x0), some (va_rf x1), none, some (.int x3), none] [] s) {x0 : Option Nat} {x1 : Option Nat} {x3 : Int32} {σ : oSt} (h : oj_X0_sayInstances_141 n call κ k71 x0 x1 x3 σ = some v) : X 141 [some (va_rf x0), some (va_rf x1), none, some (.int x3), none] [] σ := by
  rw [oj_X0_sayInstances_141] at h
  refine os_aload_n (r := x0) hX dX0_sayInstances_141 rfl rfl ?_
  obtain ⟨v1, e2, h⟩ := obn_e h
  refine ow_get (r := x0) hX dX0_sayInstances_142 oF_RX0_37 (ovr_e e2) ?_
  obtain ⟨v3, e4, h⟩ := obn_e h
  refine ow_get (r := v1) hX dX0_sayInstances_145 oF_RX0_299 (ovr_e e4) ?_
  refine os_iload_n hX dX0_sayInstances_148 rfl rfl ?_
  obtain ⟨v5, e6, h⟩ := obn_e h
  refine ow_ai (r := v3) (i := x3) hX dX0_sayInstances_149 e6 ?_
  refine os_aload_n (r := x1) hX dX0_sayInstances_150 rfl rfl ?_
  obtain ⟨v7, e8, h⟩ := obn_e h
  refine ow_get (r := x1) hX dX0_sayInstances_151 oF_RX0_257 (ovi_e e8) ?_
  refine os_icmp_ne (tgt := 200) hX dX0_sayInstances_154 (by decide) (fun c9 => ?_) (fun c9 => ?_)
  · rw [if_neg c9] at h
    exact qj_X0_sayInstances_200 hX hc hk71 h
  · rw [if_pos c9] at h
    refine os_iconst (v := 0) hX dX0_sayInstances_157 (by decide) ?_
    refine os_istore hX dX0_sayInstances_158 (by decide) rfl ?_
    dsimp only [List.set]
    exact ql_X0_sayInstances_160 hX hc hk71 n _ _ _ _ _ h
set_option maxHeartbeats 4000000 in
theorem ql_X0_sayInstances_71 {κ : oKv} {n : Nat} {call : oCl} {kc : Nat → List Value → oSt → Option Value × oSt → Prop} {v : Option Value × oSt} {X : Nat → zLv → List Value → oSt → Prop} (hX : oSem RX0 cX0_sayInstances 5 0 none κ kc v X) (hc : ∀ j av s w, call j av s = some w → kc j av s w) : ∀ (f : Nat) (x0 : Option Nat) (x1 : Option Nat) (x3 : Int32) (σ : oSt), ol_X0_sayInstances_71 n call κ f x0 x1 x3 σ = some v → X 71 [some (va_rf x0), some (va_rf x1), none, some (.int x3), none] [] σ := by
  intro f
  induction f with
  | zero => intro x0 x1 x3 σ h; cases h
  | succ f hk71 =>
    intro x0 x1 x3 σ h
    rw [ol_X0_sayInstances_71] at h
    refine os_iload_n hX dX0_sayInstances_71 rfl rfl ?_
    refine os_aload_n (r := x0) hX dX0_sayInstances_72 rfl rfl ?_
    obtain ⟨v1, e2, h⟩ := obn_e h
    refine ow_get (r := x0) hX dX0_sayInstances_73 oF_RX0_37 (ovr_e e2) ?_
    obtain ⟨v3, e4, h⟩ := obn_e h
    refine ow_get (r := v1) hX dX0_sayInstances_76 oF_RX0_296 (ovi_e e4) ?_
    refine os_icmp_ge (tgt := 206) hX dX0_sayInstances_79 (by decide) (fun c5 => ?_) (fun c5 => ?_)
    · rw [if_pos c5] at h
      exact os_vret hX dX0_sayInstances_206 rfl (Option.some.inj h)
    · rw [if_neg c5] at h
      refine os_aload_n (r := x0) hX dX0_sayInstances_82 rfl rfl ?_
      obtain ⟨v6, e7, h⟩ := obn_e h
      refine ow_get (r := x0) hX dX0_sayInstances_83 oF_RX0_37 (ovr_e e7) ?_
      obtain ⟨v8, e9, h⟩ := obn_e h
      refine ow_get (r := v6) hX dX0_sayInstances_86 oF_RX0_299 (ovr_e e9) ?_
      refine os_iload_n hX dX0_sayInstances_89 rfl rfl ?_
      obtain ⟨v10, e11, h⟩ := obn_e h
      refine ow_ai (r := v8) (i := x3) hX dX0_sayInstances_90 e11 ?_
      refine os_aload_n (r := x1) hX dX0_sayInstances_91 rfl rfl ?_
      obtain ⟨v12, e13, h⟩ := obn_e h
      refine ow_get (r := x1) hX dX0_sayInstances_92 oF_RX0_257 (ovi_e e13) ?_
      refine os_icmp_ne (tgt := 141) hX dX0_sayInstances_95 (by decide) (fun c14 => ?_) (fun c14 => ?_)
      · rw [if_neg c14] at h
        exact qj_X0_sayInstances_141 hX hc hk71 h
      · rw [if_pos c14] at h
        refine os_aload_n (r := x0) hX dX0_sayInstances_98 rfl rfl ?_
        obtain ⟨v15, e16, h⟩ := obn_e h
        refine ow_get (r := x0) hX dX0_sayInstances_99 oF_RX0_37 (ovr_e e16) ?_
        obtain ⟨v17, e18, h⟩ := obn_e h
        refine ow_get (r := v15) hX dX0_sayInstances_102 oF_RX0_303 (ovr_e e18) ?_
        refine os_iload_n hX dX0_sayInstances_105 rfl rfl ?_
        obtain ⟨v19, e20, h⟩ := obn_e h
        refine ow_ai (r := v17) (i := x3) hX dX0_sayInstances_106 e20 ?_
        refine os_if_ne (tgt := 141) hX dX0_sayInstances_107 (by decide) (fun c21 => ?_) (fun c21 => ?_)
        · rw [if_neg c21] at h
          exact qj_X0_sayInstances_141 hX hc hk71 h
        · rw [if_pos c21] at h
          refine os_aload_n (r := x1) hX dX0_sayInstances_110 rfl rfl ?_
          refine os_aload_n (r := x0) hX dX0_sayInstances_111 rfl rfl ?_
          obtain ⟨v22, e23, h⟩ := obn_e h
          refine ow_get (r := x0) hX dX0_sayInstances_112 oF_RX0_37 (ovr_e e23) ?_
          obtain ⟨v24, e25, h⟩ := obn_e h
          refine ow_get (r := v22) hX dX0_sayInstances_115 oF_RX0_306 (ovr_e e25) ?_
          refine os_iload_n hX dX0_sayInstances_118 rfl rfl ?_
          obtain ⟨v26, e27, h⟩ := obn_e h
          refine ow_ai (r := v24) (i := x3) hX dX0_sayInstances_119 e27 ?_
          refine os_null hX dX0_sayInstances_120 ?_
          refine os_iconst (v := 0) hX dX0_sayInstances_121 (by decide) ?_
          refine os_aload_n (r := x0) hX dX0_sayInstances_122 rfl rfl ?_
          obtain ⟨v28, e29, h⟩ := obn_e h
          refine ow_get (r := x0) hX dX0_sayInstances_123 oF_RX0_37 (ovr_e e29) ?_
          obtain ⟨v30, e31, h⟩ := obn_e h
          refine ow_get (r := v28) hX dX0_sayInstances_126 oF_RX0_309 (ovr_e e31) ?_
          refine os_iload_n hX dX0_sayInstances_129 rfl rfl ?_
          obtain ⟨v32, e33, h⟩ := obn_e h
          refine ow_ai (r := v30) (i := x3) hX dX0_sayInstances_130 e33 ?_
          refine os_i2l hX dX0_sayInstances_131 ?_
          obtain ⟨r36, s34, e35, h⟩ := orn_e h
          refine oc_RX0_192 (a1 := va_rf none) (a2 := .int 0) (a3 := .long v32.toInt64) hX dX0_sayInstances_132 (by simp only [List.map_cons, List.map_nil, List.sum_cons, List.sum_nil, ocat]; exact Nat.le_of_ble_eq_true rfl) (hc _ _ _ _ e35) ?_
          obtain ⟨a37, e38, h⟩ := obn_e h
          obtain ⟨s39, e40, h⟩ := ocv_e h
          refine oc_RX0_220 (rb := x1) (a1 := .int v26) (a2 := va_rf r36) hX dX0_sayInstances_135 (Nat.le_of_ble_eq_true rfl) e38 (hc _ _ _ _ e40) ?_
          refine os_goto (tgt := 200) hX dX0_sayInstances_138 (by decide) ?_
          exact qj_X0_sayInstances_200 hX hc hk71 h
set_option maxHeartbeats 4000000 in
theorem qj_X0_sayInstances_56 {κ : oKv} {n : Nat} {call : oCl} {kc : Nat → List Value → oSt → Option Value × oSt → Prop} {v : Option Value × oSt} {X : Nat → zLv → List Value → oSt → Prop} (hX : oSem RX0 cX0_sayInstances 5 0 none κ kc v X) (hc : ∀ j av s w, call j av s = some w → kc j av s w) {k4 : Option Nat → Option Nat → Int32 → Int32 → oSt → oRs} (hk4 : ∀ (x0 : Option Nat) (x1 : Option Nat) (x2 : Int32) (x3 : Int32) (s : oSt), k4 x0 x1 x2 x3 s = some v → X 4 [some (va_rf x0), some (va_rf x1), some (.int x2), some (.int x3), none] [] s) {x0 : Option Nat} {x1 : Option Nat} {x3 : Int32} {t0 : Int32} {t1 : Int32} {σ : oSt} (h : oj_X0_sayInstances_56 n call κ k4 x0 x1 x3 t0 t1 σ = some v) : X 56 [some (va_rf x0), some (va_rf x1), none, some (.int x3), none] [.int t1, .int t0] σ := by
  rw [oj_X0_sayInstances_56] at h
  refine os_iadd hX dX0_sayInstances_56 ?_
  refine os_istore_n hX dX0_sayInstances_57 rfl (by decide) (ozlo (i := 1) (r := x1) rfl) ?_
  dsimp only [List.set]
  refine os_iinc (v := x3 + 1) hX dX0_sayInstances_58 rfl rfl (by decide) rfl ?_
  dsimp only [List.set]
  refine os_goto (tgt := 4) hX dX0_sayInstances_61 (by decide) ?_
  exact hk4 _ _ _ _ _ h
set_option maxHeartbeats 4000000 in
theorem ql_X0_sayInstances_4 {κ : oKv} {n : Nat} {call : oCl} {kc : Nat → List Value → oSt → Option Value × oSt → Prop} {v : Option Value × oSt} {X : Nat → zLv → List Value → oSt → Prop} (hX : oSem RX0 cX0_sayInstances 5 0 none κ kc v X) (hc : ∀ j av s w, call j av s = some w → kc j av s w) : ∀ (f : Nat) (x0 : Option Nat) (x1 : Option Nat) (x2 : Int32) (x3 : Int32) (σ : oSt), ol_X0_sayInstances_4 n call κ f x0 x1 x2 x3 σ = some v → X 4 [some (va_rf x0), some (va_rf x1), some (.int x2), some (.int x3), none] [] σ := by
  intro f
  induction f with
  | zero => intro x0 x1 x2 x3 σ h; cases h
  | succ f hk4 =>
    intro x0 x1 x2 x3 σ h
    rw [ol_X0_sayInstances_4] at h
    refine os_iload_n hX dX0_sayInstances_4 rfl rfl ?_
    refine os_aload_n (r := x0) hX dX0_sayInstances_5 rfl rfl ?_
    obtain ⟨v1, e2, h⟩ := obn_e h
    refine ow_get (r := x0) hX dX0_sayInstances_6 oF_RX0_37 (ovr_e e2) ?_
    obtain ⟨v3, e4, h⟩ := obn_e h
    refine ow_get (r := v1) hX dX0_sayInstances_9 oF_RX0_296 (ovi_e e4) ?_
    refine os_icmp_ge (tgt := 64) hX dX0_sayInstances_12 (by decide) (fun c5 => ?_) (fun c5 => ?_)
    · rw [if_pos c5] at h
      refine os_aload_n (r := x1) hX dX0_sayInstances_64 rfl rfl ?_
      refine os_iload_n hX dX0_sayInstances_65 rfl rfl ?_
      obtain ⟨a6, e7, h⟩ := obn_e h
      obtain ⟨s8, e9, h⟩ := ocv_e h
      refine oc_RX0_217 (rb := x1) (a1 := .int x2) hX dX0_sayInstances_66 (Nat.le_of_ble_eq_true rfl) e7 (hc _ _ _ _ e9) ?_
      refine os_iconst (v := 0) hX dX0_sayInstances_69 (by decide) ?_
      refine os_istore_n hX dX0_sayInstances_70 rfl (by decide) rfl ?_
      dsimp only [List.set]
      refine os_weak hX (lw := [some (va_rf x0), some (va_rf x1), none, some (.int 0), none]) ⟨rfl, rfl, rfl, trivial⟩ ?_
      exact ql_X0_sayInstances_71 hX hc n _ _ _ _ h
    · rw [if_neg c5] at h
      refine os_iload_n hX dX0_sayInstances_15 rfl rfl ?_
      refine os_aload_n (r := x0) hX dX0_sayInstances_16 rfl rfl ?_
      obtain ⟨v11, e12, h⟩ := obn_e h
      refine ow_get (r := x0) hX dX0_sayInstances_17 oF_RX0_37 (ovr_e e12) ?_
      obtain ⟨v13, e14, h⟩ := obn_e h
      refine ow_get (r := v11) hX dX0_sayInstances_20 oF_RX0_299 (ovr_e e14) ?_
      refine os_iload_n hX dX0_sayInstances_23 rfl rfl ?_
      obtain ⟨v15, e16, h⟩ := obn_e h
      refine ow_ai (r := v13) (i := x3) hX dX0_sayInstances_24 e16 ?_
      refine os_aload_n (r := x1) hX dX0_sayInstances_25 rfl rfl ?_
      obtain ⟨v17, e18, h⟩ := obn_e h
      refine ow_get (r := x1) hX dX0_sayInstances_26 oF_RX0_257 (ovi_e e18) ?_
      refine os_icmp_eq (tgt := 36) hX dX0_sayInstances_29 (by decide) (fun c19 => ?_) (fun c19 => ?_)
      · rw [if_pos c19] at h
        refine os_aload_n (r := x0) hX dX0_sayInstances_36 rfl rfl ?_
        obtain ⟨v20, e21, h⟩ := obn_e h
        refine ow_get (r := x0) hX dX0_sayInstances_37 oF_RX0_37 (ovr_e e21) ?_
        obtain ⟨v22, e23, h⟩ := obn_e h
        refine ow_get (r := v20) hX dX0_sayInstances_40 oF_RX0_303 (ovr_e e23) ?_
        refine os_iload_n hX dX0_sayInstances_43 rfl rfl ?_
        obtain ⟨v24, e25, h⟩ := obn_e h
        refine ow_ai (r := v22) (i := x3) hX dX0_sayInstances_44 e25 ?_
        refine os_if_ne (tgt := 52) hX dX0_sayInstances_45 (by decide) (fun c26 => ?_) (fun c26 => ?_)
        · rw [if_neg c26] at h
          refine os_aload_n (r := x0) hX dX0_sayInstances_52 rfl rfl ?_
          obtain ⟨v27, e28, h⟩ := obn_e h
          refine ow_get (r := x0) hX dX0_sayInstances_53 oF_RX0_268 (ovi_e e28) ?_
          refine os_weak hX (lw := [some (va_rf x0), some (va_rf x1), none, some (.int x3), none]) ⟨rfl, rfl, rfl, trivial⟩ ?_
          exact qj_X0_sayInstances_56 hX hc hk4 h
        · rw [if_pos c26] at h
          refine os_iconst (v := 1) hX dX0_sayInstances_48 (by decide) ?_
          refine os_goto (tgt := 56) hX dX0_sayInstances_49 (by decide) ?_
          refine os_weak hX (lw := [some (va_rf x0), some (va_rf x1), none, some (.int x3), none]) ⟨rfl, rfl, rfl, trivial⟩ ?_
          exact qj_X0_sayInstances_56 hX hc hk4 h
      · rw [if_neg c19] at h
        refine os_iconst (v := 0) hX dX0_sayInstances_32 (by decide) ?_
        refine os_goto (tgt := 56) hX dX0_sayInstances_33 (by decide) ?_
        refine os_weak hX (lw := [some (va_rf x0), some (va_rf x1), none, some (.int x3), none]) ⟨rfl, rfl, rfl, trivial⟩ ?_
        exact qj_X0_sayInstances_56 hX hc hk4 h
set_option maxHeartbeats 4000000 in
theorem qb_X0_sayInstances {κ : oKv} {n : Nat} {call : oCl} {kc : Nat → List Value → oSt → Option Value × oSt → Prop} {v : Option Value × oSt} {X : Nat → zLv → List Value → oSt → Prop} (hX : oSem RX0 cX0_sayInstances 5 0 none κ kc v X) (hc : ∀ j av s w, call j av s = some w → kc j av s w) {x0 : Option Nat} {x1 : Option Nat} {σ : oSt} (h : ob_X0_sayInstances n call κ x0 x1 σ = some v) : X 0 [some (va_rf x0), some (va_rf x1), none, none, none] [] σ := by
  rw [ob_X0_sayInstances] at h
  refine os_iconst (v := 0) hX dX0_sayInstances_0 (by decide) ?_
  refine os_istore_n hX dX0_sayInstances_1 rfl (by decide) (ozlo (i := 1) (r := x1) rfl) ?_
  dsimp only [List.set]
  refine os_iconst (v := 0) hX dX0_sayInstances_2 (by decide) ?_
  refine os_istore_n hX dX0_sayInstances_3 rfl (by decide) rfl ?_
  dsimp only [List.set]
  exact ql_X0_sayInstances_4 hX hc n _ _ _ _ _ h
def oj_X0_shape_205 (n : Nat) (call : oCl) (κ : oKv) (x0 : Option Nat) (x4 : Option Nat) (σ : oSt) : oRs :=
  obn (ovi (ofd σ x4 4 0)) fun v1 =>
  if v1 = 202 then
    some (some (va_rf x4), σ)
  else
    obn (oob σ x0 2) fun a4 =>
    ocv (call 26 [va_rf x0, va_rf x4] σ) fun s6 =>
    some (some (va_rf x4), s6)
def oj_X0_shape_175 (n : Nat) (call : oCl) (κ : oKv) (x0 : Option Nat) (x1 : Int32) (x2 : Option Nat) (x3 : Int32) (x4 : Option Nat) (x6 : Int32) (σ : oSt) : oRs :=
  obn (ovr (ofd σ x0 2 1)) fun v1 =>
  obn (oob σ v1 12) fun a3 =>
  oin (call 24 [va_rf v1, .int x1] σ) fun r7 s5 =>
  obn (oob s5 x0 2) fun a8 =>
  orn (call 27 [va_rf x0, .int r7, va_rf x2, .int (x3 + 1)] s5) fun r12 s10 =>
  obn (opf s10 x4 4 4 (va_rf r12)) fun s13 =>
  obn (opf s13 x0 2 8 (.int x6)) fun s15 =>
  some (some (va_rf x4), s15)
def oj_X0_shape_106 (n : Nat) (call : oCl) (κ : oKv) (x0 : Option Nat) (x1 : Int32) (x2 : Option Nat) (x3 : Int32) (x4 : Option Nat) (t0 : Option Nat) (t1 : Option Nat) (σ : oSt) : oRs :=
  obn (opf σ t0 4 2 (va_rf t1)) fun s1 =>
  obn (ovr (ofd s1 x4 4 2)) fun v3 =>
  obn (ovr (ofd s1 x4 4 3)) fun v5 =>
  obn (opf s1 v3 6 4 (va_rf v5)) fun s7 =>
  obn (ovi (ofd s7 x0 2 8)) fun v9 =>
  obn (ovr (ofd s7 x4 4 2)) fun v11 =>
  obn (oob s7 v11 6) fun a13 =>
  oin (call 6 [va_rf v11] s7) fun r17 s15 =>
  if r17 = 0 then
    oj_X0_shape_175 n call κ x0 x1 x2 x3 x4 v9 s15
  else
    obn (ovi (ofd s15 x0 2 8)) fun v19 =>
    obn (ovr (ofd s15 x0 2 7)) fun v21 =>
    obn (oln2 κ s15 v21) fun v23 =>
    if v23 ≤ v19 then
      oj_X0_shape_175 n call κ x0 x1 x2 x3 x4 v9 s15
    else
      obn (ovr (ofd s15 x0 2 7)) fun v26 =>
      obn (ovi (ofd s15 x0 2 8)) fun v28 =>
      obn (ovr (ofd s15 x4 4 2)) fun v30 =>
      obn (osr s15 v26 v28 v30) fun s32 =>
      obn (ovi (ofd s32 x0 2 8)) fun v34 =>
      obn (opf s32 x0 2 8 (.int (v34 + 1))) fun s36 =>
      oj_X0_shape_175 n call κ x0 x1 x2 x3 x4 v9 s36
def oj_X0_shape_51 (n : Nat) (call : oCl) (κ : oKv) (x0 : Option Nat) (x1 : Int32) (x2 : Option Nat) (x3 : Int32) (x4 : Option Nat) (t0 : Int32) (σ : oSt) : oRs :=
  obn (ovr (ofd σ x0 2 1)) fun v1 =>
  obn (oob σ v1 12) fun a3 =>
  oin (call 23 [va_rf v1, .int x1] σ) fun r7 s5 =>
  obn (oob s5 x0 2) fun a8 =>
  orn (call 27 [va_rf x0, .int r7, va_rf none, .int 0] s5) fun r12 s10 =>
  obn (opf s10 x4 4 3 (va_rf r12)) fun s13 =>
  if t0 = 0 then
    olet (onew s13 (.inr (6, odef 6)) (oq 6).2.2) fun s16 =>
    obn (ovr (ofd s16 x4 4 3)) fun v18 =>
    obn (ovi (ofd s16 v18 4 0)) fun v20 =>
    obn ((some s13.2.1)) fun a22 =>
    ocv (call 7 [va_rf (some s13.2.1), va_rf none, .int v20] s16) fun s24 =>
    oj_X0_shape_106 n call κ x0 x1 x2 x3 x4 x4 (some s13.2.1) s24
  else
    obn (oob s13 x2 1) fun a27 =>
    orn (call 234 [va_rf x2, .int x3] s13) fun r31 s29 =>
    ogd (ocs s29 r31 6) (
    oj_X0_shape_106 n call κ x0 x1 x2 x3 x4 x4 r31 s29)
def oj_X0_shape_50 (n : Nat) (call : oCl) (κ : oKv) (x0 : Option Nat) (x1 : Int32) (x2 : Option Nat) (x3 : Int32) (x4 : Option Nat) (σ : oSt) : oRs :=
  oj_X0_shape_51 n call κ x0 x1 x2 x3 x4 0 σ
def ob_X0_shape (n : Nat) (call : oCl) (κ : oKv) (x0 : Option Nat) (x1 : Int32) (x2 : Option Nat) (x3 : Int32) (σ : oSt) : oRs :=
  olet (onew σ (.inr (4, odef 4)) (oq 4).2.2) fun s1 =>
  obn (ovr (ofd s1 x0 2 1)) fun v3 =>
  obn (oob s1 v3 12) fun a5 =>
  oin (call 22 [va_rf v3, .int x1] s1) fun r9 s7 =>
  obn ((some σ.2.1)) fun a10 =>
  ocv (call 1 [va_rf (some σ.2.1), .int r9] s7) fun s12 =>
  obn (ovi (ofd s12 (some σ.2.1) 4 0)) fun v15 =>
  if v15 = 206 then
    if 60 < x3 then
      oj_X0_shape_205 n call κ x0 (some σ.2.1) s12
    else
      if x2 = none then
        oj_X0_shape_50 n call κ x0 x1 x2 x3 (some σ.2.1) s12
      else
        obn (oob s12 x2 1) fun a20 =>
        oin (call 236 [va_rf x2] s12) fun r24 s22 =>
        if r24 ≤ x3 then
          oj_X0_shape_50 n call κ x0 x1 x2 x3 (some σ.2.1) s22
        else
          oj_X0_shape_51 n call κ x0 x1 x2 x3 (some σ.2.1) 1 s22
  else
    oj_X0_shape_205 n call κ x0 (some σ.2.1) s12
set_option maxHeartbeats 4000000 in
theorem qj_X0_shape_205 {κ : oKv} {n : Nat} {call : oCl} {kc : Nat → List Value → oSt → Option Value × oSt → Prop} {v : Option Value × oSt} {X : Nat → zLv → List Value → oSt → Prop} (hX : oSem RX0 cX0_shape 7 0 (some (.object "LiquidTongue$Known")) κ kc v X) (hc : ∀ j av s w, call j av s = some w → kc j av s w) {x0 : Option Nat} {x4 : Option Nat} {σ : oSt} (h : oj_X0_shape_205 n call κ x0 x4 σ = some v) : X 205 [some (va_rf x0), none, none, none, some (va_rf x4), none, none] [] σ := by
  rw [oj_X0_shape_205] at h
  refine os_aload (r := x4) hX dX0_shape_205 rfl ?_
  obtain ⟨v1, e2, h⟩ := obn_e h
  refine ow_get (r := x4) hX dX0_shape_207 oF_RX0_257 (ovi_e e2) ?_
  refine os_sipush (v := 202) hX dX0_shape_210 (by decide) ?_
  refine os_icmp_eq (tgt := 222) hX dX0_shape_213 (by decide) (fun c3 => ?_) (fun c3 => ?_)
  · rw [if_pos c3] at h
    refine os_aload (r := x4) hX dX0_shape_222 rfl ?_
    exact os_aret (r := x4) hX dX0_shape_224 rfl (Option.some.inj h)
  · rw [if_neg c3] at h
    refine os_aload_n (r := x0) hX dX0_shape_216 rfl rfl ?_
    refine os_aload (r := x4) hX dX0_shape_217 rfl ?_
    obtain ⟨a4, e5, h⟩ := obn_e h
    obtain ⟨s6, e7, h⟩ := ocv_e h
    refine oc_RX0_292 (rb := x0) (a1 := va_rf x4) hX dX0_shape_219 (Nat.le_of_ble_eq_true rfl) e5 (hc _ _ _ _ e7) ?_
    refine os_aload (r := x4) hX dX0_shape_222 rfl ?_
    exact os_aret (r := x4) hX dX0_shape_224 rfl (Option.some.inj h)
set_option maxHeartbeats 4000000 in
theorem qj_X0_shape_175 {κ : oKv} {n : Nat} {call : oCl} {kc : Nat → List Value → oSt → Option Value × oSt → Prop} {v : Option Value × oSt} {X : Nat → zLv → List Value → oSt → Prop} (hX : oSem RX0 cX0_shape 7 0 (some (.object "LiquidTongue$Known")) κ kc v X) (hc : ∀ j av s w, call j av s = some w → kc j av s w) {x0 : Option Nat} {x1 : Int32} {x2 : Option Nat} {x3 : Int32} {x4 : Option Nat} {x6 : Int32} {σ : oSt} (h : oj_X0_shape_175 n call κ x0 x1 x2 x3 x4 x6 σ = some v) : X 175 [some (va_rf x0), some (.int x1), some (va_rf x2), some (.int x3), some (va_rf x4), none, some (.int x6)] [] σ := by
  rw [oj_X0_shape_175] at h
  refine os_aload (r := x4) hX dX0_shape_175 rfl ?_
  refine os_aload_n (r := x0) hX dX0_shape_177 rfl rfl ?_
  refine os_aload_n (r := x0) hX dX0_shape_178 rfl rfl ?_
  obtain ⟨v1, e2, h⟩ := obn_e h
  refine ow_get (r := x0) hX dX0_shape_179 oF_RX0_41 (ovr_e e2) ?_
  refine os_iload_n hX dX0_shape_182 rfl rfl ?_
  obtain ⟨a3, e4, h⟩ := obn_e h
  obtain ⟨r7, s5, e6, h⟩ := oin_e h
  refine oc_RX0_286 (rb := v1) (a1 := .int x1) hX dX0_shape_183 (by simp only [List.map_cons, List.map_nil, List.sum_cons, List.sum_nil, ocat]; exact Nat.le_of_ble_eq_true rfl) e4 (hc _ _ _ _ e6) ?_
  refine os_aload_n (r := x2) hX dX0_shape_186 rfl rfl ?_
  refine os_iload_n hX dX0_shape_187 rfl rfl ?_
  refine os_iconst (v := 1) hX dX0_shape_188 (by decide) ?_
  refine os_iadd hX dX0_shape_189 ?_
  obtain ⟨a8, e9, h⟩ := obn_e h
  obtain ⟨r12, s10, e11, h⟩ := orn_e h
  refine oc_RX0_271 (rb := x0) (a1 := .int r7) (a2 := va_rf x2) (a3 := .int (x3 + 1)) hX dX0_shape_190 (by simp only [List.map_cons, List.map_nil, List.sum_cons, List.sum_nil, ocat]; exact Nat.le_of_ble_eq_true rfl) e9 (hc _ _ _ _ e11) ?_
  obtain ⟨s13, e14, h⟩ := obn_e h
  refine ow_put (r := x4) (x := va_rf r12) hX dX0_shape_193 oF_RX0_289 (by decide) (orf_n (Or.inl ⟨_, oT_4_4⟩) r12) e14 ?_
  refine os_aload_n (r := x0) hX dX0_shape_196 rfl rfl ?_
  refine os_iload hX dX0_shape_197 rfl ?_
  obtain ⟨s15, e16, h⟩ := obn_e h
  refine ow_put (r := x0) (x := .int x6) hX dX0_shape_199 oF_RX0_268 (by decide) (opn_I oT_2_8) e16 ?_
  refine os_goto (tgt := 222) hX dX0_shape_202 (by decide) ?_
  refine os_aload (r := x4) hX dX0_shape_222 rfl ?_
  exact os_aret (r := x4) hX dX0_shape_224 rfl (Option.some.inj h)
set_option maxHeartbeats 4000000 in
theorem qj_X0_shape_106 {κ : oKv} {n : Nat} {call : oCl} {kc : Nat → List Value → oSt → Option Value × oSt → Prop} {v : Option Value × oSt} {X : Nat → zLv → List Value → oSt → Prop} (hX : oSem RX0 cX0_shape 7 0 (some (.object "LiquidTongue$Known")) κ kc v X) (hc : ∀ j av s w, call j av s = some w → kc j av s w) {x0 : Option Nat} {x1 : Int32} {x2 : Option Nat} {x3 : Int32} {x4 : Option Nat} {t0 : Option Nat} {t1 : Option Nat} {σ : oSt} (h : oj_X0_shape_106 n call κ x0 x1 x2 x3 x4 t0 t1 σ = some v) : X 106 [some (va_rf x0), some (.int x1), some (va_rf x2), some (.int x3), some (va_rf x4), none, none] [va_rf t1, va_rf t0] σ := by
  rw [oj_X0_shape_106] at h
  obtain ⟨s1, e2, h⟩ := obn_e h
  refine ow_put (r := t0) (x := va_rf t1) hX dX0_shape_106 oF_RX0_262 (by decide) (orf_n (Or.inl ⟨_, oT_4_2⟩) t1) e2 ?_
  refine os_aload (r := x4) hX dX0_shape_109 rfl ?_
  obtain ⟨v3, e4, h⟩ := obn_e h
  refine ow_get (r := x4) hX dX0_shape_111 oF_RX0_262 (ovr_e e4) ?_
  refine os_aload (r := x4) hX dX0_shape_114 rfl ?_
  obtain ⟨v5, e6, h⟩ := obn_e h
  refine ow_get (r := x4) hX dX0_shape_116 oF_RX0_283 (ovr_e e6) ?_
  obtain ⟨s7, e8, h⟩ := obn_e h
  refine ow_put (r := v3) (x := va_rf v5) hX dX0_shape_119 oF_RX0_69 (by decide) (orf_n (Or.inl ⟨_, oT_6_4⟩) v5) e8 ?_
  refine os_aload_n (r := x0) hX dX0_shape_122 rfl rfl ?_
  obtain ⟨v9, e10, h⟩ := obn_e h
  refine ow_get (r := x0) hX dX0_shape_123 oF_RX0_268 (ovi_e e10) ?_
  refine os_istore hX dX0_shape_126 (by decide) rfl ?_
  dsimp only [List.set]
  refine os_aload (r := x4) hX dX0_shape_128 rfl ?_
  obtain ⟨v11, e12, h⟩ := obn_e h
  refine ow_get (r := x4) hX dX0_shape_130 oF_RX0_262 (ovr_e e12) ?_
  obtain ⟨a13, e14, h⟩ := obn_e h
  obtain ⟨r17, s15, e16, h⟩ := oin_e h
  refine oc_RX0_208 (rb := v11)  hX dX0_shape_133 (Nat.le_of_ble_eq_true rfl) e14 (hc _ _ _ _ e16) ?_
  refine os_if_eq (tgt := 175) hX dX0_shape_136 (by decide) (fun c18 => ?_) (fun c18 => ?_)
  · rw [if_pos c18] at h
    exact qj_X0_shape_175 hX hc h
  · rw [if_neg c18] at h
    refine os_aload_n (r := x0) hX dX0_shape_139 rfl rfl ?_
    obtain ⟨v19, e20, h⟩ := obn_e h
    refine ow_get (r := x0) hX dX0_shape_140 oF_RX0_268 (ovi_e e20) ?_
    refine os_aload_n (r := x0) hX dX0_shape_143 rfl rfl ?_
    obtain ⟨v21, e22, h⟩ := obn_e h
    refine ow_get (r := x0) hX dX0_shape_144 oF_RX0_29 (ovr_e e22) ?_
    obtain ⟨v23, e24, h⟩ := obn_e h
    refine ow_len (r := v21) hX dX0_shape_147 e24 ?_
    refine os_icmp_ge (tgt := 175) hX dX0_shape_148 (by decide) (fun c25 => ?_) (fun c25 => ?_)
    · rw [if_pos c25] at h
      exact qj_X0_shape_175 hX hc h
    · rw [if_neg c25] at h
      refine os_aload_n (r := x0) hX dX0_shape_151 rfl rfl ?_
      obtain ⟨v26, e27, h⟩ := obn_e h
      refine ow_get (r := x0) hX dX0_shape_152 oF_RX0_29 (ovr_e e27) ?_
      refine os_aload_n (r := x0) hX dX0_shape_155 rfl rfl ?_
      obtain ⟨v28, e29, h⟩ := obn_e h
      refine ow_get (r := x0) hX dX0_shape_156 oF_RX0_268 (ovi_e e29) ?_
      refine os_aload (r := x4) hX dX0_shape_159 rfl ?_
      obtain ⟨v30, e31, h⟩ := obn_e h
      refine ow_get (r := x4) hX dX0_shape_161 oF_RX0_262 (ovr_e e31) ?_
      obtain ⟨s32, e33, h⟩ := obn_e h
      refine ow_sr (r := v26) (i := v28) (y := v30) hX dX0_shape_164 e33 ?_
      refine os_aload_n (r := x0) hX dX0_shape_165 rfl rfl ?_
      refine os_dup hX dX0_shape_166 (ocat x0) ?_
      obtain ⟨v34, e35, h⟩ := obn_e h
      refine ow_get (r := x0) hX dX0_shape_167 oF_RX0_268 (ovi_e e35) ?_
      refine os_iconst (v := 1) hX dX0_shape_170 (by decide) ?_
      refine os_iadd hX dX0_shape_171 ?_
      obtain ⟨s36, e37, h⟩ := obn_e h
      refine ow_put (r := x0) (x := .int (v34 + 1)) hX dX0_shape_172 oF_RX0_268 (by decide) (opn_I oT_2_8) e37 ?_
      exact qj_X0_shape_175 hX hc h
set_option maxHeartbeats 4000000 in
theorem qj_X0_shape_51 {κ : oKv} {n : Nat} {call : oCl} {kc : Nat → List Value → oSt → Option Value × oSt → Prop} {v : Option Value × oSt} {X : Nat → zLv → List Value → oSt → Prop} (hX : oSem RX0 cX0_shape 7 0 (some (.object "LiquidTongue$Known")) κ kc v X) (hc : ∀ j av s w, call j av s = some w → kc j av s w) {x0 : Option Nat} {x1 : Int32} {x2 : Option Nat} {x3 : Int32} {x4 : Option Nat} {t0 : Int32} {σ : oSt} (h : oj_X0_shape_51 n call κ x0 x1 x2 x3 x4 t0 σ = some v) : X 51 [some (va_rf x0), some (.int x1), some (va_rf x2), some (.int x3), some (va_rf x4), none, none] [.int t0] σ := by
  rw [oj_X0_shape_51] at h
  refine os_istore hX dX0_shape_51 (by decide) (ozlo (i := 4) (r := x4) rfl) ?_
  dsimp only [List.set]
  refine os_aload (r := x4) hX dX0_shape_53 rfl ?_
  refine os_aload_n (r := x0) hX dX0_shape_55 rfl rfl ?_
  refine os_aload_n (r := x0) hX dX0_shape_56 rfl rfl ?_
  obtain ⟨v1, e2, h⟩ := obn_e h
  refine ow_get (r := x0) hX dX0_shape_57 oF_RX0_41 (ovr_e e2) ?_
  refine os_iload_n hX dX0_shape_60 rfl rfl ?_
  obtain ⟨a3, e4, h⟩ := obn_e h
  obtain ⟨r7, s5, e6, h⟩ := oin_e h
  refine oc_RX0_280 (rb := v1) (a1 := .int x1) hX dX0_shape_61 (by simp only [List.map_cons, List.map_nil, List.sum_cons, List.sum_nil, ocat]; exact Nat.le_of_ble_eq_true rfl) e4 (hc _ _ _ _ e6) ?_
  refine os_null hX dX0_shape_64 ?_
  refine os_iconst (v := 0) hX dX0_shape_65 (by decide) ?_
  obtain ⟨a8, e9, h⟩ := obn_e h
  obtain ⟨r12, s10, e11, h⟩ := orn_e h
  refine oc_RX0_271 (rb := x0) (a1 := .int r7) (a2 := va_rf none) (a3 := .int 0) hX dX0_shape_66 (by simp only [List.map_cons, List.map_nil, List.sum_cons, List.sum_nil, ocat]; exact Nat.le_of_ble_eq_true rfl) e9 (hc _ _ _ _ e11) ?_
  obtain ⟨s13, e14, h⟩ := obn_e h
  refine ow_put (r := x4) (x := va_rf r12) hX dX0_shape_69 oF_RX0_283 (by decide) (orf_n (Or.inl ⟨_, oT_4_3⟩) r12) e14 ?_
  refine os_aload (r := x4) hX dX0_shape_72 rfl ?_
  refine os_iload hX dX0_shape_74 rfl ?_
  refine os_if_eq (tgt := 90) hX dX0_shape_76 (by decide) (fun c15 => ?_) (fun c15 => ?_)
  · rw [if_pos c15] at h
    obtain ⟨s16, e17, h⟩ := olet_e h
    refine os_new hX dX0_shape_90 oN_RX0_27 ?_
    rw [← e17]
    refine os_dup hX dX0_shape_93 (ocat (some s13.2.1)) ?_
    refine os_null hX dX0_shape_94 ?_
    refine os_aload (r := x4) hX dX0_shape_95 rfl ?_
    obtain ⟨v18, e19, h⟩ := obn_e h
    refine ow_get (r := x4) hX dX0_shape_97 oF_RX0_283 (ovr_e e19) ?_
    obtain ⟨v20, e21, h⟩ := obn_e h
    refine ow_get (r := v18) hX dX0_shape_100 oF_RX0_257 (ovi_e e21) ?_
    obtain ⟨a22, e23, h⟩ := obn_e h
    obtain ⟨s24, e25, h⟩ := ocv_e h
    refine oc_RX0_265 (rb := (some s13.2.1)) (a1 := va_rf none) (a2 := .int v20) hX dX0_shape_103 (by simp only [List.map_cons, List.map_nil, List.sum_cons, List.sum_nil, ocat]; exact Nat.le_of_ble_eq_true rfl) e23 (hc _ _ _ _ e25) ?_
    refine os_weak hX (lw := [some (va_rf x0), some (.int x1), some (va_rf x2), some (.int x3), some (va_rf x4), none, none]) ⟨rfl, rfl, rfl, rfl, rfl, trivial⟩ ?_
    exact qj_X0_shape_106 hX hc h
  · rw [if_neg c15] at h
    refine os_aload_n (r := x2) hX dX0_shape_79 rfl rfl ?_
    refine os_iload_n hX dX0_shape_80 rfl rfl ?_
    obtain ⟨a27, e28, h⟩ := obn_e h
    obtain ⟨r31, s29, e30, h⟩ := orn_e h
    refine oc_RX0_57 (rb := x2) (a1 := .int x3) hX dX0_shape_81 (by simp only [List.map_cons, List.map_nil, List.sum_cons, List.sum_nil, ocat]; exact Nat.le_of_ble_eq_true rfl) e28 (hc _ _ _ _ e30) ?_
    obtain ⟨b32, h⟩ := ogd_e h
    refine ow_cs (r := r31) hX dX0_shape_84 oK_RX0_27 b32 ?_
    refine os_goto (tgt := 106) hX dX0_shape_87 (by decide) ?_
    refine os_weak hX (lw := [some (va_rf x0), some (.int x1), some (va_rf x2), some (.int x3), some (va_rf x4), none, none]) ⟨rfl, rfl, rfl, rfl, rfl, trivial⟩ ?_
    exact qj_X0_shape_106 hX hc h
set_option maxHeartbeats 4000000 in
theorem qj_X0_shape_50 {κ : oKv} {n : Nat} {call : oCl} {kc : Nat → List Value → oSt → Option Value × oSt → Prop} {v : Option Value × oSt} {X : Nat → zLv → List Value → oSt → Prop} (hX : oSem RX0 cX0_shape 7 0 (some (.object "LiquidTongue$Known")) κ kc v X) (hc : ∀ j av s w, call j av s = some w → kc j av s w) {x0 : Option Nat} {x1 : Int32} {x2 : Option Nat} {x3 : Int32} {x4 : Option Nat} {σ : oSt} (h : oj_X0_shape_50 n call κ x0 x1 x2 x3 x4 σ = some v) : X 50 [some (va_rf x0), some (.int x1), some (va_rf x2), some (.int x3), some (va_rf x4), none, none] [] σ := by
  rw [oj_X0_shape_50] at h
  refine os_iconst (v := 0) hX dX0_shape_50 (by decide) ?_
  exact qj_X0_shape_51 hX hc h
set_option maxHeartbeats 4000000 in
theorem qb_X0_shape {κ : oKv} {n : Nat} {call : oCl} {kc : Nat → List Value → oSt → Option Value × oSt → Prop} {v : Option Value × oSt} {X : Nat → zLv → List Value → oSt → Prop} (hX : oSem RX0 cX0_shape 7 0 (some (.object "LiquidTongue$Known")) κ kc v X) (hc : ∀ j av s w, call j av s = some w → kc j av s w) {x0 : Option Nat} {x1 : Int32} {x2 : Option Nat} {x3 : Int32} {σ : oSt} (h : ob_X0_shape n call κ x0 x1 x2 x3 σ = some v) : X 0 [some (va_rf x0), some (.int x1), some (va_rf x2), some (.int x3), none, none, none] [] σ := by
  rw [ob_X0_shape] at h
  obtain ⟨s1, e2, h⟩ := olet_e h
  refine os_new hX dX0_shape_0 oN_RX0_61 ?_
  rw [← e2]
  refine os_dup hX dX0_shape_3 (ocat (some σ.2.1)) ?_
  refine os_aload_n (r := x0) hX dX0_shape_4 rfl rfl ?_
  obtain ⟨v3, e4, h⟩ := obn_e h
  refine ow_get (r := x0) hX dX0_shape_5 oF_RX0_41 (ovr_e e4) ?_
  refine os_iload_n hX dX0_shape_8 rfl rfl ?_
  obtain ⟨a5, e6, h⟩ := obn_e h
  obtain ⟨r9, s7, e8, h⟩ := oin_e h
  refine oc_RX0_275 (rb := v3) (a1 := .int x1) hX dX0_shape_9 (by simp only [List.map_cons, List.map_nil, List.sum_cons, List.sum_nil, ocat]; exact Nat.le_of_ble_eq_true rfl) e6 (hc _ _ _ _ e8) ?_
  obtain ⟨a10, e11, h⟩ := obn_e h
  obtain ⟨s12, e13, h⟩ := ocv_e h
  refine oc_RX0_66 (rb := (some σ.2.1)) (a1 := .int r9) hX dX0_shape_12 (by simp only [List.map_cons, List.map_nil, List.sum_cons, List.sum_nil, ocat]; exact Nat.le_of_ble_eq_true rfl) e11 (hc _ _ _ _ e13) ?_
  refine os_astore (r := (some σ.2.1)) hX dX0_shape_15 (by decide) rfl ?_
  dsimp only [List.set]
  refine os_aload (r := (some σ.2.1)) hX dX0_shape_17 rfl ?_
  obtain ⟨v15, e16, h⟩ := obn_e h
  refine ow_get (r := (some σ.2.1)) hX dX0_shape_19 oF_RX0_257 (ovi_e e16) ?_
  refine os_sipush (v := 206) hX dX0_shape_22 (by decide) ?_
  refine os_icmp_ne (tgt := 205) hX dX0_shape_25 (by decide) (fun c17 => ?_) (fun c17 => ?_)
  · rw [if_neg c17] at h
    refine os_weak hX (lw := [some (va_rf x0), none, none, none, some (va_rf (some σ.2.1)), none, none]) ⟨rfl, rfl, trivial⟩ ?_
    exact qj_X0_shape_205 hX hc h
  · rw [if_pos c17] at h
    refine os_iload_n hX dX0_shape_28 rfl rfl ?_
    refine os_bipush (v := 60) hX dX0_shape_29 (by decide) ?_
    refine os_icmp_gt (tgt := 205) hX dX0_shape_31 (by decide) (fun c18 => ?_) (fun c18 => ?_)
    · rw [if_pos c18] at h
      refine os_weak hX (lw := [some (va_rf x0), none, none, none, some (va_rf (some σ.2.1)), none, none]) ⟨rfl, rfl, trivial⟩ ?_
      exact qj_X0_shape_205 hX hc h
    · rw [if_neg c18] at h
      refine os_aload_n (r := x2) hX dX0_shape_34 rfl rfl ?_
      refine os_ifnull (r := x2) (tgt := 50) hX dX0_shape_35 (by decide) (fun c19 => ?_) (fun c19 => ?_)
      · rw [if_pos c19] at h
        exact qj_X0_shape_50 hX hc h
      · rw [if_neg c19] at h
        refine os_iload_n hX dX0_shape_38 rfl rfl ?_
        refine os_aload_n (r := x2) hX dX0_shape_39 rfl rfl ?_
        obtain ⟨a20, e21, h⟩ := obn_e h
        obtain ⟨r24, s22, e23, h⟩ := oin_e h
        refine oc_RX0_86 (rb := x2)  hX dX0_shape_40 (Nat.le_of_ble_eq_true rfl) e21 (hc _ _ _ _ e23) ?_
        refine os_icmp_ge (tgt := 50) hX dX0_shape_43 (by decide) (fun c25 => ?_) (fun c25 => ?_)
        · rw [if_pos c25] at h
          exact qj_X0_shape_50 hX hc h
        · rw [if_neg c25] at h
          refine os_iconst (v := 1) hX dX0_shape_46 (by decide) ?_
          refine os_goto (tgt := 51) hX dX0_shape_47 (by decide) ?_
          exact qj_X0_shape_51 hX hc h
def oj_X0_template_103 (n : Nat) (call : oCl) (κ : oKv) (k59 : Option Nat → Int32 → Option Nat → Int32 → Option Nat → oSt → oRs) (x0 : Option Nat) (x1 : Int32) (x2 : Option Nat) (x4 : Int32) (x5 : Option Nat) (σ : oSt) : oRs :=
  obn (ovr (ofd σ x5 10 3)) fun v1 =>
  k59 x0 x1 x2 x4 v1 σ
def ol_X0_template_59 (n : Nat) (call : oCl) (κ : oKv) : Nat → Option Nat → Int32 → Option Nat → Int32 → Option Nat → oSt → oRs
  | 0, _, _, _, _, _, _ => none
  | f + 1, x0, x1, x2, x4, x5, σ =>
    if x5 = none then
      obn (oob σ x0 2) fun a2 =>
      orn (call 27 [va_rf x0, .int x1, va_rf x2, .int 0] σ) fun r6 s4 =>
      some (some (va_rf r6), s4)
    else
      obn (ovr (ofd σ x5 10 0)) fun v7 =>
      if v7 = none then
        oj_X0_template_103 n call κ (ol_X0_template_59 n call κ f) x0 x1 x2 x4 x5 σ
      else
        obn (ovr (ofd σ x5 10 0)) fun v10 =>
        obn (oob σ v10 6) fun a12 =>
        oin (call 6 [va_rf v10] σ) fun r16 s14 =>
        if r16 = 0 then
          oj_X0_template_103 n call κ (ol_X0_template_59 n call κ f) x0 x1 x2 x4 x5 s14
        else
          if x4 ≤ 0 then
            oj_X0_template_103 n call κ (ol_X0_template_59 n call κ f) x0 x1 x2 x4 x5 s14
          else
            obn (ovr (ofd s14 x0 2 7)) fun v19 =>
            obn (ovr (ofd s14 x5 10 0)) fun v21 =>
            obn (osr s14 v19 (x4 + (-1)) v21) fun s23 =>
            oj_X0_template_103 n call κ (ol_X0_template_59 n call κ f) x0 x1 x2 (x4 + (-1)) x5 s23
def oj_X0_template_37 (n : Nat) (call : oCl) (κ : oKv) (k6 : Option Nat → Int32 → Option Nat → Option Nat → Int32 → Option Nat → oSt → oRs) (x0 : Option Nat) (x1 : Int32) (x2 : Option Nat) (x3 : Option Nat) (x5 : Option Nat) (t0 : Int32) (t1 : Int32) (σ : oSt) : oRs :=
  obn (ovr (ofd σ x5 10 3)) fun v1 =>
  k6 x0 x1 x2 x3 (t0 + t1) v1 σ
def oj_X0_template_36 (n : Nat) (call : oCl) (κ : oKv) (k6 : Option Nat → Int32 → Option Nat → Option Nat → Int32 → Option Nat → oSt → oRs) (x0 : Option Nat) (x1 : Int32) (x2 : Option Nat) (x3 : Option Nat) (x5 : Option Nat) (t0 : Int32) (σ : oSt) : oRs :=
  oj_X0_template_37 n call κ k6 x0 x1 x2 x3 x5 t0 0 σ
def ol_X0_template_6 (n : Nat) (call : oCl) (κ : oKv) : Nat → Option Nat → Int32 → Option Nat → Option Nat → Int32 → Option Nat → oSt → oRs
  | 0, _, _, _, _, _, _, _ => none
  | f + 1, x0, x1, x2, x3, x4, x5, σ =>
    if x5 = none then
      obn (opf σ x0 2 8 (.int x4)) fun s2 =>
      ol_X0_template_59 n call κ n x0 x1 x2 x4 x3 s2
    else
      obn (ovr (ofd σ x5 10 0)) fun v4 =>
      if v4 = none then
        oj_X0_template_36 n call κ (ol_X0_template_6 n call κ f) x0 x1 x2 x3 x5 x4 σ
      else
        obn (ovr (ofd σ x5 10 0)) fun v7 =>
        obn (oob σ v7 6) fun a9 =>
        oin (call 6 [va_rf v7] σ) fun r13 s11 =>
        if r13 = 0 then
          oj_X0_template_36 n call κ (ol_X0_template_6 n call κ f) x0 x1 x2 x3 x5 x4 s11
        else
          oj_X0_template_37 n call κ (ol_X0_template_6 n call κ f) x0 x1 x2 x3 x5 x4 1 s11
def ob_X0_template (n : Nat) (call : oCl) (κ : oKv) (x0 : Option Nat) (x1 : Int32) (x2 : Option Nat) (x3 : Option Nat) (σ : oSt) : oRs :=
  ol_X0_template_6 n call κ n x0 x1 x2 x3 0 x3 σ
set_option maxHeartbeats 4000000 in
theorem qj_X0_template_103 {κ : oKv} {n : Nat} {call : oCl} {kc : Nat → List Value → oSt → Option Value × oSt → Prop} {v : Option Value × oSt} {X : Nat → zLv → List Value → oSt → Prop} (hX : oSem RX0 cX0_template 6 0 (some (.object "LiquidTongue$Known")) κ kc v X) (hc : ∀ j av s w, call j av s = some w → kc j av s w) {k59 : Option Nat → Int32 → Option Nat → Int32 → Option Nat → oSt → oRs} (hk59 : ∀ (x0 : Option Nat) (x1 : Int32) (x2 : Option Nat) (x4 : Int32) (x5 : Option Nat) (s : oSt), k59 x0 x1 x2 x4 x5 s = some v → X 59 [some (va_rf x0), some (.int x1), some (va_rf x2), none, some (.int x4), some (va_rf x5)] [] s) {x0 : Option Nat} {x1 : Int32} {x2 : Option Nat} {x4 : Int32} {x5 : Option Nat} {σ : oSt} (h : oj_X0_template_103 n call κ k59 x0 x1 x2 x4 x5 σ = some v) : X 103 [some (va_rf x0), some (.int x1), some (va_rf x2), none, some (.int x4), some (va_rf x5)] [] σ := by
  rw [oj_X0_template_103] at h
  refine os_aload (r := x5) hX dX0_template_103 rfl ?_
  obtain ⟨v1, e2, h⟩ := obn_e h
  refine ow_get (r := x5) hX dX0_template_105 oF_RX0_136 (ovr_e e2) ?_
  refine os_astore (r := v1) hX dX0_template_108 (by decide) rfl ?_
  dsimp only [List.set]
  refine os_goto (tgt := 59) hX dX0_template_110 (by decide) ?_
  exact hk59 _ _ _ _ _ _ h
set_option maxHeartbeats 4000000 in
theorem ql_X0_template_59 {κ : oKv} {n : Nat} {call : oCl} {kc : Nat → List Value → oSt → Option Value × oSt → Prop} {v : Option Value × oSt} {X : Nat → zLv → List Value → oSt → Prop} (hX : oSem RX0 cX0_template 6 0 (some (.object "LiquidTongue$Known")) κ kc v X) (hc : ∀ j av s w, call j av s = some w → kc j av s w) : ∀ (f : Nat) (x0 : Option Nat) (x1 : Int32) (x2 : Option Nat) (x4 : Int32) (x5 : Option Nat) (σ : oSt), ol_X0_template_59 n call κ f x0 x1 x2 x4 x5 σ = some v → X 59 [some (va_rf x0), some (.int x1), some (va_rf x2), none, some (.int x4), some (va_rf x5)] [] σ := by
  intro f
  induction f with
  | zero => intro x0 x1 x2 x4 x5 σ h; cases h
  | succ f hk59 =>
    intro x0 x1 x2 x4 x5 σ h
    rw [ol_X0_template_59] at h
    refine os_aload (r := x5) hX dX0_template_59 rfl ?_
    refine os_ifnull (r := x5) (tgt := 113) hX dX0_template_61 (by decide) (fun c1 => ?_) (fun c1 => ?_)
    · rw [if_pos c1] at h
      refine os_aload_n (r := x0) hX dX0_template_113 rfl rfl ?_
      refine os_iload_n hX dX0_template_114 rfl rfl ?_
      refine os_aload_n (r := x2) hX dX0_template_115 rfl rfl ?_
      refine os_iconst (v := 0) hX dX0_template_116 (by decide) ?_
      obtain ⟨a2, e3, h⟩ := obn_e h
      obtain ⟨r6, s4, e5, h⟩ := orn_e h
      refine oc_RX0_271 (rb := x0) (a1 := .int x1) (a2 := va_rf x2) (a3 := .int 0) hX dX0_template_117 (Nat.le_of_ble_eq_true rfl) e3 (hc _ _ _ _ e5) ?_
      exact os_aret (r := r6) hX dX0_template_120 rfl (Option.some.inj h)
    · rw [if_neg c1] at h
      refine os_aload (r := x5) hX dX0_template_64 rfl ?_
      obtain ⟨v7, e8, h⟩ := obn_e h
      refine ow_get (r := x5) hX dX0_template_66 oF_RX0_126 (ovr_e e8) ?_
      refine os_ifnull (r := v7) (tgt := 103) hX dX0_template_69 (by decide) (fun c9 => ?_) (fun c9 => ?_)
      · rw [if_pos c9] at h
        exact qj_X0_template_103 hX hc hk59 h
      · rw [if_neg c9] at h
        refine os_aload (r := x5) hX dX0_template_72 rfl ?_
        obtain ⟨v10, e11, h⟩ := obn_e h
        refine ow_get (r := x5) hX dX0_template_74 oF_RX0_126 (ovr_e e11) ?_
        obtain ⟨a12, e13, h⟩ := obn_e h
        obtain ⟨r16, s14, e15, h⟩ := oin_e h
        refine oc_RX0_208 (rb := v10)  hX dX0_template_77 (Nat.le_of_ble_eq_true rfl) e13 (hc _ _ _ _ e15) ?_
        refine os_if_eq (tgt := 103) hX dX0_template_80 (by decide) (fun c17 => ?_) (fun c17 => ?_)
        · rw [if_pos c17] at h
          exact qj_X0_template_103 hX hc hk59 h
        · rw [if_neg c17] at h
          refine os_iload hX dX0_template_83 rfl ?_
          refine os_if_le (tgt := 103) hX dX0_template_85 (by decide) (fun c18 => ?_) (fun c18 => ?_)
          · rw [if_pos c18] at h
            exact qj_X0_template_103 hX hc hk59 h
          · rw [if_neg c18] at h
            refine os_iinc (v := x4 + (-1)) hX dX0_template_88 rfl rfl (by decide) rfl ?_
            dsimp only [List.set]
            refine os_aload_n (r := x0) hX dX0_template_91 rfl rfl ?_
            obtain ⟨v19, e20, h⟩ := obn_e h
            refine ow_get (r := x0) hX dX0_template_92 oF_RX0_29 (ovr_e e20) ?_
            refine os_iload hX dX0_template_95 rfl ?_
            refine os_aload (r := x5) hX dX0_template_97 rfl ?_
            obtain ⟨v21, e22, h⟩ := obn_e h
            refine ow_get (r := x5) hX dX0_template_99 oF_RX0_126 (ovr_e e22) ?_
            obtain ⟨s23, e24, h⟩ := obn_e h
            refine ow_sr (r := v19) (i := (x4 + (-1))) (y := v21) hX dX0_template_102 e24 ?_
            exact qj_X0_template_103 hX hc hk59 h
set_option maxHeartbeats 4000000 in
theorem qj_X0_template_37 {κ : oKv} {n : Nat} {call : oCl} {kc : Nat → List Value → oSt → Option Value × oSt → Prop} {v : Option Value × oSt} {X : Nat → zLv → List Value → oSt → Prop} (hX : oSem RX0 cX0_template 6 0 (some (.object "LiquidTongue$Known")) κ kc v X) (hc : ∀ j av s w, call j av s = some w → kc j av s w) {k6 : Option Nat → Int32 → Option Nat → Option Nat → Int32 → Option Nat → oSt → oRs} (hk6 : ∀ (x0 : Option Nat) (x1 : Int32) (x2 : Option Nat) (x3 : Option Nat) (x4 : Int32) (x5 : Option Nat) (s : oSt), k6 x0 x1 x2 x3 x4 x5 s = some v → X 6 [some (va_rf x0), some (.int x1), some (va_rf x2), some (va_rf x3), some (.int x4), some (va_rf x5)] [] s) {x0 : Option Nat} {x1 : Int32} {x2 : Option Nat} {x3 : Option Nat} {x5 : Option Nat} {t0 : Int32} {t1 : Int32} {σ : oSt} (h : oj_X0_template_37 n call κ k6 x0 x1 x2 x3 x5 t0 t1 σ = some v) : X 37 [some (va_rf x0), some (.int x1), some (va_rf x2), some (va_rf x3), none, some (va_rf x5)] [.int t1, .int t0] σ := by
  rw [oj_X0_template_37] at h
  refine os_iadd hX dX0_template_37 ?_
  refine os_istore hX dX0_template_38 (by decide) (ozlo (i := 3) (r := x3) rfl) ?_
  dsimp only [List.set]
  refine os_aload (r := x5) hX dX0_template_40 rfl ?_
  obtain ⟨v1, e2, h⟩ := obn_e h
  refine ow_get (r := x5) hX dX0_template_42 oF_RX0_136 (ovr_e e2) ?_
  refine os_astore (r := v1) hX dX0_template_45 (by decide) rfl ?_
  dsimp only [List.set]
  refine os_goto (tgt := 6) hX dX0_template_47 (by decide) ?_
  exact hk6 _ _ _ _ _ _ _ h
set_option maxHeartbeats 4000000 in
theorem qj_X0_template_36 {κ : oKv} {n : Nat} {call : oCl} {kc : Nat → List Value → oSt → Option Value × oSt → Prop} {v : Option Value × oSt} {X : Nat → zLv → List Value → oSt → Prop} (hX : oSem RX0 cX0_template 6 0 (some (.object "LiquidTongue$Known")) κ kc v X) (hc : ∀ j av s w, call j av s = some w → kc j av s w) {k6 : Option Nat → Int32 → Option Nat → Option Nat → Int32 → Option Nat → oSt → oRs} (hk6 : ∀ (x0 : Option Nat) (x1 : Int32) (x2 : Option Nat) (x3 : Option Nat) (x4 : Int32) (x5 : Option Nat) (s : oSt), k6 x0 x1 x2 x3 x4 x5 s = some v → X 6 [some (va_rf x0), some (.int x1), some (va_rf x2), some (va_rf x3), some (.int x4), some (va_rf x5)] [] s) {x0 : Option Nat} {x1 : Int32} {x2 : Option Nat} {x3 : Option Nat} {x5 : Option Nat} {t0 : Int32} {σ : oSt} (h : oj_X0_template_36 n call κ k6 x0 x1 x2 x3 x5 t0 σ = some v) : X 36 [some (va_rf x0), some (.int x1), some (va_rf x2), some (va_rf x3), none, some (va_rf x5)] [.int t0] σ := by
  rw [oj_X0_template_36] at h
  refine os_iconst (v := 0) hX dX0_template_36 (by decide) ?_
  exact qj_X0_template_37 hX hc hk6 h
set_option maxHeartbeats 4000000 in
theorem ql_X0_template_6 {κ : oKv} {n : Nat} {call : oCl} {kc : Nat → List Value → oSt → Option Value × oSt → Prop} {v : Option Value × oSt} {X : Nat → zLv → List Value → oSt → Prop} (hX : oSem RX0 cX0_template 6 0 (some (.object "LiquidTongue$Known")) κ kc v X) (hc : ∀ j av s w, call j av s = some w → kc j av s w) : ∀ (f : Nat) (x0 : Option Nat) (x1 : Int32) (x2 : Option Nat) (x3 : Option Nat) (x4 : Int32) (x5 : Option Nat) (σ : oSt), ol_X0_template_6 n call κ f x0 x1 x2 x3 x4 x5 σ = some v → X 6 [some (va_rf x0), some (.int x1), some (va_rf x2), some (va_rf x3), some (.int x4), some (va_rf x5)] [] σ := by
  intro f
  induction f with
  | zero => intro x0 x1 x2 x3 x4 x5 σ h; cases h
  | succ f hk6 =>
    intro x0 x1 x2 x3 x4 x5 σ h
    rw [ol_X0_template_6] at h
    refine os_aload (r := x5) hX dX0_template_6 rfl ?_
    refine os_ifnull (r := x5) (tgt := 50) hX dX0_template_8 (by decide) (fun c1 => ?_) (fun c1 => ?_)
    · rw [if_pos c1] at h
      refine os_aload_n (r := x0) hX dX0_template_50 rfl rfl ?_
      refine os_iload hX dX0_template_51 rfl ?_
      obtain ⟨s2, e3, h⟩ := obn_e h
      refine ow_put (r := x0) (x := .int x4) hX dX0_template_53 oF_RX0_268 (by decide) (opn_I oT_2_8) e3 ?_
      refine os_aload_n (r := x3) hX dX0_template_56 rfl rfl ?_
      refine os_astore (r := x3) hX dX0_template_57 (by decide) rfl ?_
      dsimp only [List.set]
      refine os_weak hX (lw := [some (va_rf x0), some (.int x1), some (va_rf x2), none, some (.int x4), some (va_rf x3)]) ⟨rfl, rfl, rfl, rfl, rfl, trivial⟩ ?_
      exact ql_X0_template_59 hX hc n _ _ _ _ _ _ h
    · rw [if_neg c1] at h
      refine os_iload hX dX0_template_11 rfl ?_
      refine os_aload (r := x5) hX dX0_template_13 rfl ?_
      obtain ⟨v4, e5, h⟩ := obn_e h
      refine ow_get (r := x5) hX dX0_template_15 oF_RX0_126 (ovr_e e5) ?_
      refine os_ifnull (r := v4) (tgt := 36) hX dX0_template_18 (by decide) (fun c6 => ?_) (fun c6 => ?_)
      · rw [if_pos c6] at h
        refine os_weak hX (lw := [some (va_rf x0), some (.int x1), some (va_rf x2), some (va_rf x3), none, some (va_rf x5)]) ⟨rfl, rfl, rfl, rfl, rfl, trivial⟩ ?_
        exact qj_X0_template_36 hX hc hk6 h
      · rw [if_neg c6] at h
        refine os_aload (r := x5) hX dX0_template_21 rfl ?_
        obtain ⟨v7, e8, h⟩ := obn_e h
        refine ow_get (r := x5) hX dX0_template_23 oF_RX0_126 (ovr_e e8) ?_
        obtain ⟨a9, e10, h⟩ := obn_e h
        obtain ⟨r13, s11, e12, h⟩ := oin_e h
        refine oc_RX0_208 (rb := v7)  hX dX0_template_26 (Nat.le_of_ble_eq_true rfl) e10 (hc _ _ _ _ e12) ?_
        refine os_if_eq (tgt := 36) hX dX0_template_29 (by decide) (fun c14 => ?_) (fun c14 => ?_)
        · rw [if_pos c14] at h
          refine os_weak hX (lw := [some (va_rf x0), some (.int x1), some (va_rf x2), some (va_rf x3), none, some (va_rf x5)]) ⟨rfl, rfl, rfl, rfl, rfl, trivial⟩ ?_
          exact qj_X0_template_36 hX hc hk6 h
        · rw [if_neg c14] at h
          refine os_iconst (v := 1) hX dX0_template_32 (by decide) ?_
          refine os_goto (tgt := 37) hX dX0_template_33 (by decide) ?_
          refine os_weak hX (lw := [some (va_rf x0), some (.int x1), some (va_rf x2), some (va_rf x3), none, some (va_rf x5)]) ⟨rfl, rfl, rfl, rfl, rfl, trivial⟩ ?_
          exact qj_X0_template_37 hX hc hk6 h
set_option maxHeartbeats 4000000 in
theorem qb_X0_template {κ : oKv} {n : Nat} {call : oCl} {kc : Nat → List Value → oSt → Option Value × oSt → Prop} {v : Option Value × oSt} {X : Nat → zLv → List Value → oSt → Prop} (hX : oSem RX0 cX0_template 6 0 (some (.object "LiquidTongue$Known")) κ kc v X) (hc : ∀ j av s w, call j av s = some w → kc j av s w) {x0 : Option Nat} {x1 : Int32} {x2 : Option Nat} {x3 : Option Nat} {σ : oSt} (h : ob_X0_template n call κ x0 x1 x2 x3 σ = some v) : X 0 [some (va_rf x0), some (.int x1), some (va_rf x2), some (va_rf x3), none, none] [] σ := by
  rw [ob_X0_template] at h
  refine os_iconst (v := 0) hX dX0_template_0 (by decide) ?_
  refine os_istore hX dX0_template_1 (by decide) (ozlo (i := 3) (r := x3) rfl) ?_
  dsimp only [List.set]
  refine os_aload_n (r := x3) hX dX0_template_3 rfl rfl ?_
  refine os_astore (r := x3) hX dX0_template_4 (by decide) rfl ?_
  dsimp only [List.set]
  exact ql_X0_template_6 hX hc n _ _ _ _ _ _ _ h
def ol_X0_fitBody_9 (n : Nat) (call : oCl) (κ : oKv) : Nat → Option Nat → Option Nat → Option Nat → Option Nat → Int32 → oSt → oRs
  | 0, _, _, _, _, _, _ => none
  | f + 1, x0, x1, x4, x5, x6, σ =>
    obn (ovr (ofd σ x1 7 11)) fun v1 =>
    obn (oob σ v1 1) fun a3 =>
    oin (call 236 [va_rf v1] σ) fun r7 s5 =>
    if r7 ≤ x6 then
      obn (ovr (ofd s5 x1 7 12)) fun v9 =>
      obn (oob s5 x0 2) fun a11 =>
      orn (call 30 [va_rf x0, va_rf v9, va_rf x4] s5) fun r15 s13 =>
      obn (oob s13 x0 2) fun a16 =>
      ocv (call 12 [va_rf x0, va_rf r15, va_rf x5, va_rf x4] s13) fun s18 =>
      some (none, s18)
    else
      olet (onew s5 (.inr (10, odef 10)) (oq 10).2.2) fun s21 =>
      obn (ovr (ofd s21 x1 7 11)) fun v23 =>
      obn (oob s21 v23 1) fun a25 =>
      orn (call 234 [va_rf v23, .int x6] s21) fun r29 s27 =>
      ogd (ocs s27 r29 6) (
      obn ((some s5.2.1)) fun a31 =>
      ocv (call 2 [va_rf (some s5.2.1), va_rf r29, va_rf x4] s27) fun s33 =>
      obn (oob s33 x5 4) fun a36 =>
      orn (call 4 [va_rf x5, va_rf none] s33) fun r40 s38 =>
      ol_X0_fitBody_9 n call κ f x0 x1 (some s5.2.1) r40 (x6 + 1) s38)
def ob_X0_fitBody (n : Nat) (call : oCl) (κ : oKv) (x0 : Option Nat) (x1 : Option Nat) (x2 : Option Nat) (x3 : Option Nat) (σ : oSt) : oRs :=
  ol_X0_fitBody_9 n call κ n x0 x1 x3 x2 0 σ
set_option maxHeartbeats 4000000 in
theorem ql_X0_fitBody_9 {κ : oKv} {n : Nat} {call : oCl} {kc : Nat → List Value → oSt → Option Value × oSt → Prop} {v : Option Value × oSt} {X : Nat → zLv → List Value → oSt → Prop} (hX : oSem RX0 cX0_fitBody 7 0 none κ kc v X) (hc : ∀ j av s w, call j av s = some w → kc j av s w) : ∀ (f : Nat) (x0 : Option Nat) (x1 : Option Nat) (x4 : Option Nat) (x5 : Option Nat) (x6 : Int32) (σ : oSt), ol_X0_fitBody_9 n call κ f x0 x1 x4 x5 x6 σ = some v → X 9 [some (va_rf x0), some (va_rf x1), none, none, some (va_rf x4), some (va_rf x5), some (.int x6)] [] σ := by
  intro f
  induction f with
  | zero => intro x0 x1 x4 x5 x6 σ h; cases h
  | succ f hk9 =>
    intro x0 x1 x4 x5 x6 σ h
    rw [ol_X0_fitBody_9] at h
    refine os_iload hX dX0_fitBody_9 rfl ?_
    refine os_aload_n (r := x1) hX dX0_fitBody_11 rfl rfl ?_
    obtain ⟨v1, e2, h⟩ := obn_e h
    refine ow_get (r := x1) hX dX0_fitBody_12 oF_RX0_241 (ovr_e e2) ?_
    obtain ⟨a3, e4, h⟩ := obn_e h
    obtain ⟨r7, s5, e6, h⟩ := oin_e h
    refine oc_RX0_86 (rb := v1)  hX dX0_fitBody_15 (Nat.le_of_ble_eq_true rfl) e4 (hc _ _ _ _ e6) ?_
    refine os_icmp_ge (tgt := 58) hX dX0_fitBody_18 (by decide) (fun c8 => ?_) (fun c8 => ?_)
    · rw [if_pos c8] at h
      refine os_aload_n (r := x0) hX dX0_fitBody_58 rfl rfl ?_
      refine os_aload_n (r := x0) hX dX0_fitBody_59 rfl rfl ?_
      refine os_aload_n (r := x1) hX dX0_fitBody_60 rfl rfl ?_
      obtain ⟨v9, e10, h⟩ := obn_e h
      refine ow_get (r := x1) hX dX0_fitBody_61 oF_RX0_164 (ovr_e e10) ?_
      refine os_aload (r := x4) hX dX0_fitBody_64 rfl ?_
      obtain ⟨a11, e12, h⟩ := obn_e h
      obtain ⟨r15, s13, e14, h⟩ := orn_e h
      refine oc_RX0_82 (rb := x0) (a1 := va_rf v9) (a2 := va_rf x4) hX dX0_fitBody_66 (by simp only [List.map_cons, List.map_nil, List.sum_cons, List.sum_nil, ocat]; exact Nat.le_of_ble_eq_true rfl) e12 (hc _ _ _ _ e14) ?_
      refine os_aload (r := x5) hX dX0_fitBody_69 rfl ?_
      refine os_aload (r := x4) hX dX0_fitBody_71 rfl ?_
      obtain ⟨a16, e17, h⟩ := obn_e h
      obtain ⟨s18, e19, h⟩ := ocv_e h
      refine oc_RX0_236 (rb := x0) (a1 := va_rf r15) (a2 := va_rf x5) (a3 := va_rf x4) hX dX0_fitBody_73 (Nat.le_of_ble_eq_true rfl) e17 (hc _ _ _ _ e19) ?_
      exact os_vret hX dX0_fitBody_76 rfl (Option.some.inj h)
    · rw [if_neg c8] at h
      obtain ⟨s21, e22, h⟩ := olet_e h
      refine os_new hX dX0_fitBody_21 oN_RX0_73 ?_
      rw [← e22]
      refine os_dup hX dX0_fitBody_24 (ocat (some s5.2.1)) ?_
      refine os_aload_n (r := x1) hX dX0_fitBody_25 rfl rfl ?_
      obtain ⟨v23, e24, h⟩ := obn_e h
      refine ow_get (r := x1) hX dX0_fitBody_26 oF_RX0_241 (ovr_e e24) ?_
      refine os_iload hX dX0_fitBody_29 rfl ?_
      obtain ⟨a25, e26, h⟩ := obn_e h
      obtain ⟨r29, s27, e28, h⟩ := orn_e h
      refine oc_RX0_57 (rb := v23) (a1 := .int x6) hX dX0_fitBody_31 (by simp only [List.map_cons, List.map_nil, List.sum_cons, List.sum_nil, ocat]; exact Nat.le_of_ble_eq_true rfl) e26 (hc _ _ _ _ e28) ?_
      obtain ⟨b30, h⟩ := ogd_e h
      refine ow_cs (r := r29) hX dX0_fitBody_34 oK_RX0_27 b30 ?_
      refine os_aload (r := x4) hX dX0_fitBody_37 rfl ?_
      obtain ⟨a31, e32, h⟩ := obn_e h
      obtain ⟨s33, e34, h⟩ := ocv_e h
      refine oc_RX0_75 (rb := (some s5.2.1)) (a1 := va_rf r29) (a2 := va_rf x4) hX dX0_fitBody_39 (by simp only [List.map_cons, List.map_nil, List.sum_cons, List.sum_nil, ocat]; exact Nat.le_of_ble_eq_true rfl) e32 (hc _ _ _ _ e34) ?_
      refine os_astore (r := (some s5.2.1)) hX dX0_fitBody_42 (by decide) rfl ?_
      dsimp only [List.set]
      refine os_aload (r := x5) hX dX0_fitBody_44 rfl ?_
      refine os_null hX dX0_fitBody_46 ?_
      obtain ⟨a36, e37, h⟩ := obn_e h
      obtain ⟨r40, s38, e39, h⟩ := orn_e h
      refine oc_RX0_248 (rb := x5) (a1 := va_rf none) hX dX0_fitBody_47 (Nat.le_of_ble_eq_true rfl) e37 (hc _ _ _ _ e39) ?_
      refine os_astore (r := r40) hX dX0_fitBody_50 (by decide) (ozlo (i := 4) (r := (some s5.2.1)) rfl) ?_
      dsimp only [List.set]
      refine os_iinc (v := x6 + 1) hX dX0_fitBody_52 rfl rfl (by decide) (ozlo (i := 5) (r := r40) rfl) ?_
      dsimp only [List.set]
      refine os_goto (tgt := 9) hX dX0_fitBody_55 (by decide) ?_
      exact hk9 _ _ _ _ _ _ h
set_option maxHeartbeats 4000000 in
theorem qb_X0_fitBody {κ : oKv} {n : Nat} {call : oCl} {kc : Nat → List Value → oSt → Option Value × oSt → Prop} {v : Option Value × oSt} {X : Nat → zLv → List Value → oSt → Prop} (hX : oSem RX0 cX0_fitBody 7 0 none κ kc v X) (hc : ∀ j av s w, call j av s = some w → kc j av s w) {x0 : Option Nat} {x1 : Option Nat} {x2 : Option Nat} {x3 : Option Nat} {σ : oSt} (h : ob_X0_fitBody n call κ x0 x1 x2 x3 σ = some v) : X 0 [some (va_rf x0), some (va_rf x1), some (va_rf x2), some (va_rf x3), none, none, none] [] σ := by
  rw [ob_X0_fitBody] at h
  refine os_aload_n (r := x3) hX dX0_fitBody_0 rfl rfl ?_
  refine os_astore (r := x3) hX dX0_fitBody_1 (by decide) (ozlo (i := 3) (r := x3) rfl) ?_
  dsimp only [List.set]
  refine os_aload_n (r := x2) hX dX0_fitBody_3 rfl rfl ?_
  refine os_astore (r := x2) hX dX0_fitBody_4 (by decide) (ozlo (i := 4) (r := x3) rfl) ?_
  dsimp only [List.set]
  refine os_iconst (v := 0) hX dX0_fitBody_6 (by decide) ?_
  refine os_istore hX dX0_fitBody_7 (by decide) (ozlo (i := 5) (r := x2) rfl) ?_
  dsimp only [List.set]
  refine os_weak hX (lw := [some (va_rf x0), some (va_rf x1), none, none, some (va_rf x3), some (va_rf x2), some (.int 0)]) ⟨rfl, rfl, rfl, rfl, rfl, trivial⟩ ?_
  exact ql_X0_fitBody_9 hX hc n _ _ _ _ _ _ h
theorem olk_X0_walk_25 {x : Int32} (h0 : ¬ x = 40) (h1 : ¬ x = 201) (h2 : ¬ x = 206) (h3 : ¬ x = 207) (h4 : ¬ x = 212) (h5 : ¬ x = 214) (h6 : ¬ x = 219) (h7 : ¬ x = 220) (h8 : ¬ x = 401) : Op.lookupswitch.offset (#[(40, 147), (201, 125), (206, 97), (207, 104), (212, 83), (214, 111), (219, 90), (220, 147), (401, 118)] : Array (Int × Int)).toList 157 x.toInt = 157 := by
  have a0 := z_ne h0 (k := 40) (by decide)
  have a1 := z_ne h1 (k := 201) (by decide)
  have a2 := z_ne h2 (k := 206) (by decide)
  have a3 := z_ne h3 (k := 207) (by decide)
  have a4 := z_ne h4 (k := 212) (by decide)
  have a5 := z_ne h5 (k := 214) (by decide)
  have a6 := z_ne h6 (k := 219) (by decide)
  have a7 := z_ne h7 (k := 220) (by decide)
  have a8 := z_ne h8 (k := 401) (by decide)
  simp [Op.lookupswitch.offset, a0, Ne.symm a0, a1, Ne.symm a1, a2, Ne.symm a2, a3, Ne.symm a3, a4, Ne.symm a4, a5, Ne.symm a5, a6, Ne.symm a6, a7, Ne.symm a7, a8, Ne.symm a8]
def oj_X0_walk_21 (n : Nat) (call : oCl) (κ : oKv) (x0 : Option Nat) (x1 : Option Nat) (x2 : Option Nat) (σ : oSt) : oRs :=
  obn (ovi (ofd σ x1 7 0)) fun v1 =>
  if v1 = 40 then
    obn (ovr (ofd σ x1 7 12)) fun v4 =>
    obn (oob σ x0 2) fun a6 =>
    orn (call 30 [va_rf x0, va_rf v4, va_rf x2] σ) fun r10 s8 =>
    some (some (va_rf r10), s8)
  else
  if v1 = 201 then
    obn (ovr (ofd σ x1 7 12)) fun v12 =>
    olet (onew σ (.inr (10, odef 10)) (oq 10).2.2) fun s14 =>
    obn (ovr (ofd s14 x1 7 14)) fun v16 =>
    obn ((some σ.2.1)) fun a18 =>
    ocv (call 13 [va_rf (some σ.2.1), va_rf v16, .int 1, va_rf x2] s14) fun s20 =>
    obn (oob s20 x0 2) fun a23 =>
    orn (call 30 [va_rf x0, va_rf v12, va_rf (some σ.2.1)] s20) fun r27 s25 =>
    some (some (va_rf r27), s25)
  else
  if v1 = 206 then
    obn (oob σ x0 2) fun a29 =>
    orn (call 32 [va_rf x0, va_rf x1, va_rf x2] σ) fun r33 s31 =>
    some (some (va_rf r33), s31)
  else
  if v1 = 207 then
    obn (oob σ x0 2) fun a35 =>
    orn (call 33 [va_rf x0, va_rf x1, va_rf x2] σ) fun r39 s37 =>
    some (some (va_rf r39), s37)
  else
  if v1 = 212 then
    obn (oob σ x0 2) fun a41 =>
    orn (call 34 [va_rf x0, va_rf x1, va_rf x2] σ) fun r45 s43 =>
    some (some (va_rf r45), s43)
  else
  if v1 = 214 then
    obn (oob σ x0 2) fun a47 =>
    orn (call 35 [va_rf x0, va_rf x1, va_rf x2] σ) fun r51 s49 =>
    some (some (va_rf r51), s49)
  else
  if v1 = 219 then
    obn (oob σ x0 2) fun a53 =>
    orn (call 36 [va_rf x0, va_rf x1, va_rf x2] σ) fun r57 s55 =>
    some (some (va_rf r57), s55)
  else
  if v1 = 220 then
    obn (ovr (ofd σ x1 7 12)) fun v59 =>
    obn (oob σ x0 2) fun a61 =>
    orn (call 30 [va_rf x0, va_rf v59, va_rf x2] σ) fun r65 s63 =>
    some (some (va_rf r65), s63)
  else
  if v1 = 401 then
    obn (oob σ x0 2) fun a67 =>
    orn (call 31 [va_rf x0, va_rf x1, va_rf x2] σ) fun r71 s69 =>
    some (some (va_rf r71), s69)
  else
  orn (call 20 [va_rf x1] σ) fun r74 s72 =>
  some (some (va_rf r74), s72)
def ob_X0_walk (n : Nat) (call : oCl) (κ : oKv) (x0 : Option Nat) (x1 : Option Nat) (x2 : Option Nat) (σ : oSt) : oRs :=
  obn (ovr (ofd σ x1 7 17)) fun v1 =>
  if v1 = none then
    oj_X0_walk_21 n call κ x0 x1 x2 σ
  else
    obn (opf σ x1 7 20 (va_rf x2)) fun s4 =>
    obn (ovr (ofd s4 x0 2 6)) fun v6 =>
    obn (oob s4 v6 1) fun a8 =>
    oin (call 227 [va_rf v6, va_rf x1] s4) fun r12 s10 =>
    oj_X0_walk_21 n call κ x0 x1 x2 s10
set_option maxHeartbeats 4000000 in
theorem qj_X0_walk_21 {κ : oKv} {n : Nat} {call : oCl} {kc : Nat → List Value → oSt → Option Value × oSt → Prop} {v : Option Value × oSt} {X : Nat → zLv → List Value → oSt → Prop} (hX : oSem RX0 cX0_walk 3 0 (some (.object "LiquidTongue$Known")) κ kc v X) (hc : ∀ j av s w, call j av s = some w → kc j av s w) {x0 : Option Nat} {x1 : Option Nat} {x2 : Option Nat} {σ : oSt} (h : oj_X0_walk_21 n call κ x0 x1 x2 σ = some v) : X 21 [some (va_rf x0), some (va_rf x1), some (va_rf x2)] [] σ := by
  rw [oj_X0_walk_21] at h
  refine os_aload_n (r := x1) hX dX0_walk_21 rfl rfl ?_
  obtain ⟨v1, e2, h⟩ := obn_e h
  refine ow_get (r := x1) hX dX0_walk_22 oF_RX0_143 (ovi_e e2) ?_
  by_cases c3 : v1 = 40
  · rw [if_pos c3] at h
    refine os_lookup (tgt := 172) (off := 147) hX dX0_walk_25 (by decide) (by rw [c3]; rfl) (by decide) ?_
    refine os_aload_n (r := x0) hX dX0_walk_172 rfl rfl ?_
    refine os_aload_n (r := x1) hX dX0_walk_173 rfl rfl ?_
    obtain ⟨v4, e5, h⟩ := obn_e h
    refine ow_get (r := x1) hX dX0_walk_174 oF_RX0_164 (ovr_e e5) ?_
    refine os_aload_n (r := x2) hX dX0_walk_177 rfl rfl ?_
    obtain ⟨a6, e7, h⟩ := obn_e h
    obtain ⟨r10, s8, e9, h⟩ := orn_e h
    refine oc_RX0_82 (rb := x0) (a1 := va_rf v4) (a2 := va_rf x2) hX dX0_walk_178 (Nat.le_of_ble_eq_true rfl) e7 (hc _ _ _ _ e9) ?_
    exact os_aret (r := r10) hX dX0_walk_181 rfl (Option.some.inj h)
  rw [if_neg c3] at h
  by_cases c11 : v1 = 201
  · rw [if_pos c11] at h
    refine os_lookup (tgt := 150) (off := 125) hX dX0_walk_25 (by decide) (by rw [c11]; rfl) (by decide) ?_
    refine os_aload_n (r := x0) hX dX0_walk_150 rfl rfl ?_
    refine os_aload_n (r := x1) hX dX0_walk_151 rfl rfl ?_
    obtain ⟨v12, e13, h⟩ := obn_e h
    refine ow_get (r := x1) hX dX0_walk_152 oF_RX0_164 (ovr_e e13) ?_
    obtain ⟨s14, e15, h⟩ := olet_e h
    refine os_new hX dX0_walk_155 oN_RX0_73 ?_
    rw [← e15]
    refine os_dup hX dX0_walk_158 (ocat (some σ.2.1)) ?_
    refine os_aload_n (r := x1) hX dX0_walk_159 rfl rfl ?_
    obtain ⟨v16, e17, h⟩ := obn_e h
    refine ow_get (r := x1) hX dX0_walk_160 oF_RX0_167 (ovr_e e17) ?_
    refine os_iconst (v := 1) hX dX0_walk_163 (by decide) ?_
    refine os_aload_n (r := x2) hX dX0_walk_164 rfl rfl ?_
    obtain ⟨a18, e19, h⟩ := obn_e h
    obtain ⟨s20, e21, h⟩ := ocv_e h
    refine oc_RX0_170 (rb := (some σ.2.1)) (a1 := va_rf v16) (a2 := .int 1) (a3 := va_rf x2) hX dX0_walk_165 (by simp only [List.map_cons, List.map_nil, List.sum_cons, List.sum_nil, ocat]; exact Nat.le_of_ble_eq_true rfl) e19 (hc _ _ _ _ e21) ?_
    obtain ⟨a23, e24, h⟩ := obn_e h
    obtain ⟨r27, s25, e26, h⟩ := orn_e h
    refine oc_RX0_82 (rb := x0) (a1 := va_rf v12) (a2 := va_rf (some σ.2.1)) hX dX0_walk_168 (Nat.le_of_ble_eq_true rfl) e24 (hc _ _ _ _ e26) ?_
    exact os_aret (r := r27) hX dX0_walk_171 rfl (Option.some.inj h)
  rw [if_neg c11] at h
  by_cases c28 : v1 = 206
  · rw [if_pos c28] at h
    refine os_lookup (tgt := 122) (off := 97) hX dX0_walk_25 (by decide) (by rw [c28]; rfl) (by decide) ?_
    refine os_aload_n (r := x0) hX dX0_walk_122 rfl rfl ?_
    refine os_aload_n (r := x1) hX dX0_walk_123 rfl rfl ?_
    refine os_aload_n (r := x2) hX dX0_walk_124 rfl rfl ?_
    obtain ⟨a29, e30, h⟩ := obn_e h
    obtain ⟨r33, s31, e32, h⟩ := orn_e h
    refine oc_RX0_152 (rb := x0) (a1 := va_rf x1) (a2 := va_rf x2) hX dX0_walk_125 (Nat.le_of_ble_eq_true rfl) e30 (hc _ _ _ _ e32) ?_
    exact os_aret (r := r33) hX dX0_walk_128 rfl (Option.some.inj h)
  rw [if_neg c28] at h
  by_cases c34 : v1 = 207
  · rw [if_pos c34] at h
    refine os_lookup (tgt := 129) (off := 104) hX dX0_walk_25 (by decide) (by rw [c34]; rfl) (by decide) ?_
    refine os_aload_n (r := x0) hX dX0_walk_129 rfl rfl ?_
    refine os_aload_n (r := x1) hX dX0_walk_130 rfl rfl ?_
    refine os_aload_n (r := x2) hX dX0_walk_131 rfl rfl ?_
    obtain ⟨a35, e36, h⟩ := obn_e h
    obtain ⟨r39, s37, e38, h⟩ := orn_e h
    refine oc_RX0_155 (rb := x0) (a1 := va_rf x1) (a2 := va_rf x2) hX dX0_walk_132 (Nat.le_of_ble_eq_true rfl) e36 (hc _ _ _ _ e38) ?_
    exact os_aret (r := r39) hX dX0_walk_135 rfl (Option.some.inj h)
  rw [if_neg c34] at h
  by_cases c40 : v1 = 212
  · rw [if_pos c40] at h
    refine os_lookup (tgt := 108) (off := 83) hX dX0_walk_25 (by decide) (by rw [c40]; rfl) (by decide) ?_
    refine os_aload_n (r := x0) hX dX0_walk_108 rfl rfl ?_
    refine os_aload_n (r := x1) hX dX0_walk_109 rfl rfl ?_
    refine os_aload_n (r := x2) hX dX0_walk_110 rfl rfl ?_
    obtain ⟨a41, e42, h⟩ := obn_e h
    obtain ⟨r45, s43, e44, h⟩ := orn_e h
    refine oc_RX0_146 (rb := x0) (a1 := va_rf x1) (a2 := va_rf x2) hX dX0_walk_111 (Nat.le_of_ble_eq_true rfl) e42 (hc _ _ _ _ e44) ?_
    exact os_aret (r := r45) hX dX0_walk_114 rfl (Option.some.inj h)
  rw [if_neg c40] at h
  by_cases c46 : v1 = 214
  · rw [if_pos c46] at h
    refine os_lookup (tgt := 136) (off := 111) hX dX0_walk_25 (by decide) (by rw [c46]; rfl) (by decide) ?_
    refine os_aload_n (r := x0) hX dX0_walk_136 rfl rfl ?_
    refine os_aload_n (r := x1) hX dX0_walk_137 rfl rfl ?_
    refine os_aload_n (r := x2) hX dX0_walk_138 rfl rfl ?_
    obtain ⟨a47, e48, h⟩ := obn_e h
    obtain ⟨r51, s49, e50, h⟩ := orn_e h
    refine oc_RX0_158 (rb := x0) (a1 := va_rf x1) (a2 := va_rf x2) hX dX0_walk_139 (Nat.le_of_ble_eq_true rfl) e48 (hc _ _ _ _ e50) ?_
    exact os_aret (r := r51) hX dX0_walk_142 rfl (Option.some.inj h)
  rw [if_neg c46] at h
  by_cases c52 : v1 = 219
  · rw [if_pos c52] at h
    refine os_lookup (tgt := 115) (off := 90) hX dX0_walk_25 (by decide) (by rw [c52]; rfl) (by decide) ?_
    refine os_aload_n (r := x0) hX dX0_walk_115 rfl rfl ?_
    refine os_aload_n (r := x1) hX dX0_walk_116 rfl rfl ?_
    refine os_aload_n (r := x2) hX dX0_walk_117 rfl rfl ?_
    obtain ⟨a53, e54, h⟩ := obn_e h
    obtain ⟨r57, s55, e56, h⟩ := orn_e h
    refine oc_RX0_149 (rb := x0) (a1 := va_rf x1) (a2 := va_rf x2) hX dX0_walk_118 (Nat.le_of_ble_eq_true rfl) e54 (hc _ _ _ _ e56) ?_
    exact os_aret (r := r57) hX dX0_walk_121 rfl (Option.some.inj h)
  rw [if_neg c52] at h
  by_cases c58 : v1 = 220
  · rw [if_pos c58] at h
    refine os_lookup (tgt := 172) (off := 147) hX dX0_walk_25 (by decide) (by rw [c58]; rfl) (by decide) ?_
    refine os_aload_n (r := x0) hX dX0_walk_172 rfl rfl ?_
    refine os_aload_n (r := x1) hX dX0_walk_173 rfl rfl ?_
    obtain ⟨v59, e60, h⟩ := obn_e h
    refine ow_get (r := x1) hX dX0_walk_174 oF_RX0_164 (ovr_e e60) ?_
    refine os_aload_n (r := x2) hX dX0_walk_177 rfl rfl ?_
    obtain ⟨a61, e62, h⟩ := obn_e h
    obtain ⟨r65, s63, e64, h⟩ := orn_e h
    refine oc_RX0_82 (rb := x0) (a1 := va_rf v59) (a2 := va_rf x2) hX dX0_walk_178 (Nat.le_of_ble_eq_true rfl) e62 (hc _ _ _ _ e64) ?_
    exact os_aret (r := r65) hX dX0_walk_181 rfl (Option.some.inj h)
  rw [if_neg c58] at h
  by_cases c66 : v1 = 401
  · rw [if_pos c66] at h
    refine os_lookup (tgt := 143) (off := 118) hX dX0_walk_25 (by decide) (by rw [c66]; rfl) (by decide) ?_
    refine os_aload_n (r := x0) hX dX0_walk_143 rfl rfl ?_
    refine os_aload_n (r := x1) hX dX0_walk_144 rfl rfl ?_
    refine os_aload_n (r := x2) hX dX0_walk_145 rfl rfl ?_
    obtain ⟨a67, e68, h⟩ := obn_e h
    obtain ⟨r71, s69, e70, h⟩ := orn_e h
    refine oc_RX0_161 (rb := x0) (a1 := va_rf x1) (a2 := va_rf x2) hX dX0_walk_146 (Nat.le_of_ble_eq_true rfl) e68 (hc _ _ _ _ e70) ?_
    exact os_aret (r := r71) hX dX0_walk_149 rfl (Option.some.inj h)
  rw [if_neg c66] at h
  refine os_lookup (tgt := 182) (off := 157) hX dX0_walk_25 (by decide) (olk_X0_walk_25 c3 c11 c28 c34 c40 c46 c52 c58 c66) (by decide) ?_
  refine os_aload_n (r := x1) hX dX0_walk_182 rfl rfl ?_
  obtain ⟨r74, s72, e73, h⟩ := orn_e h
  refine oc_RX0_173 (a1 := va_rf x1) hX dX0_walk_183 (Nat.le_of_ble_eq_true rfl) (hc _ _ _ _ e73) ?_
  exact os_aret (r := r74) hX dX0_walk_186 rfl (Option.some.inj h)
set_option maxHeartbeats 4000000 in
theorem qb_X0_walk {κ : oKv} {n : Nat} {call : oCl} {kc : Nat → List Value → oSt → Option Value × oSt → Prop} {v : Option Value × oSt} {X : Nat → zLv → List Value → oSt → Prop} (hX : oSem RX0 cX0_walk 3 0 (some (.object "LiquidTongue$Known")) κ kc v X) (hc : ∀ j av s w, call j av s = some w → kc j av s w) {x0 : Option Nat} {x1 : Option Nat} {x2 : Option Nat} {σ : oSt} (h : ob_X0_walk n call κ x0 x1 x2 σ = some v) : X 0 [some (va_rf x0), some (va_rf x1), some (va_rf x2)] [] σ := by
  rw [ob_X0_walk] at h
  refine os_aload_n (r := x1) hX dX0_walk_0 rfl rfl ?_
  obtain ⟨v1, e2, h⟩ := obn_e h
  refine ow_get (r := x1) hX dX0_walk_1 oF_RX0_99 (ovr_e e2) ?_
  refine os_ifnull (r := v1) (tgt := 21) hX dX0_walk_4 (by decide) (fun c3 => ?_) (fun c3 => ?_)
  · rw [if_pos c3] at h
    exact qj_X0_walk_21 hX hc h
  · rw [if_neg c3] at h
    refine os_aload_n (r := x1) hX dX0_walk_7 rfl rfl ?_
    refine os_aload_n (r := x2) hX dX0_walk_8 rfl rfl ?_
    obtain ⟨s4, e5, h⟩ := obn_e h
    refine ow_put (r := x1) (x := va_rf x2) hX dX0_walk_9 oF_RX0_95 (by decide) (orf_n (Or.inl ⟨_, oT_7_20⟩) x2) e5 ?_
    refine os_aload_n (r := x0) hX dX0_walk_12 rfl rfl ?_
    obtain ⟨v6, e7, h⟩ := obn_e h
    refine ow_get (r := x0) hX dX0_walk_13 oF_RX0_24 (ovr_e e7) ?_
    refine os_aload_n (r := x1) hX dX0_walk_16 rfl rfl ?_
    obtain ⟨a8, e9, h⟩ := obn_e h
    obtain ⟨r12, s10, e11, h⟩ := oin_e h
    refine oc_RX0_139 (rb := v6) (a1 := va_rf x1) hX dX0_walk_17 (Nat.le_of_ble_eq_true rfl) e9 (hc _ _ _ _ e11) ?_
    refine os_pop hX dX0_walk_20 rfl ?_
    exact qj_X0_walk_21 hX hc h
def oj_X0_walkCall_90 (n : Nat) (call : oCl) (κ : oKv) (k11 : Option Nat → Option Nat → Option Nat → Option Nat → Int32 → oSt → oRs) (x0 : Option Nat) (x1 : Option Nat) (x2 : Option Nat) (x4 : Int32) (t0 : Option Nat) (t1 : Option Nat) (σ : oSt) : oRs :=
  obn (oob σ t0 4) fun a1 =>
  orn (call 4 [va_rf t0, va_rf t1] σ) fun r5 s3 =>
  k11 x0 x1 x2 r5 (x4 + 1) s3
def ol_X0_walkCall_11 (n : Nat) (call : oCl) (κ : oKv) : Nat → Option Nat → Option Nat → Option Nat → Option Nat → Int32 → oSt → oRs
  | 0, _, _, _, _, _, _ => none
  | f + 1, x0, x1, x2, x3, x4, σ =>
    obn (ovr (ofd σ x1 7 18)) fun v1 =>
    obn (oob σ v1 1) fun a3 =>
    oin (call 236 [va_rf v1] σ) fun r7 s5 =>
    if r7 ≤ x4 then
      some (some (va_rf x3), s5)
    else
      obn (ovi (ofd s5 x3 4 0)) fun v9 =>
      if v9 = 206 then
        obn (ovr (ofd s5 x1 7 18)) fun v12 =>
        obn (oob s5 v12 1) fun a14 =>
        orn (call 234 [va_rf v12, .int x4] s5) fun r18 s16 =>
        ogd (ocs s16 r18 7) (
        obn (oob s16 x0 2) fun a20 =>
        orn (call 30 [va_rf x0, va_rf r18, va_rf x2] s16) fun r24 s22 =>
        obn (oob s22 x3 4) fun a25 =>
        orn (call 5 [va_rf x3] s22) fun r29 s27 =>
        obn (oob s27 x0 2) fun a30 =>
        ocv (call 12 [va_rf x0, va_rf r24, va_rf r29, va_rf x2] s27) fun s32 =>
        obn (ovr (ofd s32 x3 4 1)) fun v35 =>
        obn (ovr (ofd s32 v35 4 2)) fun v37 =>
        obn (oob s32 v37 6) fun a39 =>
        oin (call 6 [va_rf v37] s32) fun r43 s41 =>
        if r43 = 0 then
          oj_X0_walkCall_90 n call κ (ol_X0_walkCall_11 n call κ f) x0 x1 x2 x4 x3 none s41
        else
          obn (ovr (ofd s41 r18 7 19)) fun v45 =>
          oj_X0_walkCall_90 n call κ (ol_X0_walkCall_11 n call κ f) x0 x1 x2 x4 x3 v45 s41)
      else
        some (some (va_rf x3), s5)
def ob_X0_walkCall (n : Nat) (call : oCl) (κ : oKv) (x0 : Option Nat) (x1 : Option Nat) (x2 : Option Nat) (σ : oSt) : oRs :=
  obn (ovr (ofd σ x1 7 9)) fun v1 =>
  obn (ovr (ofd σ v1 6 4)) fun v3 =>
  ol_X0_walkCall_11 n call κ n x0 x1 x2 v3 0 σ
set_option maxHeartbeats 4000000 in
theorem qj_X0_walkCall_90 {κ : oKv} {n : Nat} {call : oCl} {kc : Nat → List Value → oSt → Option Value × oSt → Prop} {v : Option Value × oSt} {X : Nat → zLv → List Value → oSt → Prop} (hX : oSem RX0 cX0_walkCall 7 0 (some (.object "LiquidTongue$Known")) κ kc v X) (hc : ∀ j av s w, call j av s = some w → kc j av s w) {k11 : Option Nat → Option Nat → Option Nat → Option Nat → Int32 → oSt → oRs} (hk11 : ∀ (x0 : Option Nat) (x1 : Option Nat) (x2 : Option Nat) (x3 : Option Nat) (x4 : Int32) (s : oSt), k11 x0 x1 x2 x3 x4 s = some v → X 11 [some (va_rf x0), some (va_rf x1), some (va_rf x2), some (va_rf x3), some (.int x4), none, none] [] s) {x0 : Option Nat} {x1 : Option Nat} {x2 : Option Nat} {x4 : Int32} {t0 : Option Nat} {t1 : Option Nat} {σ : oSt} (h : oj_X0_walkCall_90 n call κ k11 x0 x1 x2 x4 t0 t1 σ = some v) : X 90 [some (va_rf x0), some (va_rf x1), some (va_rf x2), none, some (.int x4), none, none] [va_rf t1, va_rf t0] σ := by
  rw [oj_X0_walkCall_90] at h
  obtain ⟨a1, e2, h⟩ := obn_e h
  obtain ⟨r5, s3, e4, h⟩ := orn_e h
  refine oc_RX0_248 (rb := t0) (a1 := va_rf t1) hX dX0_walkCall_90 (Nat.le_of_ble_eq_true rfl) e2 (hc _ _ _ _ e4) ?_
  refine os_astore_n (r := r5) hX dX0_walkCall_93 rfl (by decide) (ozlo (i := 2) (r := x2) rfl) ?_
  dsimp only [List.set]
  refine os_iinc (v := x4 + 1) hX dX0_walkCall_94 rfl rfl (by decide) (ozlo (i := 3) (r := r5) rfl) ?_
  dsimp only [List.set]
  refine os_goto (tgt := 11) hX dX0_walkCall_97 (by decide) ?_
  exact hk11 _ _ _ _ _ _ h
set_option maxHeartbeats 4000000 in
theorem ql_X0_walkCall_11 {κ : oKv} {n : Nat} {call : oCl} {kc : Nat → List Value → oSt → Option Value × oSt → Prop} {v : Option Value × oSt} {X : Nat → zLv → List Value → oSt → Prop} (hX : oSem RX0 cX0_walkCall 7 0 (some (.object "LiquidTongue$Known")) κ kc v X) (hc : ∀ j av s w, call j av s = some w → kc j av s w) : ∀ (f : Nat) (x0 : Option Nat) (x1 : Option Nat) (x2 : Option Nat) (x3 : Option Nat) (x4 : Int32) (σ : oSt), ol_X0_walkCall_11 n call κ f x0 x1 x2 x3 x4 σ = some v → X 11 [some (va_rf x0), some (va_rf x1), some (va_rf x2), some (va_rf x3), some (.int x4), none, none] [] σ := by
  intro f
  induction f with
  | zero => intro x0 x1 x2 x3 x4 σ h; cases h
  | succ f hk11 =>
    intro x0 x1 x2 x3 x4 σ h
    rw [ol_X0_walkCall_11] at h
    refine os_iload hX dX0_walkCall_11 rfl ?_
    refine os_aload_n (r := x1) hX dX0_walkCall_13 rfl rfl ?_
    obtain ⟨v1, e2, h⟩ := obn_e h
    refine ow_get (r := x1) hX dX0_walkCall_14 oF_RX0_254 (ovr_e e2) ?_
    obtain ⟨a3, e4, h⟩ := obn_e h
    obtain ⟨r7, s5, e6, h⟩ := oin_e h
    refine oc_RX0_86 (rb := v1)  hX dX0_walkCall_17 (Nat.le_of_ble_eq_true rfl) e4 (hc _ _ _ _ e6) ?_
    refine os_icmp_ge (tgt := 100) hX dX0_walkCall_20 (by decide) (fun c8 => ?_) (fun c8 => ?_)
    · rw [if_pos c8] at h
      refine os_aload_n (r := x3) hX dX0_walkCall_100 rfl rfl ?_
      exact os_aret (r := x3) hX dX0_walkCall_101 rfl (Option.some.inj h)
    · rw [if_neg c8] at h
      refine os_aload_n (r := x3) hX dX0_walkCall_23 rfl rfl ?_
      obtain ⟨v9, e10, h⟩ := obn_e h
      refine ow_get (r := x3) hX dX0_walkCall_24 oF_RX0_257 (ovi_e e10) ?_
      refine os_sipush (v := 206) hX dX0_walkCall_27 (by decide) ?_
      refine os_icmp_ne (tgt := 100) hX dX0_walkCall_30 (by decide) (fun c11 => ?_) (fun c11 => ?_)
      · rw [if_neg c11] at h
        refine os_aload_n (r := x3) hX dX0_walkCall_100 rfl rfl ?_
        exact os_aret (r := x3) hX dX0_walkCall_101 rfl (Option.some.inj h)
      · rw [if_pos c11] at h
        refine os_aload_n (r := x1) hX dX0_walkCall_33 rfl rfl ?_
        obtain ⟨v12, e13, h⟩ := obn_e h
        refine ow_get (r := x1) hX dX0_walkCall_34 oF_RX0_254 (ovr_e e13) ?_
        refine os_iload hX dX0_walkCall_37 rfl ?_
        obtain ⟨a14, e15, h⟩ := obn_e h
        obtain ⟨r18, s16, e17, h⟩ := orn_e h
        refine oc_RX0_57 (rb := v12) (a1 := .int x4) hX dX0_walkCall_39 (Nat.le_of_ble_eq_true rfl) e15 (hc _ _ _ _ e17) ?_
        obtain ⟨b19, h⟩ := ogd_e h
        refine ow_cs (r := r18) hX dX0_walkCall_42 oK_RX0_90 b19 ?_
        refine os_astore (r := r18) hX dX0_walkCall_45 (by decide) rfl ?_
        dsimp only [List.set]
        refine os_aload_n (r := x0) hX dX0_walkCall_47 rfl rfl ?_
        refine os_aload_n (r := x0) hX dX0_walkCall_48 rfl rfl ?_
        refine os_aload (r := r18) hX dX0_walkCall_49 rfl ?_
        refine os_aload_n (r := x2) hX dX0_walkCall_51 rfl rfl ?_
        obtain ⟨a20, e21, h⟩ := obn_e h
        obtain ⟨r24, s22, e23, h⟩ := orn_e h
        refine oc_RX0_82 (rb := x0) (a1 := va_rf r18) (a2 := va_rf x2) hX dX0_walkCall_52 (by simp only [List.map_cons, List.map_nil, List.sum_cons, List.sum_nil, ocat]; exact Nat.le_of_ble_eq_true rfl) e21 (hc _ _ _ _ e23) ?_
        refine os_aload_n (r := x3) hX dX0_walkCall_55 rfl rfl ?_
        obtain ⟨a25, e26, h⟩ := obn_e h
        obtain ⟨r29, s27, e28, h⟩ := orn_e h
        refine oc_RX0_258 (rb := x3)  hX dX0_walkCall_56 (by simp only [List.map_cons, List.map_nil, List.sum_cons, List.sum_nil, ocat]; exact Nat.le_of_ble_eq_true rfl) e26 (hc _ _ _ _ e28) ?_
        refine os_aload_n (r := x2) hX dX0_walkCall_59 rfl rfl ?_
        obtain ⟨a30, e31, h⟩ := obn_e h
        obtain ⟨s32, e33, h⟩ := ocv_e h
        refine oc_RX0_236 (rb := x0) (a1 := va_rf r24) (a2 := va_rf r29) (a3 := va_rf x2) hX dX0_walkCall_60 (Nat.le_of_ble_eq_true rfl) e31 (hc _ _ _ _ e33) ?_
        refine os_aload_n (r := x3) hX dX0_walkCall_63 rfl rfl ?_
        obtain ⟨v35, e36, h⟩ := obn_e h
        refine ow_get (r := x3) hX dX0_walkCall_64 oF_RX0_109 (ovr_e e36) ?_
        obtain ⟨v37, e38, h⟩ := obn_e h
        refine ow_get (r := v35) hX dX0_walkCall_67 oF_RX0_262 (ovr_e e38) ?_
        obtain ⟨a39, e40, h⟩ := obn_e h
        obtain ⟨r43, s41, e42, h⟩ := oin_e h
        refine oc_RX0_208 (rb := v37)  hX dX0_walkCall_70 (Nat.le_of_ble_eq_true rfl) e40 (hc _ _ _ _ e42) ?_
        refine os_istore hX dX0_walkCall_73 (by decide) (ozlo (i := 5) (r := r18) rfl) ?_
        dsimp only [List.set]
        refine os_aload_n (r := x3) hX dX0_walkCall_75 rfl rfl ?_
        refine os_iload hX dX0_walkCall_76 rfl ?_
        refine os_if_eq (tgt := 89) hX dX0_walkCall_78 (by decide) (fun c44 => ?_) (fun c44 => ?_)
        · rw [if_pos c44] at h
          refine os_null hX dX0_walkCall_89 ?_
          refine os_weak hX (lw := [some (va_rf x0), some (va_rf x1), some (va_rf x2), none, some (.int x4), none, none]) ⟨rfl, rfl, rfl, rfl, trivial⟩ ?_
          exact qj_X0_walkCall_90 hX hc hk11 h
        · rw [if_neg c44] at h
          refine os_aload (r := r18) hX dX0_walkCall_81 rfl ?_
          obtain ⟨v45, e46, h⟩ := obn_e h
          refine ow_get (r := r18) hX dX0_walkCall_83 oF_RX0_187 (ovr_e e46) ?_
          refine os_goto (tgt := 90) hX dX0_walkCall_86 (by decide) ?_
          refine os_weak hX (lw := [some (va_rf x0), some (va_rf x1), some (va_rf x2), none, some (.int x4), none, none]) ⟨rfl, rfl, rfl, rfl, trivial⟩ ?_
          exact qj_X0_walkCall_90 hX hc hk11 h
set_option maxHeartbeats 4000000 in
theorem qb_X0_walkCall {κ : oKv} {n : Nat} {call : oCl} {kc : Nat → List Value → oSt → Option Value × oSt → Prop} {v : Option Value × oSt} {X : Nat → zLv → List Value → oSt → Prop} (hX : oSem RX0 cX0_walkCall 7 0 (some (.object "LiquidTongue$Known")) κ kc v X) (hc : ∀ j av s w, call j av s = some w → kc j av s w) {x0 : Option Nat} {x1 : Option Nat} {x2 : Option Nat} {σ : oSt} (h : ob_X0_walkCall n call κ x0 x1 x2 σ = some v) : X 0 [some (va_rf x0), some (va_rf x1), some (va_rf x2), none, none, none, none] [] σ := by
  rw [ob_X0_walkCall] at h
  refine os_aload_n (r := x1) hX dX0_walkCall_0 rfl rfl ?_
  obtain ⟨v1, e2, h⟩ := obn_e h
  refine ow_get (r := x1) hX dX0_walkCall_1 oF_RX0_191 (ovr_e e2) ?_
  obtain ⟨v3, e4, h⟩ := obn_e h
  refine ow_get (r := v1) hX dX0_walkCall_4 oF_RX0_69 (ovr_e e4) ?_
  refine os_astore_n (r := v3) hX dX0_walkCall_7 rfl (by decide) (ozlo (i := 2) (r := x2) rfl) ?_
  dsimp only [List.set]
  refine os_iconst (v := 0) hX dX0_walkCall_8 (by decide) ?_
  refine os_istore hX dX0_walkCall_9 (by decide) (ozlo (i := 3) (r := v3) rfl) ?_
  dsimp only [List.set]
  exact ql_X0_walkCall_11 hX hc n _ _ _ _ _ _ h
def ob_X0_walkFunction (n : Nat) (call : oCl) (κ : oKv) (x0 : Option Nat) (x1 : Option Nat) (x2 : Option Nat) (σ : oSt) : oRs :=
  obn (ovi (ofd σ x1 7 8)) fun v1 =>
  obn (ovr (ofd σ x1 7 11)) fun v3 =>
  obn (oob σ x0 2) fun a5 =>
  orn (call 28 [va_rf x0, .int v1, va_rf v3, va_rf x2] σ) fun r9 s7 =>
  obn (oob s7 x0 2) fun a10 =>
  ocv (call 29 [va_rf x0, va_rf x1, va_rf r9, va_rf x2] s7) fun s12 =>
  some (some (va_rf r9), s12)
set_option maxHeartbeats 4000000 in
theorem qb_X0_walkFunction {κ : oKv} {n : Nat} {call : oCl} {kc : Nat → List Value → oSt → Option Value × oSt → Prop} {v : Option Value × oSt} {X : Nat → zLv → List Value → oSt → Prop} (hX : oSem RX0 cX0_walkFunction 4 0 (some (.object "LiquidTongue$Known")) κ kc v X) (hc : ∀ j av s w, call j av s = some w → kc j av s w) {x0 : Option Nat} {x1 : Option Nat} {x2 : Option Nat} {σ : oSt} (h : ob_X0_walkFunction n call κ x0 x1 x2 σ = some v) : X 0 [some (va_rf x0), some (va_rf x1), some (va_rf x2), none] [] σ := by
  rw [ob_X0_walkFunction] at h
  refine os_aload_n (r := x0) hX dX0_walkFunction_0 rfl rfl ?_
  refine os_aload_n (r := x1) hX dX0_walkFunction_1 rfl rfl ?_
  obtain ⟨v1, e2, h⟩ := obn_e h
  refine ow_get (r := x1) hX dX0_walkFunction_2 oF_RX0_226 (ovi_e e2) ?_
  refine os_aload_n (r := x1) hX dX0_walkFunction_5 rfl rfl ?_
  obtain ⟨v3, e4, h⟩ := obn_e h
  refine ow_get (r := x1) hX dX0_walkFunction_6 oF_RX0_241 (ovr_e e4) ?_
  refine os_aload_n (r := x2) hX dX0_walkFunction_9 rfl rfl ?_
  obtain ⟨a5, e6, h⟩ := obn_e h
  obtain ⟨r9, s7, e8, h⟩ := orn_e h
  refine oc_RX0_229 (rb := x0) (a1 := .int v1) (a2 := va_rf v3) (a3 := va_rf x2) hX dX0_walkFunction_10 (Nat.le_of_ble_eq_true rfl) e6 (hc _ _ _ _ e8) ?_
  refine os_astore_n (r := r9) hX dX0_walkFunction_13 rfl (by decide) (ozlo (i := 2) (r := x2) rfl) ?_
  dsimp only [List.set]
  refine os_aload_n (r := x0) hX dX0_walkFunction_14 rfl rfl ?_
  refine os_aload_n (r := x1) hX dX0_walkFunction_15 rfl rfl ?_
  refine os_aload_n (r := r9) hX dX0_walkFunction_16 rfl rfl ?_
  refine os_aload_n (r := x2) hX dX0_walkFunction_17 rfl rfl ?_
  obtain ⟨a10, e11, h⟩ := obn_e h
  obtain ⟨s12, e13, h⟩ := ocv_e h
  refine oc_RX0_244 (rb := x0) (a1 := va_rf x1) (a2 := va_rf r9) (a3 := va_rf x2) hX dX0_walkFunction_18 (Nat.le_of_ble_eq_true rfl) e11 (hc _ _ _ _ e13) ?_
  refine os_aload_n (r := r9) hX dX0_walkFunction_21 rfl rfl ?_
  exact os_aret (r := r9) hX dX0_walkFunction_22 rfl (Option.some.inj h)
def ob_X0_walkIf (n : Nat) (call : oCl) (κ : oKv) (x0 : Option Nat) (x1 : Option Nat) (x2 : Option Nat) (σ : oSt) : oRs :=
  obn (ovi (ofd σ x1 7 8)) fun v1 =>
  obn (oob σ x0 2) fun a3 =>
  orn (call 28 [va_rf x0, .int v1, va_rf none, va_rf x2] σ) fun r7 s5 =>
  olet (onew s5 (.inr (10, odef 10)) (oq 10).2.2) fun s8 =>
  obn (ovr (ofd s8 x1 7 14)) fun v10 =>
  obn ((some s5.2.1)) fun a12 =>
  ocv (call 13 [va_rf (some s5.2.1), va_rf v10, .int 1, va_rf x2] s8) fun s14 =>
  obn (ovr (ofd s14 x1 7 12)) fun v17 =>
  obn (oob s14 x0 2) fun a19 =>
  orn (call 30 [va_rf x0, va_rf v17, va_rf (some s5.2.1)] s14) fun r23 s21 =>
  obn (oob s21 x0 2) fun a24 =>
  ocv (call 12 [va_rf x0, va_rf r23, va_rf r7, va_rf (some s5.2.1)] s21) fun s26 =>
  olet (onew s26 (.inr (10, odef 10)) (oq 10).2.2) fun s29 =>
  obn (ovr (ofd s29 x1 7 14)) fun v31 =>
  obn ((some s26.2.1)) fun a33 =>
  ocv (call 13 [va_rf (some s26.2.1), va_rf v31, .int 0, va_rf x2] s29) fun s35 =>
  obn (ovr (ofd s35 x1 7 13)) fun v38 =>
  obn (oob s35 x0 2) fun a40 =>
  orn (call 30 [va_rf x0, va_rf v38, va_rf (some s26.2.1)] s35) fun r44 s42 =>
  obn (oob s42 x0 2) fun a45 =>
  ocv (call 12 [va_rf x0, va_rf r44, va_rf r7, va_rf (some s26.2.1)] s42) fun s47 =>
  some (some (va_rf r7), s47)
set_option maxHeartbeats 4000000 in
theorem qb_X0_walkIf {κ : oKv} {n : Nat} {call : oCl} {kc : Nat → List Value → oSt → Option Value × oSt → Prop} {v : Option Value × oSt} {X : Nat → zLv → List Value → oSt → Prop} (hX : oSem RX0 cX0_walkIf 6 0 (some (.object "LiquidTongue$Known")) κ kc v X) (hc : ∀ j av s w, call j av s = some w → kc j av s w) {x0 : Option Nat} {x1 : Option Nat} {x2 : Option Nat} {σ : oSt} (h : ob_X0_walkIf n call κ x0 x1 x2 σ = some v) : X 0 [some (va_rf x0), some (va_rf x1), some (va_rf x2), none, none, none] [] σ := by
  rw [ob_X0_walkIf] at h
  refine os_aload_n (r := x0) hX dX0_walkIf_0 rfl rfl ?_
  refine os_aload_n (r := x1) hX dX0_walkIf_1 rfl rfl ?_
  obtain ⟨v1, e2, h⟩ := obn_e h
  refine ow_get (r := x1) hX dX0_walkIf_2 oF_RX0_226 (ovi_e e2) ?_
  refine os_null hX dX0_walkIf_5 ?_
  refine os_aload_n (r := x2) hX dX0_walkIf_6 rfl rfl ?_
  obtain ⟨a3, e4, h⟩ := obn_e h
  obtain ⟨r7, s5, e6, h⟩ := orn_e h
  refine oc_RX0_229 (rb := x0) (a1 := .int v1) (a2 := va_rf none) (a3 := va_rf x2) hX dX0_walkIf_7 (Nat.le_of_ble_eq_true rfl) e4 (hc _ _ _ _ e6) ?_
  refine os_astore_n (r := r7) hX dX0_walkIf_10 rfl (by decide) (ozlo (i := 2) (r := x2) rfl) ?_
  dsimp only [List.set]
  obtain ⟨s8, e9, h⟩ := olet_e h
  refine os_new hX dX0_walkIf_11 oN_RX0_73 ?_
  rw [← e9]
  refine os_dup hX dX0_walkIf_14 (ocat (some s5.2.1)) ?_
  refine os_aload_n (r := x1) hX dX0_walkIf_15 rfl rfl ?_
  obtain ⟨v10, e11, h⟩ := obn_e h
  refine ow_get (r := x1) hX dX0_walkIf_16 oF_RX0_167 (ovr_e e11) ?_
  refine os_iconst (v := 1) hX dX0_walkIf_19 (by decide) ?_
  refine os_aload_n (r := x2) hX dX0_walkIf_20 rfl rfl ?_
  obtain ⟨a12, e13, h⟩ := obn_e h
  obtain ⟨s14, e15, h⟩ := ocv_e h
  refine oc_RX0_170 (rb := (some s5.2.1)) (a1 := va_rf v10) (a2 := .int 1) (a3 := va_rf x2) hX dX0_walkIf_21 (by simp only [List.map_cons, List.map_nil, List.sum_cons, List.sum_nil, ocat]; exact Nat.le_of_ble_eq_true rfl) e13 (hc _ _ _ _ e15) ?_
  refine os_astore (r := (some s5.2.1)) hX dX0_walkIf_24 (by decide) (ozlo (i := 3) (r := r7) rfl) ?_
  dsimp only [List.set]
  refine os_aload_n (r := x0) hX dX0_walkIf_26 rfl rfl ?_
  refine os_aload_n (r := x0) hX dX0_walkIf_27 rfl rfl ?_
  refine os_aload_n (r := x1) hX dX0_walkIf_28 rfl rfl ?_
  obtain ⟨v17, e18, h⟩ := obn_e h
  refine ow_get (r := x1) hX dX0_walkIf_29 oF_RX0_164 (ovr_e e18) ?_
  refine os_aload (r := (some s5.2.1)) hX dX0_walkIf_32 rfl ?_
  obtain ⟨a19, e20, h⟩ := obn_e h
  obtain ⟨r23, s21, e22, h⟩ := orn_e h
  refine oc_RX0_82 (rb := x0) (a1 := va_rf v17) (a2 := va_rf (some s5.2.1)) hX dX0_walkIf_34 (by simp only [List.map_cons, List.map_nil, List.sum_cons, List.sum_nil, ocat]; exact Nat.le_of_ble_eq_true rfl) e20 (hc _ _ _ _ e22) ?_
  refine os_aload_n (r := r7) hX dX0_walkIf_37 rfl rfl ?_
  refine os_aload (r := (some s5.2.1)) hX dX0_walkIf_38 rfl ?_
  obtain ⟨a24, e25, h⟩ := obn_e h
  obtain ⟨s26, e27, h⟩ := ocv_e h
  refine oc_RX0_236 (rb := x0) (a1 := va_rf r23) (a2 := va_rf r7) (a3 := va_rf (some s5.2.1)) hX dX0_walkIf_40 (Nat.le_of_ble_eq_true rfl) e25 (hc _ _ _ _ e27) ?_
  obtain ⟨s29, e30, h⟩ := olet_e h
  refine os_new hX dX0_walkIf_43 oN_RX0_73 ?_
  rw [← e30]
  refine os_dup hX dX0_walkIf_46 (ocat (some s26.2.1)) ?_
  refine os_aload_n (r := x1) hX dX0_walkIf_47 rfl rfl ?_
  obtain ⟨v31, e32, h⟩ := obn_e h
  refine ow_get (r := x1) hX dX0_walkIf_48 oF_RX0_167 (ovr_e e32) ?_
  refine os_iconst (v := 0) hX dX0_walkIf_51 (by decide) ?_
  refine os_aload_n (r := x2) hX dX0_walkIf_52 rfl rfl ?_
  obtain ⟨a33, e34, h⟩ := obn_e h
  obtain ⟨s35, e36, h⟩ := ocv_e h
  refine oc_RX0_170 (rb := (some s26.2.1)) (a1 := va_rf v31) (a2 := .int 0) (a3 := va_rf x2) hX dX0_walkIf_53 (by simp only [List.map_cons, List.map_nil, List.sum_cons, List.sum_nil, ocat]; exact Nat.le_of_ble_eq_true rfl) e34 (hc _ _ _ _ e36) ?_
  refine os_astore (r := (some s26.2.1)) hX dX0_walkIf_56 (by decide) (ozlo (i := 4) (r := (some s5.2.1)) rfl) ?_
  dsimp only [List.set]
  refine os_aload_n (r := x0) hX dX0_walkIf_58 rfl rfl ?_
  refine os_aload_n (r := x0) hX dX0_walkIf_59 rfl rfl ?_
  refine os_aload_n (r := x1) hX dX0_walkIf_60 rfl rfl ?_
  obtain ⟨v38, e39, h⟩ := obn_e h
  refine ow_get (r := x1) hX dX0_walkIf_61 oF_RX0_233 (ovr_e e39) ?_
  refine os_aload (r := (some s26.2.1)) hX dX0_walkIf_64 rfl ?_
  obtain ⟨a40, e41, h⟩ := obn_e h
  obtain ⟨r44, s42, e43, h⟩ := orn_e h
  refine oc_RX0_82 (rb := x0) (a1 := va_rf v38) (a2 := va_rf (some s26.2.1)) hX dX0_walkIf_66 (by simp only [List.map_cons, List.map_nil, List.sum_cons, List.sum_nil, ocat]; exact Nat.le_of_ble_eq_true rfl) e41 (hc _ _ _ _ e43) ?_
  refine os_aload_n (r := r7) hX dX0_walkIf_69 rfl rfl ?_
  refine os_aload (r := (some s26.2.1)) hX dX0_walkIf_70 rfl ?_
  obtain ⟨a45, e46, h⟩ := obn_e h
  obtain ⟨s47, e48, h⟩ := ocv_e h
  refine oc_RX0_236 (rb := x0) (a1 := va_rf r44) (a2 := va_rf r7) (a3 := va_rf (some s26.2.1)) hX dX0_walkIf_72 (Nat.le_of_ble_eq_true rfl) e46 (hc _ _ _ _ e48) ?_
  refine os_aload_n (r := r7) hX dX0_walkIf_75 rfl rfl ?_
  exact os_aret (r := r7) hX dX0_walkIf_76 rfl (Option.some.inj h)
def ob_X0_walkLet (n : Nat) (call : oCl) (κ : oKv) (x0 : Option Nat) (x1 : Option Nat) (x2 : Option Nat) (σ : oSt) : oRs :=
  obn (ovr (ofd σ x1 7 10)) fun v1 =>
  obn (ovr (ofd σ x1 7 12)) fun v3 =>
  obn (oob σ x0 2) fun a5 =>
  orn (call 30 [va_rf x0, va_rf v3, va_rf x2] σ) fun r9 s7 =>
  obn (opf s7 v1 6 4 (va_rf r9)) fun s10 =>
  olet (onew s10 (.inr (10, odef 10)) (oq 10).2.2) fun s12 =>
  obn (ovr (ofd s12 x1 7 10)) fun v14 =>
  obn ((some s10.2.1)) fun a16 =>
  ocv (call 2 [va_rf (some s10.2.1), va_rf v14, va_rf x2] s12) fun s18 =>
  obn (ovi (ofd s18 x1 7 8)) fun v21 =>
  obn (oob s18 x0 2) fun a23 =>
  orn (call 28 [va_rf x0, .int v21, va_rf none, va_rf x2] s18) fun r27 s25 =>
  obn (ovr (ofd s25 x1 7 13)) fun v28 =>
  obn (oob s25 x0 2) fun a30 =>
  orn (call 30 [va_rf x0, va_rf v28, va_rf (some s10.2.1)] s25) fun r34 s32 =>
  obn (oob s32 x0 2) fun a35 =>
  ocv (call 12 [va_rf x0, va_rf r34, va_rf r27, va_rf (some s10.2.1)] s32) fun s37 =>
  some (some (va_rf r27), s37)
set_option maxHeartbeats 4000000 in
theorem qb_X0_walkLet {κ : oKv} {n : Nat} {call : oCl} {kc : Nat → List Value → oSt → Option Value × oSt → Prop} {v : Option Value × oSt} {X : Nat → zLv → List Value → oSt → Prop} (hX : oSem RX0 cX0_walkLet 5 0 (some (.object "LiquidTongue$Known")) κ kc v X) (hc : ∀ j av s w, call j av s = some w → kc j av s w) {x0 : Option Nat} {x1 : Option Nat} {x2 : Option Nat} {σ : oSt} (h : ob_X0_walkLet n call κ x0 x1 x2 σ = some v) : X 0 [some (va_rf x0), some (va_rf x1), some (va_rf x2), none, none] [] σ := by
  rw [ob_X0_walkLet] at h
  refine os_aload_n (r := x1) hX dX0_walkLet_0 rfl rfl ?_
  obtain ⟨v1, e2, h⟩ := obn_e h
  refine ow_get (r := x1) hX dX0_walkLet_1 oF_RX0_224 (ovr_e e2) ?_
  refine os_aload_n (r := x0) hX dX0_walkLet_4 rfl rfl ?_
  refine os_aload_n (r := x1) hX dX0_walkLet_5 rfl rfl ?_
  obtain ⟨v3, e4, h⟩ := obn_e h
  refine ow_get (r := x1) hX dX0_walkLet_6 oF_RX0_164 (ovr_e e4) ?_
  refine os_aload_n (r := x2) hX dX0_walkLet_9 rfl rfl ?_
  obtain ⟨a5, e6, h⟩ := obn_e h
  obtain ⟨r9, s7, e8, h⟩ := orn_e h
  refine oc_RX0_82 (rb := x0) (a1 := va_rf v3) (a2 := va_rf x2) hX dX0_walkLet_10 (by simp only [List.map_cons, List.map_nil, List.sum_cons, List.sum_nil, ocat]; exact Nat.le_of_ble_eq_true rfl) e6 (hc _ _ _ _ e8) ?_
  obtain ⟨s10, e11, h⟩ := obn_e h
  refine ow_put (r := v1) (x := va_rf r9) hX dX0_walkLet_13 oF_RX0_69 (by decide) (orf_n (Or.inl ⟨_, oT_6_4⟩) r9) e11 ?_
  obtain ⟨s12, e13, h⟩ := olet_e h
  refine os_new hX dX0_walkLet_16 oN_RX0_73 ?_
  rw [← e13]
  refine os_dup hX dX0_walkLet_19 (ocat (some s10.2.1)) ?_
  refine os_aload_n (r := x1) hX dX0_walkLet_20 rfl rfl ?_
  obtain ⟨v14, e15, h⟩ := obn_e h
  refine ow_get (r := x1) hX dX0_walkLet_21 oF_RX0_224 (ovr_e e15) ?_
  refine os_aload_n (r := x2) hX dX0_walkLet_24 rfl rfl ?_
  obtain ⟨a16, e17, h⟩ := obn_e h
  obtain ⟨s18, e19, h⟩ := ocv_e h
  refine oc_RX0_75 (rb := (some s10.2.1)) (a1 := va_rf v14) (a2 := va_rf x2) hX dX0_walkLet_25 (by simp only [List.map_cons, List.map_nil, List.sum_cons, List.sum_nil, ocat]; exact Nat.le_of_ble_eq_true rfl) e17 (hc _ _ _ _ e19) ?_
  refine os_astore_n (r := (some s10.2.1)) hX dX0_walkLet_28 rfl (by decide) (ozlo (i := 2) (r := x2) rfl) ?_
  dsimp only [List.set]
  refine os_aload_n (r := x0) hX dX0_walkLet_29 rfl rfl ?_
  refine os_aload_n (r := x1) hX dX0_walkLet_30 rfl rfl ?_
  obtain ⟨v21, e22, h⟩ := obn_e h
  refine ow_get (r := x1) hX dX0_walkLet_31 oF_RX0_226 (ovi_e e22) ?_
  refine os_null hX dX0_walkLet_34 ?_
  refine os_aload_n (r := x2) hX dX0_walkLet_35 rfl rfl ?_
  obtain ⟨a23, e24, h⟩ := obn_e h
  obtain ⟨r27, s25, e26, h⟩ := orn_e h
  refine oc_RX0_229 (rb := x0) (a1 := .int v21) (a2 := va_rf none) (a3 := va_rf x2) hX dX0_walkLet_36 (Nat.le_of_ble_eq_true rfl) e24 (hc _ _ _ _ e26) ?_
  refine os_astore (r := r27) hX dX0_walkLet_39 (by decide) (ozlo (i := 3) (r := (some s10.2.1)) rfl) ?_
  dsimp only [List.set]
  refine os_aload_n (r := x0) hX dX0_walkLet_41 rfl rfl ?_
  refine os_aload_n (r := x0) hX dX0_walkLet_42 rfl rfl ?_
  refine os_aload_n (r := x1) hX dX0_walkLet_43 rfl rfl ?_
  obtain ⟨v28, e29, h⟩ := obn_e h
  refine ow_get (r := x1) hX dX0_walkLet_44 oF_RX0_233 (ovr_e e29) ?_
  refine os_aload_n (r := (some s10.2.1)) hX dX0_walkLet_47 rfl rfl ?_
  obtain ⟨a30, e31, h⟩ := obn_e h
  obtain ⟨r34, s32, e33, h⟩ := orn_e h
  refine oc_RX0_82 (rb := x0) (a1 := va_rf v28) (a2 := va_rf (some s10.2.1)) hX dX0_walkLet_48 (by simp only [List.map_cons, List.map_nil, List.sum_cons, List.sum_nil, ocat]; exact Nat.le_of_ble_eq_true rfl) e31 (hc _ _ _ _ e33) ?_
  refine os_aload (r := r27) hX dX0_walkLet_51 rfl ?_
  refine os_aload_n (r := (some s10.2.1)) hX dX0_walkLet_53 rfl rfl ?_
  obtain ⟨a35, e36, h⟩ := obn_e h
  obtain ⟨s37, e38, h⟩ := ocv_e h
  refine oc_RX0_236 (rb := x0) (a1 := va_rf r34) (a2 := va_rf r27) (a3 := va_rf (some s10.2.1)) hX dX0_walkLet_54 (Nat.le_of_ble_eq_true rfl) e36 (hc _ _ _ _ e38) ?_
  refine os_aload (r := r27) hX dX0_walkLet_57 rfl ?_
  exact os_aret (r := r27) hX dX0_walkLet_59 rfl (Option.some.inj h)
def ob_X0_walkMatch (n : Nat) (call : oCl) (κ : oKv) (x0 : Option Nat) (x1 : Option Nat) (x2 : Option Nat) (σ : oSt) : oRs :=
  obn (ovi (ofd σ x1 7 8)) fun v1 =>
  obn (oob σ x0 2) fun a3 =>
  orn (call 28 [va_rf x0, .int v1, va_rf none, va_rf x2] σ) fun r7 s5 =>
  olet (onew s5 (.inr (10, odef 10)) (oq 10).2.2) fun s8 =>
  obn (ovr (ofd s8 x1 7 14)) fun v10 =>
  obn ((some s5.2.1)) fun a12 =>
  ocv (call 13 [va_rf (some s5.2.1), va_rf v10, .int 1, va_rf x2] s8) fun s14 =>
  obn (ovr (ofd s14 x1 7 12)) fun v17 =>
  obn (oob s14 x0 2) fun a19 =>
  orn (call 30 [va_rf x0, va_rf v17, va_rf (some s5.2.1)] s14) fun r23 s21 =>
  obn (oob s21 x0 2) fun a24 =>
  ocv (call 12 [va_rf x0, va_rf r23, va_rf r7, va_rf (some s5.2.1)] s21) fun s26 =>
  olet (onew s26 (.inr (10, odef 10)) (oq 10).2.2) fun s29 =>
  obn (ovr (ofd s29 x1 7 14)) fun v31 =>
  obn ((some s26.2.1)) fun a33 =>
  ocv (call 13 [va_rf (some s26.2.1), va_rf v31, .int 0, va_rf x2] s29) fun s35 =>
  obn (ovr (ofd s35 x1 7 11)) fun v38 =>
  obn (oob s35 v38 1) fun a40 =>
  orn (call 234 [va_rf v38, .int 0] s35) fun r44 s42 =>
  ogd (ocs s42 r44 6) (
  olet (onew s42 (.inr (4, odef 4)) (oq 4).2.2) fun s46 =>
  obn ((some s42.2.1)) fun a48 =>
  ocv (call 1 [va_rf (some s42.2.1), .int 210] s46) fun s50 =>
  obn (opf s50 r44 6 4 (va_rf (some s42.2.1))) fun s53 =>
  olet (onew s53 (.inr (10, odef 10)) (oq 10).2.2) fun s55 =>
  obn (ovr (ofd s55 x1 7 11)) fun v57 =>
  obn (oob s55 v57 1) fun a59 =>
  orn (call 234 [va_rf v57, .int 0] s55) fun r63 s61 =>
  ogd (ocs s61 r63 6) (
  obn ((some s53.2.1)) fun a65 =>
  ocv (call 2 [va_rf (some s53.2.1), va_rf r63, va_rf (some s26.2.1)] s61) fun s67 =>
  obn (ovr (ofd s67 x1 7 11)) fun v70 =>
  obn (oob s67 v70 1) fun a72 =>
  orn (call 234 [va_rf v70, .int 1] s67) fun r76 s74 =>
  ogd (ocs s74 r76 6) (
  obn (ovr (ofd s74 x1 7 9)) fun v78 =>
  orn (call 11 [va_rf v78, .int 1, .long (-1)] s74) fun r82 s80 =>
  orn (call 17 [.int 213, va_rf r82] s80) fun r85 s83 =>
  obn (opf s83 r76 6 4 (va_rf r85)) fun s86 =>
  olet (onew s86 (.inr (10, odef 10)) (oq 10).2.2) fun s88 =>
  obn (ovr (ofd s88 x1 7 11)) fun v90 =>
  obn (oob s88 v90 1) fun a92 =>
  orn (call 234 [va_rf v90, .int 1] s88) fun r96 s94 =>
  ogd (ocs s94 r96 6) (
  obn ((some s86.2.1)) fun a98 =>
  ocv (call 2 [va_rf (some s86.2.1), va_rf r96, va_rf (some s53.2.1)] s94) fun s100 =>
  obn (ovr (ofd s100 x1 7 13)) fun v103 =>
  obn (oob s100 x0 2) fun a105 =>
  orn (call 30 [va_rf x0, va_rf v103, va_rf (some s86.2.1)] s100) fun r109 s107 =>
  obn (oob s107 x0 2) fun a110 =>
  ocv (call 12 [va_rf x0, va_rf r109, va_rf r7, va_rf (some s86.2.1)] s107) fun s112 =>
  some (some (va_rf r7), s112)))))
set_option maxHeartbeats 4000000 in
theorem qb_X0_walkMatch {κ : oKv} {n : Nat} {call : oCl} {kc : Nat → List Value → oSt → Option Value × oSt → Prop} {v : Option Value × oSt} {X : Nat → zLv → List Value → oSt → Prop} (hX : oSem RX0 cX0_walkMatch 6 0 (some (.object "LiquidTongue$Known")) κ kc v X) (hc : ∀ j av s w, call j av s = some w → kc j av s w) {x0 : Option Nat} {x1 : Option Nat} {x2 : Option Nat} {σ : oSt} (h : ob_X0_walkMatch n call κ x0 x1 x2 σ = some v) : X 0 [some (va_rf x0), some (va_rf x1), some (va_rf x2), none, none, none] [] σ := by
  rw [ob_X0_walkMatch] at h
  refine os_aload_n (r := x0) hX dX0_walkMatch_0 rfl rfl ?_
  refine os_aload_n (r := x1) hX dX0_walkMatch_1 rfl rfl ?_
  obtain ⟨v1, e2, h⟩ := obn_e h
  refine ow_get (r := x1) hX dX0_walkMatch_2 oF_RX0_226 (ovi_e e2) ?_
  refine os_null hX dX0_walkMatch_5 ?_
  refine os_aload_n (r := x2) hX dX0_walkMatch_6 rfl rfl ?_
  obtain ⟨a3, e4, h⟩ := obn_e h
  obtain ⟨r7, s5, e6, h⟩ := orn_e h
  refine oc_RX0_229 (rb := x0) (a1 := .int v1) (a2 := va_rf none) (a3 := va_rf x2) hX dX0_walkMatch_7 (Nat.le_of_ble_eq_true rfl) e4 (hc _ _ _ _ e6) ?_
  refine os_astore_n (r := r7) hX dX0_walkMatch_10 rfl (by decide) (ozlo (i := 2) (r := x2) rfl) ?_
  dsimp only [List.set]
  obtain ⟨s8, e9, h⟩ := olet_e h
  refine os_new hX dX0_walkMatch_11 oN_RX0_73 ?_
  rw [← e9]
  refine os_dup hX dX0_walkMatch_14 (ocat (some s5.2.1)) ?_
  refine os_aload_n (r := x1) hX dX0_walkMatch_15 rfl rfl ?_
  obtain ⟨v10, e11, h⟩ := obn_e h
  refine ow_get (r := x1) hX dX0_walkMatch_16 oF_RX0_167 (ovr_e e11) ?_
  refine os_iconst (v := 1) hX dX0_walkMatch_19 (by decide) ?_
  refine os_aload_n (r := x2) hX dX0_walkMatch_20 rfl rfl ?_
  obtain ⟨a12, e13, h⟩ := obn_e h
  obtain ⟨s14, e15, h⟩ := ocv_e h
  refine oc_RX0_170 (rb := (some s5.2.1)) (a1 := va_rf v10) (a2 := .int 1) (a3 := va_rf x2) hX dX0_walkMatch_21 (by simp only [List.map_cons, List.map_nil, List.sum_cons, List.sum_nil, ocat]; exact Nat.le_of_ble_eq_true rfl) e13 (hc _ _ _ _ e15) ?_
  refine os_astore (r := (some s5.2.1)) hX dX0_walkMatch_24 (by decide) (ozlo (i := 3) (r := r7) rfl) ?_
  dsimp only [List.set]
  refine os_aload_n (r := x0) hX dX0_walkMatch_26 rfl rfl ?_
  refine os_aload_n (r := x0) hX dX0_walkMatch_27 rfl rfl ?_
  refine os_aload_n (r := x1) hX dX0_walkMatch_28 rfl rfl ?_
  obtain ⟨v17, e18, h⟩ := obn_e h
  refine ow_get (r := x1) hX dX0_walkMatch_29 oF_RX0_164 (ovr_e e18) ?_
  refine os_aload (r := (some s5.2.1)) hX dX0_walkMatch_32 rfl ?_
  obtain ⟨a19, e20, h⟩ := obn_e h
  obtain ⟨r23, s21, e22, h⟩ := orn_e h
  refine oc_RX0_82 (rb := x0) (a1 := va_rf v17) (a2 := va_rf (some s5.2.1)) hX dX0_walkMatch_34 (by simp only [List.map_cons, List.map_nil, List.sum_cons, List.sum_nil, ocat]; exact Nat.le_of_ble_eq_true rfl) e20 (hc _ _ _ _ e22) ?_
  refine os_aload_n (r := r7) hX dX0_walkMatch_37 rfl rfl ?_
  refine os_aload (r := (some s5.2.1)) hX dX0_walkMatch_38 rfl ?_
  obtain ⟨a24, e25, h⟩ := obn_e h
  obtain ⟨s26, e27, h⟩ := ocv_e h
  refine oc_RX0_236 (rb := x0) (a1 := va_rf r23) (a2 := va_rf r7) (a3 := va_rf (some s5.2.1)) hX dX0_walkMatch_40 (Nat.le_of_ble_eq_true rfl) e25 (hc _ _ _ _ e27) ?_
  obtain ⟨s29, e30, h⟩ := olet_e h
  refine os_new hX dX0_walkMatch_43 oN_RX0_73 ?_
  rw [← e30]
  refine os_dup hX dX0_walkMatch_46 (ocat (some s26.2.1)) ?_
  refine os_aload_n (r := x1) hX dX0_walkMatch_47 rfl rfl ?_
  obtain ⟨v31, e32, h⟩ := obn_e h
  refine ow_get (r := x1) hX dX0_walkMatch_48 oF_RX0_167 (ovr_e e32) ?_
  refine os_iconst (v := 0) hX dX0_walkMatch_51 (by decide) ?_
  refine os_aload_n (r := x2) hX dX0_walkMatch_52 rfl rfl ?_
  obtain ⟨a33, e34, h⟩ := obn_e h
  obtain ⟨s35, e36, h⟩ := ocv_e h
  refine oc_RX0_170 (rb := (some s26.2.1)) (a1 := va_rf v31) (a2 := .int 0) (a3 := va_rf x2) hX dX0_walkMatch_53 (by simp only [List.map_cons, List.map_nil, List.sum_cons, List.sum_nil, ocat]; exact Nat.le_of_ble_eq_true rfl) e34 (hc _ _ _ _ e36) ?_
  refine os_astore (r := (some s26.2.1)) hX dX0_walkMatch_56 (by decide) (ozlo (i := 4) (r := (some s5.2.1)) rfl) ?_
  dsimp only [List.set]
  refine os_aload_n (r := x1) hX dX0_walkMatch_58 rfl rfl ?_
  obtain ⟨v38, e39, h⟩ := obn_e h
  refine ow_get (r := x1) hX dX0_walkMatch_59 oF_RX0_241 (ovr_e e39) ?_
  refine os_iconst (v := 0) hX dX0_walkMatch_62 (by decide) ?_
  obtain ⟨a40, e41, h⟩ := obn_e h
  obtain ⟨r44, s42, e43, h⟩ := orn_e h
  refine oc_RX0_57 (rb := v38) (a1 := .int 0) hX dX0_walkMatch_63 (Nat.le_of_ble_eq_true rfl) e41 (hc _ _ _ _ e43) ?_
  obtain ⟨b45, h⟩ := ogd_e h
  refine ow_cs (r := r44) hX dX0_walkMatch_66 oK_RX0_27 b45 ?_
  obtain ⟨s46, e47, h⟩ := olet_e h
  refine os_new hX dX0_walkMatch_69 oN_RX0_61 ?_
  rw [← e47]
  refine os_dup hX dX0_walkMatch_72 (ocat (some s42.2.1)) ?_
  refine os_sipush (v := 210) hX dX0_walkMatch_73 (by decide) ?_
  obtain ⟨a48, e49, h⟩ := obn_e h
  obtain ⟨s50, e51, h⟩ := ocv_e h
  refine oc_RX0_66 (rb := (some s42.2.1)) (a1 := .int 210) hX dX0_walkMatch_76 (by simp only [List.map_cons, List.map_nil, List.sum_cons, List.sum_nil, ocat]; exact Nat.le_of_ble_eq_true rfl) e49 (hc _ _ _ _ e51) ?_
  obtain ⟨s53, e54, h⟩ := obn_e h
  refine ow_put (r := r44) (x := va_rf (some s42.2.1)) hX dX0_walkMatch_79 oF_RX0_69 (by decide) (orf_n (Or.inl ⟨_, oT_6_4⟩) (some s42.2.1)) e54 ?_
  obtain ⟨s55, e56, h⟩ := olet_e h
  refine os_new hX dX0_walkMatch_82 oN_RX0_73 ?_
  rw [← e56]
  refine os_dup hX dX0_walkMatch_85 (ocat (some s53.2.1)) ?_
  refine os_aload_n (r := x1) hX dX0_walkMatch_86 rfl rfl ?_
  obtain ⟨v57, e58, h⟩ := obn_e h
  refine ow_get (r := x1) hX dX0_walkMatch_87 oF_RX0_241 (ovr_e e58) ?_
  refine os_iconst (v := 0) hX dX0_walkMatch_90 (by decide) ?_
  obtain ⟨a59, e60, h⟩ := obn_e h
  obtain ⟨r63, s61, e62, h⟩ := orn_e h
  refine oc_RX0_57 (rb := v57) (a1 := .int 0) hX dX0_walkMatch_91 (by simp only [List.map_cons, List.map_nil, List.sum_cons, List.sum_nil, ocat]; exact Nat.le_of_ble_eq_true rfl) e60 (hc _ _ _ _ e62) ?_
  obtain ⟨b64, h⟩ := ogd_e h
  refine ow_cs (r := r63) hX dX0_walkMatch_94 oK_RX0_27 b64 ?_
  refine os_aload (r := (some s26.2.1)) hX dX0_walkMatch_97 rfl ?_
  obtain ⟨a65, e66, h⟩ := obn_e h
  obtain ⟨s67, e68, h⟩ := ocv_e h
  refine oc_RX0_75 (rb := (some s53.2.1)) (a1 := va_rf r63) (a2 := va_rf (some s26.2.1)) hX dX0_walkMatch_99 (by simp only [List.map_cons, List.map_nil, List.sum_cons, List.sum_nil, ocat]; exact Nat.le_of_ble_eq_true rfl) e66 (hc _ _ _ _ e68) ?_
  refine os_astore (r := (some s53.2.1)) hX dX0_walkMatch_102 (by decide) (ozlo (i := 4) (r := (some s5.2.1)) rfl) ?_
  dsimp only [List.set]
  refine os_aload_n (r := x1) hX dX0_walkMatch_104 rfl rfl ?_
  obtain ⟨v70, e71, h⟩ := obn_e h
  refine ow_get (r := x1) hX dX0_walkMatch_105 oF_RX0_241 (ovr_e e71) ?_
  refine os_iconst (v := 1) hX dX0_walkMatch_108 (by decide) ?_
  obtain ⟨a72, e73, h⟩ := obn_e h
  obtain ⟨r76, s74, e75, h⟩ := orn_e h
  refine oc_RX0_57 (rb := v70) (a1 := .int 1) hX dX0_walkMatch_109 (Nat.le_of_ble_eq_true rfl) e73 (hc _ _ _ _ e75) ?_
  obtain ⟨b77, h⟩ := ogd_e h
  refine ow_cs (r := r76) hX dX0_walkMatch_112 oK_RX0_27 b77 ?_
  refine os_sipush (v := 213) hX dX0_walkMatch_115 (by decide) ?_
  refine os_aload_n (r := x1) hX dX0_walkMatch_118 rfl rfl ?_
  obtain ⟨v78, e79, h⟩ := obn_e h
  refine ow_get (r := x1) hX dX0_walkMatch_119 oF_RX0_191 (ovr_e e79) ?_
  refine os_iconst (v := 1) hX dX0_walkMatch_122 (by decide) ?_
  refine os_ldc2 (x := (-1)) hX dX0_walkMatch_123 oCL_RX0_252 ?_
  obtain ⟨r82, s80, e81, h⟩ := orn_e h
  refine oc_RX0_192 (a1 := va_rf v78) (a2 := .int 1) (a3 := .long (-1)) hX dX0_walkMatch_126 (by simp only [List.map_cons, List.map_nil, List.sum_cons, List.sum_nil, ocat]; exact Nat.le_of_ble_eq_true rfl) (hc _ _ _ _ e81) ?_
  obtain ⟨r85, s83, e84, h⟩ := orn_e h
  refine oc_RX0_180 (a1 := .int 213) (a2 := va_rf r82) hX dX0_walkMatch_129 (by simp only [List.map_cons, List.map_nil, List.sum_cons, List.sum_nil, ocat]; exact Nat.le_of_ble_eq_true rfl) (hc _ _ _ _ e84) ?_
  obtain ⟨s86, e87, h⟩ := obn_e h
  refine ow_put (r := r76) (x := va_rf r85) hX dX0_walkMatch_132 oF_RX0_69 (by decide) (orf_n (Or.inl ⟨_, oT_6_4⟩) r85) e87 ?_
  obtain ⟨s88, e89, h⟩ := olet_e h
  refine os_new hX dX0_walkMatch_135 oN_RX0_73 ?_
  rw [← e89]
  refine os_dup hX dX0_walkMatch_138 (ocat (some s86.2.1)) ?_
  refine os_aload_n (r := x1) hX dX0_walkMatch_139 rfl rfl ?_
  obtain ⟨v90, e91, h⟩ := obn_e h
  refine ow_get (r := x1) hX dX0_walkMatch_140 oF_RX0_241 (ovr_e e91) ?_
  refine os_iconst (v := 1) hX dX0_walkMatch_143 (by decide) ?_
  obtain ⟨a92, e93, h⟩ := obn_e h
  obtain ⟨r96, s94, e95, h⟩ := orn_e h
  refine oc_RX0_57 (rb := v90) (a1 := .int 1) hX dX0_walkMatch_144 (by simp only [List.map_cons, List.map_nil, List.sum_cons, List.sum_nil, ocat]; exact Nat.le_of_ble_eq_true rfl) e93 (hc _ _ _ _ e95) ?_
  obtain ⟨b97, h⟩ := ogd_e h
  refine ow_cs (r := r96) hX dX0_walkMatch_147 oK_RX0_27 b97 ?_
  refine os_aload (r := (some s53.2.1)) hX dX0_walkMatch_150 rfl ?_
  obtain ⟨a98, e99, h⟩ := obn_e h
  obtain ⟨s100, e101, h⟩ := ocv_e h
  refine oc_RX0_75 (rb := (some s86.2.1)) (a1 := va_rf r96) (a2 := va_rf (some s53.2.1)) hX dX0_walkMatch_152 (by simp only [List.map_cons, List.map_nil, List.sum_cons, List.sum_nil, ocat]; exact Nat.le_of_ble_eq_true rfl) e99 (hc _ _ _ _ e101) ?_
  refine os_astore (r := (some s86.2.1)) hX dX0_walkMatch_155 (by decide) (ozlo (i := 4) (r := (some s5.2.1)) rfl) ?_
  dsimp only [List.set]
  refine os_aload_n (r := x0) hX dX0_walkMatch_157 rfl rfl ?_
  refine os_aload_n (r := x0) hX dX0_walkMatch_158 rfl rfl ?_
  refine os_aload_n (r := x1) hX dX0_walkMatch_159 rfl rfl ?_
  obtain ⟨v103, e104, h⟩ := obn_e h
  refine ow_get (r := x1) hX dX0_walkMatch_160 oF_RX0_233 (ovr_e e104) ?_
  refine os_aload (r := (some s86.2.1)) hX dX0_walkMatch_163 rfl ?_
  obtain ⟨a105, e106, h⟩ := obn_e h
  obtain ⟨r109, s107, e108, h⟩ := orn_e h
  refine oc_RX0_82 (rb := x0) (a1 := va_rf v103) (a2 := va_rf (some s86.2.1)) hX dX0_walkMatch_165 (by simp only [List.map_cons, List.map_nil, List.sum_cons, List.sum_nil, ocat]; exact Nat.le_of_ble_eq_true rfl) e106 (hc _ _ _ _ e108) ?_
  refine os_aload_n (r := r7) hX dX0_walkMatch_168 rfl rfl ?_
  refine os_aload (r := (some s86.2.1)) hX dX0_walkMatch_169 rfl ?_
  obtain ⟨a110, e111, h⟩ := obn_e h
  obtain ⟨s112, e113, h⟩ := ocv_e h
  refine oc_RX0_236 (rb := x0) (a1 := va_rf r109) (a2 := va_rf r7) (a3 := va_rf (some s86.2.1)) hX dX0_walkMatch_171 (Nat.le_of_ble_eq_true rfl) e111 (hc _ _ _ _ e113) ?_
  refine os_aload_n (r := r7) hX dX0_walkMatch_174 rfl rfl ?_
  exact os_aret (r := r7) hX dX0_walkMatch_175 rfl (Option.some.inj h)
