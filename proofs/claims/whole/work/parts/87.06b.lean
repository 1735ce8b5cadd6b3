/-! the methods of the class as plain functions (93 to 110) -/
def oj_X3_call_79 (n : Nat) (call : oCl) (κ : oKv) (x0 : Option Nat) (x1 : Option Nat) (x2 : Int32) (σ : oSt) : oRs :=
  obn (ovi (ofd σ x0 5 12)) fun v1 =>
  if v1 = 0 then
    obn (ovr (ofd σ x1 7 9)) fun v4 =>
    obn (ovi (ofd σ x1 7 2)) fun v6 =>
    obn (oob σ x0 5) fun a8 =>
    oln' (call 83 [va_rf x0, va_rf v4, .int v6] σ) fun r12 s10 =>
    obn (oob s10 x0 5) fun a13 =>
    orn (call 92 [va_rf x0, .int r12.toInt32, .int x2] s10) fun r17 s15 =>
    some (some (va_rf r17), s15)
  else
    some (some (va_rf none), σ)
def oj_X3_call_70 (n : Nat) (call : oCl) (κ : oKv) (k7 : Option Nat → Option Nat → Int32 → Int32 → Int32 → oSt → oRs) (x0 : Option Nat) (x1 : Option Nat) (x2 : Int32) (x4 : Int32) (x5 : Int32) (σ : oSt) : oRs :=
  k7 x0 x1 x2 x5 (x4 + 1) σ
def ol_X3_call_7 (n : Nat) (call : oCl) (κ : oKv) : Nat → Option Nat → Option Nat → Int32 → Int32 → Int32 → oSt → oRs
  | 0, _, _, _, _, _, _ => none
  | f + 1, x0, x1, x2, x3, x4, σ =>
    obn (ovr (ofd σ x1 7 18)) fun v1 =>
    obn (oob σ v1 1) fun a3 =>
    oin (call 236 [va_rf v1] σ) fun r7 s5 =>
    if r7 ≤ x4 then
      oj_X3_call_79 n call κ x0 x1 x2 s5
    else
      obn (ovi (ofd s5 x0 5 12)) fun v9 =>
      if v9 = 0 then
        obn (ovr (ofd s5 x1 7 18)) fun v12 =>
        obn (oob s5 v12 1) fun a14 =>
        orn (call 234 [va_rf v12, .int x4] s5) fun r18 s16 =>
        ogd (ocs s16 r18 7) (
        obn (oob s16 x0 5) fun a20 =>
        oln' (call 91 [va_rf x0, va_rf r18] s16) fun r24 s22 =>
        obn (oob s22 x0 5) fun a25 =>
        oin (call 79 [va_rf x0, .long r24, .int 0] s22) fun r29 s27 =>
        if x3 = 0 then
          oj_X3_call_70 n call κ (ol_X3_call_7 n call κ f) x0 x1 r29 x4 r29 s27
        else
          obn (ovr (ofd s27 x0 5 4)) fun v31 =>
          obn (osj s27 v31 (x3 + 1) r29.toInt64) fun s33 =>
          oj_X3_call_70 n call κ (ol_X3_call_7 n call κ f) x0 x1 x2 x4 r29 s33)
      else
        oj_X3_call_79 n call κ x0 x1 x2 s5
def ob_X3_call (n : Nat) (call : oCl) (κ : oKv) (x0 : Option Nat) (x1 : Option Nat) (σ : oSt) : oRs :=
  ol_X3_call_7 n call κ n x0 x1 0 0 0 σ
set_option maxHeartbeats 4000000 in
theorem qj_X3_call_79 {κ : oKv} {n : Nat} {call : oCl} {kc : Nat → List Value → oSt → Option Value × oSt → Prop} {v : Option Value × oSt} {X : Nat → zLv → List Value → oSt → Prop} (hX : oSem RX3 cX3_call 6 0 (some (.object "LiquidTongue$Node")) κ kc v X) (hc : ∀ j av s w, call j av s = some w → kc j av s w) {x0 : Option Nat} {x1 : Option Nat} {x2 : Int32} {σ : oSt} (h : oj_X3_call_79 n call κ x0 x1 x2 σ = some v) : X 79 [some (va_rf x0), some (va_rf x1), some (.int x2), none, none, none] [] σ := by
  rw [oj_X3_call_79] at h
  refine os_aload_n (r := x0) hX dX3_call_79 rfl rfl ?_
  obtain ⟨v1, e2, h⟩ := obn_e h
  refine ow_get (r := x0) hX dX3_call_80 oF_RX3_60 (ovi_e e2) ?_
  refine os_if_ne (tgt := 107) hX dX3_call_83 (by decide) (fun c3 => ?_) (fun c3 => ?_)
  · rw [if_neg c3] at h
    refine os_null hX dX3_call_107 ?_
    exact os_aret (r := none) hX dX3_call_108 rfl (Option.some.inj h)
  · rw [if_pos c3] at h
    refine os_aload_n (r := x0) hX dX3_call_86 rfl rfl ?_
    refine os_aload_n (r := x0) hX dX3_call_87 rfl rfl ?_
    refine os_aload_n (r := x1) hX dX3_call_88 rfl rfl ?_
    obtain ⟨v4, e5, h⟩ := obn_e h
    refine ow_get (r := x1) hX dX3_call_89 oF_RX3_198 (ovr_e e5) ?_
    refine os_aload_n (r := x1) hX dX3_call_92 rfl rfl ?_
    obtain ⟨v6, e7, h⟩ := obn_e h
    refine ow_get (r := x1) hX dX3_call_93 oF_RX3_202 (ovi_e e7) ?_
    obtain ⟨a8, e9, h⟩ := obn_e h
    obtain ⟨r12, s10, e11, h⟩ := oln'_e h
    refine oc_RX3_205 (rb := x0) (a1 := va_rf v4) (a2 := .int v6) hX dX3_call_96 (by simp only [List.map_cons, List.map_nil, List.sum_cons, List.sum_nil, ocat]; exact Nat.le_of_ble_eq_true rfl) e9 (hc _ _ _ _ e11) ?_
    refine os_l2i hX dX3_call_99 ?_
    refine os_iload_n hX dX3_call_100 rfl rfl ?_
    obtain ⟨a13, e14, h⟩ := obn_e h
    obtain ⟨r17, s15, e16, h⟩ := orn_e h
    refine oc_RX3_184 (rb := x0) (a1 := .int r12.toInt32) (a2 := .int x2) hX dX3_call_101 (Nat.le_of_ble_eq_true rfl) e14 (hc _ _ _ _ e16) ?_
    refine os_goto (tgt := 108) hX dX3_call_104 (by decide) ?_
    exact os_aret (r := r17) hX dX3_call_108 rfl (Option.some.inj h)
set_option maxHeartbeats 4000000 in
theorem qj_X3_call_70 {κ : oKv} {n : Nat} {call : oCl} {kc : Nat → List Value → oSt → Option Value × oSt → Prop} {v : Option Value × oSt} {X : Nat → zLv → List Value → oSt → Prop} (hX : oSem RX3 cX3_call 6 0 (some (.object "LiquidTongue$Node")) κ kc v X) (hc : ∀ j av s w, call j av s = some w → kc j av s w) {k7 : Option Nat → Option Nat → Int32 → Int32 → Int32 → oSt → oRs} (hk7 : ∀ (x0 : Option Nat) (x1 : Option Nat) (x2 : Int32) (x3 : Int32) (x4 : Int32) (s : oSt), k7 x0 x1 x2 x3 x4 s = some v → X 7 [some (va_rf x0), some (va_rf x1), some (.int x2), some (.int x3), some (.int x4), none] [] s) {x0 : Option Nat} {x1 : Option Nat} {x2 : Int32} {x4 : Int32} {x5 : Int32} {σ : oSt} (h : oj_X3_call_70 n call κ k7 x0 x1 x2 x4 x5 σ = some v) : X 70 [some (va_rf x0), some (va_rf x1), some (.int x2), none, some (.int x4), some (.int x5)] [] σ := by
  rw [oj_X3_call_70] at h
  refine os_iload hX dX3_call_70 rfl ?_
  refine os_istore_n hX dX3_call_72 rfl (by decide) rfl ?_
  dsimp only [List.set]
  refine os_iinc (v := x4 + 1) hX dX3_call_73 rfl rfl (by decide) rfl ?_
  dsimp only [List.set]
  refine os_goto (tgt := 7) hX dX3_call_76 (by decide) ?_
  refine os_weak hX (lw := [some (va_rf x0), some (va_rf x1), some (.int x2), some (.int x5), some (.int (x4 + 1)), none]) ⟨rfl, rfl, rfl, rfl, rfl, trivial⟩ ?_
  exact hk7 _ _ _ _ _ _ h
set_option maxHeartbeats 4000000 in
theorem ql_X3_call_7 {κ : oKv} {n : Nat} {call : oCl} {kc : Nat → List Value → oSt → Option Value × oSt → Prop} {v : Option Value × oSt} {X : Nat → zLv → List Value → oSt → Prop} (hX : oSem RX3 cX3_call 6 0 (some (.object "LiquidTongue$Node")) κ kc v X) (hc : ∀ j av s w, call j av s = some w → kc j av s w) : ∀ (f : Nat) (x0 : Option Nat) (x1 : Option Nat) (x2 : Int32) (x3 : Int32) (x4 : Int32) (σ : oSt), ol_X3_call_7 n call κ f x0 x1 x2 x3 x4 σ = some v → X 7 [some (va_rf x0), some (va_rf x1), some (.int x2), some (.int x3), some (.int x4), none] [] σ := by
  intro f
  induction f with
  | zero => intro x0 x1 x2 x3 x4 σ h; cases h
  | succ f hk7 =>
    intro x0 x1 x2 x3 x4 σ h
    rw [ol_X3_call_7] at h
    refine os_iload hX dX3_call_7 rfl ?_
    refine os_aload_n (r := x1) hX dX3_call_9 rfl rfl ?_
    obtain ⟨v1, e2, h⟩ := obn_e h
    refine ow_get (r := x1) hX dX3_call_10 oF_RX3_188 (ovr_e e2) ?_
    obtain ⟨a3, e4, h⟩ := obn_e h
    obtain ⟨r7, s5, e6, h⟩ := oin_e h
    refine oc_RX3_191 (rb := v1)  hX dX3_call_13 (Nat.le_of_ble_eq_true rfl) e4 (hc _ _ _ _ e6) ?_
    refine os_icmp_ge (tgt := 79) hX dX3_call_16 (by decide) (fun c8 => ?_) (fun c8 => ?_)
    · rw [if_pos c8] at h
      refine os_weak hX (lw := [some (va_rf x0), some (va_rf x1), some (.int x2), none, none, none]) ⟨rfl, rfl, rfl, trivial⟩ ?_
      exact qj_X3_call_79 hX hc h
    · rw [if_neg c8] at h
      refine os_aload_n (r := x0) hX dX3_call_19 rfl rfl ?_
      obtain ⟨v9, e10, h⟩ := obn_e h
      refine ow_get (r := x0) hX dX3_call_20 oF_RX3_60 (ovi_e e10) ?_
      refine os_if_ne (tgt := 79) hX dX3_call_23 (by decide) (fun c11 => ?_) (fun c11 => ?_)
      · rw [if_neg c11] at h
        refine os_weak hX (lw := [some (va_rf x0), some (va_rf x1), some (.int x2), none, none, none]) ⟨rfl, rfl, rfl, trivial⟩ ?_
        exact qj_X3_call_79 hX hc h
      · rw [if_pos c11] at h
        refine os_aload_n (r := x0) hX dX3_call_26 rfl rfl ?_
        refine os_aload_n (r := x0) hX dX3_call_27 rfl rfl ?_
        refine os_aload_n (r := x1) hX dX3_call_28 rfl rfl ?_
        obtain ⟨v12, e13, h⟩ := obn_e h
        refine ow_get (r := x1) hX dX3_call_29 oF_RX3_188 (ovr_e e13) ?_
        refine os_iload hX dX3_call_32 rfl ?_
        obtain ⟨a14, e15, h⟩ := obn_e h
        obtain ⟨r18, s16, e17, h⟩ := orn_e h
        refine oc_RX3_113 (rb := v12) (a1 := .int x4) hX dX3_call_34 (by simp only [List.map_cons, List.map_nil, List.sum_cons, List.sum_nil, ocat]; exact Nat.le_of_ble_eq_true rfl) e15 (hc _ _ _ _ e17) ?_
        obtain ⟨b19, h⟩ := ogd_e h
        refine ow_cs (r := r18) hX dX3_call_37 oK_RX3_24 b19 ?_
        obtain ⟨a20, e21, h⟩ := obn_e h
        obtain ⟨r24, s22, e23, h⟩ := oln'_e h
        refine oc_RX3_195 (rb := x0) (a1 := va_rf r18) hX dX3_call_40 (by simp only [List.map_cons, List.map_nil, List.sum_cons, List.sum_nil, ocat]; exact Nat.le_of_ble_eq_true rfl) e21 (hc _ _ _ _ e23) ?_
        refine os_iconst (v := 0) hX dX3_call_43 (by decide) ?_
        obtain ⟨a25, e26, h⟩ := obn_e h
        obtain ⟨r29, s27, e28, h⟩ := oin_e h
        refine oc_RX3_128 (rb := x0) (a1 := .long r24) (a2 := .int 0) hX dX3_call_44 (Nat.le_of_ble_eq_true rfl) e26 (hc _ _ _ _ e28) ?_
        refine os_istore hX dX3_call_47 (by decide) rfl ?_
        dsimp only [List.set]
        refine os_iload_n hX dX3_call_49 rfl rfl ?_
        refine os_if_ne (tgt := 59) hX dX3_call_50 (by decide) (fun c30 => ?_) (fun c30 => ?_)
        · rw [if_neg c30] at h
          refine os_aload_n (r := x0) hX dX3_call_59 rfl rfl ?_
          obtain ⟨v31, e32, h⟩ := obn_e h
          refine ow_get (r := x0) hX dX3_call_60 oF_RX3_21 (ovr_e e32) ?_
          refine os_iload_n hX dX3_call_63 rfl rfl ?_
          refine os_iconst (v := 1) hX dX3_call_64 (by decide) ?_
          refine os_iadd hX dX3_call_65 ?_
          refine os_iload hX dX3_call_66 rfl ?_
          refine os_i2l hX dX3_call_68 ?_
          obtain ⟨s33, e34, h⟩ := obn_e h
          refine ow_sj (r := v31) (i := (x3 + 1)) (x := r29.toInt64) hX dX3_call_69 e34 ?_
          refine os_weak hX (lw := [some (va_rf x0), some (va_rf x1), some (.int x2), none, some (.int x4), some (.int r29)]) ⟨rfl, rfl, rfl, rfl, rfl, trivial⟩ ?_
          exact qj_X3_call_70 hX hc hk7 h
        · rw [if_pos c30] at h
          refine os_iload hX dX3_call_53 rfl ?_
          refine os_istore_n hX dX3_call_55 rfl (by decide) (ozlo (i := 1) (r := x1) rfl) ?_
          dsimp only [List.set]
          refine os_goto (tgt := 70) hX dX3_call_56 (by decide) ?_
          refine os_weak hX (lw := [some (va_rf x0), some (va_rf x1), some (.int r29), none, some (.int x4), some (.int r29)]) ⟨rfl, rfl, rfl, rfl, rfl, trivial⟩ ?_
          exact qj_X3_call_70 hX hc hk7 h
set_option maxHeartbeats 4000000 in
theorem qb_X3_call {κ : oKv} {n : Nat} {call : oCl} {kc : Nat → List Value → oSt → Option Value × oSt → Prop} {v : Option Value × oSt} {X : Nat → zLv → List Value → oSt → Prop} (hX : oSem RX3 cX3_call 6 0 (some (.object "LiquidTongue$Node")) κ kc v X) (hc : ∀ j av s w, call j av s = some w → kc j av s w) {x0 : Option Nat} {x1 : Option Nat} {σ : oSt} (h : ob_X3_call n call κ x0 x1 σ = some v) : X 0 [some (va_rf x0), some (va_rf x1), none, none, none, none] [] σ := by
  rw [ob_X3_call] at h
  refine os_iconst (v := 0) hX dX3_call_0 (by decide) ?_
  refine os_istore_n hX dX3_call_1 rfl (by decide) (ozlo (i := 1) (r := x1) rfl) ?_
  dsimp only [List.set]
  refine os_iconst (v := 0) hX dX3_call_2 (by decide) ?_
  refine os_istore_n hX dX3_call_3 rfl (by decide) rfl ?_
  dsimp only [List.set]
  refine os_iconst (v := 0) hX dX3_call_4 (by decide) ?_
  refine os_istore hX dX3_call_5 (by decide) rfl ?_
  dsimp only [List.set]
  exact ql_X3_call_7 hX hc n _ _ _ _ _ _ h
def oj_X3_newArray_56 (n : Nat) (call : oCl) (κ : oKv) (x0 : Option Nat) (x1 : Int64) (σ : oSt) : oRs :=
  obn (ovi (ofd σ x0 5 12)) fun v1 =>
  if v1 = 0 then
    obn (oob σ x0 5) fun a4 =>
    oin (call 77 [va_rf x0, .int x1.toInt32] σ) fun r8 s6 =>
    some (some (.long r8.toInt64), s6)
  else
    some (some (.long 0), σ)
def oj_X3_newArray_51 (n : Nat) (call : oCl) (κ : oKv) (x0 : Option Nat) (x1 : Int64) (σ : oSt) : oRs :=
  obn (opf σ x0 5 12 (.int 2)) fun s1 =>
  oj_X3_newArray_56 n call κ x0 x1 s1
def oj_X3_newArray_22 (n : Nat) (call : oCl) (κ : oKv) (x0 : Option Nat) (x1 : Int64) (σ : oSt) : oRs :=
  obn (ovi (ofd σ x0 5 12)) fun v1 =>
  if v1 = 0 then
    if 0 < (lg_cmp x1 1000) then
      oj_X3_newArray_51 n call κ x0 x1 σ
    else
      obn (ovi (ofd σ x0 5 14)) fun v5 =>
      if (lg_cmp (v5.toInt64 + x1) 10000) ≤ 0 then
        oj_X3_newArray_56 n call κ x0 x1 σ
      else
        oj_X3_newArray_51 n call κ x0 x1 σ
  else
    oj_X3_newArray_56 n call κ x0 x1 σ
def ob_X3_newArray (n : Nat) (call : oCl) (κ : oKv) (x0 : Option Nat) (x1 : Int64) (σ : oSt) : oRs :=
  obn (ovi (ofd σ x0 5 12)) fun v1 =>
  if v1 = 0 then
    if 0 ≤ (lg_cmp x1 0) then
      oj_X3_newArray_22 n call κ x0 x1 σ
    else
      obn (opf σ x0 5 12 (.int 6)) fun s5 =>
      oj_X3_newArray_56 n call κ x0 x1 s5
  else
    oj_X3_newArray_22 n call κ x0 x1 σ
set_option maxHeartbeats 4000000 in
theorem qj_X3_newArray_56 {κ : oKv} {n : Nat} {call : oCl} {kc : Nat → List Value → oSt → Option Value × oSt → Prop} {v : Option Value × oSt} {X : Nat → zLv → List Value → oSt → Prop} (hX : oSem RX3 cX3_newArray 3 0 (some .long) κ kc v X) (hc : ∀ j av s w, call j av s = some w → kc j av s w) {x0 : Option Nat} {x1 : Int64} {σ : oSt} (h : oj_X3_newArray_56 n call κ x0 x1 σ = some v) : X 56 [some (va_rf x0), some (.long x1), none] [] σ := by
  rw [oj_X3_newArray_56] at h
  refine os_aload_n (r := x0) hX dX3_newArray_56 rfl rfl ?_
  obtain ⟨v1, e2, h⟩ := obn_e h
  refine ow_get (r := x0) hX dX3_newArray_57 oF_RX3_60 (ovi_e e2) ?_
  refine os_if_ne (tgt := 73) hX dX3_newArray_60 (by decide) (fun c3 => ?_) (fun c3 => ?_)
  · rw [if_neg c3] at h
    refine os_lconst (v := 0) hX dX3_newArray_73 (by decide) ?_
    exact os_lret hX dX3_newArray_74 rfl (Option.some.inj h)
  · rw [if_pos c3] at h
    refine os_aload_n (r := x0) hX dX3_newArray_63 rfl rfl ?_
    refine os_lload_n hX dX3_newArray_64 rfl rfl ?_
    refine os_l2i hX dX3_newArray_65 ?_
    obtain ⟨a4, e5, h⟩ := obn_e h
    obtain ⟨r8, s6, e7, h⟩ := oin_e h
    refine oc_RX3_132 (rb := x0) (a1 := .int x1.toInt32) hX dX3_newArray_66 (Nat.le_of_ble_eq_true rfl) e5 (hc _ _ _ _ e7) ?_
    refine os_i2l hX dX3_newArray_69 ?_
    refine os_goto (tgt := 74) hX dX3_newArray_70 (by decide) ?_
    exact os_lret hX dX3_newArray_74 rfl (Option.some.inj h)
set_option maxHeartbeats 4000000 in
theorem qj_X3_newArray_51 {κ : oKv} {n : Nat} {call : oCl} {kc : Nat → List Value → oSt → Option Value × oSt → Prop} {v : Option Value × oSt} {X : Nat → zLv → List Value → oSt → Prop} (hX : oSem RX3 cX3_newArray 3 0 (some .long) κ kc v X) (hc : ∀ j av s w, call j av s = some w → kc j av s w) {x0 : Option Nat} {x1 : Int64} {σ : oSt} (h : oj_X3_newArray_51 n call κ x0 x1 σ = some v) : X 51 [some (va_rf x0), some (.long x1), none] [] σ := by
  rw [oj_X3_newArray_51] at h
  refine os_aload_n (r := x0) hX dX3_newArray_51 rfl rfl ?_
  refine os_iconst (v := 2) hX dX3_newArray_52 (by decide) ?_
  obtain ⟨s1, e2, h⟩ := obn_e h
  refine ow_put (r := x0) (x := .int 2) hX dX3_newArray_53 oF_RX3_60 (by decide) (opn_I oT_5_12) e2 ?_
  exact qj_X3_newArray_56 hX hc h
set_option maxHeartbeats 4000000 in
theorem qj_X3_newArray_22 {κ : oKv} {n : Nat} {call : oCl} {kc : Nat → List Value → oSt → Option Value × oSt → Prop} {v : Option Value × oSt} {X : Nat → zLv → List Value → oSt → Prop} (hX : oSem RX3 cX3_newArray 3 0 (some .long) κ kc v X) (hc : ∀ j av s w, call j av s = some w → kc j av s w) {x0 : Option Nat} {x1 : Int64} {σ : oSt} (h : oj_X3_newArray_22 n call κ x0 x1 σ = some v) : X 22 [some (va_rf x0), some (.long x1), none] [] σ := by
  rw [oj_X3_newArray_22] at h
  refine os_aload_n (r := x0) hX dX3_newArray_22 rfl rfl ?_
  obtain ⟨v1, e2, h⟩ := obn_e h
  refine ow_get (r := x0) hX dX3_newArray_23 oF_RX3_60 (ovi_e e2) ?_
  refine os_if_ne (tgt := 56) hX dX3_newArray_26 (by decide) (fun c3 => ?_) (fun c3 => ?_)
  · rw [if_neg c3] at h
    exact qj_X3_newArray_56 hX hc h
  · rw [if_pos c3] at h
    refine os_lload_n hX dX3_newArray_29 rfl rfl ?_
    refine os_ldc2 (x := 1000) hX dX3_newArray_30 oCL_RX3_245 ?_
    refine os_lcmp hX dX3_newArray_33 ?_
    refine os_if_gt (tgt := 51) hX dX3_newArray_34 (by decide) (fun c4 => ?_) (fun c4 => ?_)
    · rw [if_pos c4] at h
      exact qj_X3_newArray_51 hX hc h
    · rw [if_neg c4] at h
      refine os_aload_n (r := x0) hX dX3_newArray_37 rfl rfl ?_
      obtain ⟨v5, e6, h⟩ := obn_e h
      refine ow_get (r := x0) hX dX3_newArray_38 oF_RX3_103 (ovi_e e6) ?_
      refine os_i2l hX dX3_newArray_41 ?_
      refine os_lload_n hX dX3_newArray_42 rfl rfl ?_
      refine os_ladd hX dX3_newArray_43 ?_
      refine os_ldc2 (x := 10000) hX dX3_newArray_44 oCL_RX3_247 ?_
      refine os_lcmp hX dX3_newArray_47 ?_
      refine os_if_le (tgt := 56) hX dX3_newArray_48 (by decide) (fun c7 => ?_) (fun c7 => ?_)
      · rw [if_pos c7] at h
        exact qj_X3_newArray_56 hX hc h
      · rw [if_neg c7] at h
        exact qj_X3_newArray_51 hX hc h
set_option maxHeartbeats 4000000 in
theorem qb_X3_newArray {κ : oKv} {n : Nat} {call : oCl} {kc : Nat → List Value → oSt → Option Value × oSt → Prop} {v : Option Value × oSt} {X : Nat → zLv → List Value → oSt → Prop} (hX : oSem RX3 cX3_newArray 3 0 (some .long) κ kc v X) (hc : ∀ j av s w, call j av s = some w → kc j av s w) {x0 : Option Nat} {x1 : Int64} {σ : oSt} (h : ob_X3_newArray n call κ x0 x1 σ = some v) : X 0 [some (va_rf x0), some (.long x1), none] [] σ := by
  rw [ob_X3_newArray] at h
  refine os_aload_n (r := x0) hX dX3_newArray_0 rfl rfl ?_
  obtain ⟨v1, e2, h⟩ := obn_e h
  refine ow_get (r := x0) hX dX3_newArray_1 oF_RX3_60 (ovi_e e2) ?_
  refine os_if_ne (tgt := 22) hX dX3_newArray_4 (by decide) (fun c3 => ?_) (fun c3 => ?_)
  · rw [if_neg c3] at h
    exact qj_X3_newArray_22 hX hc h
  · rw [if_pos c3] at h
    refine os_lload_n hX dX3_newArray_7 rfl rfl ?_
    refine os_lconst (v := 0) hX dX3_newArray_8 (by decide) ?_
    refine os_lcmp hX dX3_newArray_9 ?_
    refine os_if_ge (tgt := 22) hX dX3_newArray_10 (by decide) (fun c4 => ?_) (fun c4 => ?_)
    · rw [if_pos c4] at h
      exact qj_X3_newArray_22 hX hc h
    · rw [if_neg c4] at h
      refine os_aload_n (r := x0) hX dX3_newArray_13 rfl rfl ?_
      refine os_bipush (v := 6) hX dX3_newArray_14 (by decide) ?_
      obtain ⟨s5, e6, h⟩ := obn_e h
      refine ow_put (r := x0) (x := .int 6) hX dX3_newArray_16 oF_RX3_60 (by decide) (opn_I oT_5_12) e6 ?_
      refine os_goto (tgt := 56) hX dX3_newArray_19 (by decide) ?_
      exact qj_X3_newArray_56 hX hc h
def ob_X3_cons (n : Nat) (call : oCl) (κ : oKv) (x0 : Option Nat) (x1 : Option Nat) (σ : oSt) : oRs :=
  obn (ovr (ofd σ x1 7 15)) fun v1 =>
  obn (oob σ x0 5) fun a3 =>
  oln' (call 85 [va_rf x0, va_rf v1] σ) fun r7 s5 =>
  obn (ovr (ofd s5 x1 7 9)) fun v8 =>
  obn (ovi (ofd s5 x1 7 2)) fun v10 =>
  obn (oob s5 x0 5) fun a12 =>
  oln' (call 83 [va_rf x0, va_rf v8, .int v10] s5) fun r16 s14 =>
  obn (oob s14 x0 5) fun a17 =>
  oln' (call 84 [va_rf x0, .long r16, .int 213] s14) fun r21 s19 =>
  obn (oob s19 x0 5) fun a22 =>
  oin (call 82 [va_rf x0, .long r7, .long r16, .long (r21 + 1)] s19) fun r26 s24 =>
  some (some (.long r26.toInt64), s24)
set_option maxHeartbeats 4000000 in
theorem qb_X3_cons {κ : oKv} {n : Nat} {call : oCl} {kc : Nat → List Value → oSt → Option Value × oSt → Prop} {v : Option Value × oSt} {X : Nat → zLv → List Value → oSt → Prop} (hX : oSem RX3 cX3_cons 6 0 (some .long) κ kc v X) (hc : ∀ j av s w, call j av s = some w → kc j av s w) {x0 : Option Nat} {x1 : Option Nat} {σ : oSt} (h : ob_X3_cons n call κ x0 x1 σ = some v) : X 0 [some (va_rf x0), some (va_rf x1), none, none, none, none] [] σ := by
  rw [ob_X3_cons] at h
  refine os_aload_n (r := x0) hX dX3_cons_0 rfl rfl ?_
  refine os_aload_n (r := x1) hX dX3_cons_1 rfl rfl ?_
  obtain ⟨v1, e2, h⟩ := obn_e h
  refine ow_get (r := x1) hX dX3_cons_2 oF_RX3_228 (ovr_e e2) ?_
  obtain ⟨a3, e4, h⟩ := obn_e h
  obtain ⟨r7, s5, e6, h⟩ := oln'_e h
  refine oc_RX3_212 (rb := x0) (a1 := va_rf v1) hX dX3_cons_5 (Nat.le_of_ble_eq_true rfl) e4 (hc _ _ _ _ e6) ?_
  refine os_lstore_n hX dX3_cons_8 rfl (by decide) (ozlo (i := 1) (r := x1) rfl) ?_
  dsimp only [List.set]
  refine os_aload_n (r := x0) hX dX3_cons_9 rfl rfl ?_
  refine os_aload_n (r := x1) hX dX3_cons_10 rfl rfl ?_
  obtain ⟨v8, e9, h⟩ := obn_e h
  refine ow_get (r := x1) hX dX3_cons_11 oF_RX3_198 (ovr_e e9) ?_
  refine os_aload_n (r := x1) hX dX3_cons_14 rfl rfl ?_
  obtain ⟨v10, e11, h⟩ := obn_e h
  refine ow_get (r := x1) hX dX3_cons_15 oF_RX3_202 (ovi_e e11) ?_
  obtain ⟨a12, e13, h⟩ := obn_e h
  obtain ⟨r16, s14, e15, h⟩ := oln'_e h
  refine oc_RX3_205 (rb := x0) (a1 := va_rf v8) (a2 := .int v10) hX dX3_cons_18 (Nat.le_of_ble_eq_true rfl) e13 (hc _ _ _ _ e15) ?_
  refine os_lstore hX dX3_cons_21 (by decide) rfl ?_
  dsimp only [List.set]
  refine os_aload_n (r := x0) hX dX3_cons_23 rfl rfl ?_
  refine os_lload_n hX dX3_cons_24 rfl rfl ?_
  refine os_lload hX dX3_cons_25 rfl ?_
  refine os_aload_n (r := x0) hX dX3_cons_27 rfl rfl ?_
  refine os_lload hX dX3_cons_28 rfl ?_
  refine os_sipush (v := 213) hX dX3_cons_30 (by decide) ?_
  obtain ⟨a17, e18, h⟩ := obn_e h
  obtain ⟨r21, s19, e20, h⟩ := oln'_e h
  refine oc_RX3_90 (rb := x0) (a1 := .long r16) (a2 := .int 213) hX dX3_cons_33 (by simp only [List.map_cons, List.map_nil, List.sum_cons, List.sum_nil, ocat]; exact Nat.le_of_ble_eq_true rfl) e18 (hc _ _ _ _ e20) ?_
  refine os_lconst (v := 1) hX dX3_cons_36 (by decide) ?_
  refine os_ladd hX dX3_cons_37 ?_
  obtain ⟨a22, e23, h⟩ := obn_e h
  obtain ⟨r26, s24, e25, h⟩ := oin_e h
  refine oc_RX3_156 (rb := x0) (a1 := .long r7) (a2 := .long r16) (a3 := .long (r21 + 1)) hX dX3_cons_38 (Nat.le_of_ble_eq_true rfl) e23 (hc _ _ _ _ e25) ?_
  refine os_i2l hX dX3_cons_41 ?_
  exact os_lret hX dX3_cons_42 rfl (Option.some.inj h)
def oj_X3_product_62 (n : Nat) (call : oCl) (κ : oKv) (x1 : Int64) (x4 : Int64) (σ : oSt) : oRs :=
  some (some (.long (x1 * x4)), σ)
def oj_X3_product_57 (n : Nat) (call : oCl) (κ : oKv) (t0 : Option Nat) (t1 : Int32) (σ : oSt) : oRs :=
  obn (opf σ t0 5 12 (.int t1)) fun s1 =>
  some (some (.long 0), s1)
def oj_X3_product_16 (n : Nat) (call : oCl) (κ : oKv) (x0 : Option Nat) (x1 : Int64) (t0 : Int64) (σ : oSt) : oRs :=
  if (lg_cmp x1 0) = 0 then
    oj_X3_product_62 n call κ x1 t0 σ
  else
    ogd (decide (¬ ((if 0 < x1 then x1 else -x1)) = 0)) (
    if (lg_cmp ((if 0 < t0 then t0 else -t0)) (1099511627776 / ((if 0 < x1 then x1 else -x1)))) ≤ 0 then
      oj_X3_product_62 n call κ x1 t0 σ
    else
      obn (ovi (ofd σ x0 5 12)) fun v4 =>
      if v4 = 0 then
        oj_X3_product_57 n call κ x0 2 σ
      else
        obn (ovi (ofd σ x0 5 12)) fun v7 =>
        oj_X3_product_57 n call κ x0 v7 σ)
def ob_X3_product (n : Nat) (call : oCl) (κ : oKv) (x0 : Option Nat) (x1 : Int64) (x3 : Option Nat) (σ : oSt) : oRs :=
  obn (ovi (ofd σ x0 5 12)) fun v1 =>
  if v1 = 0 then
    obn (oob σ x0 5) fun a4 =>
    oln' (call 85 [va_rf x0, va_rf x3] σ) fun r8 s6 =>
    oj_X3_product_16 n call κ x0 x1 r8 s6
  else
    oj_X3_product_16 n call κ x0 x1 0 σ
set_option maxHeartbeats 4000000 in
theorem qj_X3_product_62 {κ : oKv} {n : Nat} {call : oCl} {kc : Nat → List Value → oSt → Option Value × oSt → Prop} {v : Option Value × oSt} {X : Nat → zLv → List Value → oSt → Prop} (hX : oSem RX3 cX3_product 6 0 (some .long) κ kc v X) (hc : ∀ j av s w, call j av s = some w → kc j av s w) {x1 : Int64} {x4 : Int64} {σ : oSt} (h : oj_X3_product_62 n call κ x1 x4 σ = some v) : X 62 [none, some (.long x1), none, none, some (.long x4), none] [] σ := by
  rw [oj_X3_product_62] at h
  refine os_lload_n hX dX3_product_62 rfl rfl ?_
  refine os_lload hX dX3_product_63 rfl ?_
  refine os_lmul hX dX3_product_65 ?_
  exact os_lret hX dX3_product_66 rfl (Option.some.inj h)
set_option maxHeartbeats 4000000 in
theorem qj_X3_product_57 {κ : oKv} {n : Nat} {call : oCl} {kc : Nat → List Value → oSt → Option Value × oSt → Prop} {v : Option Value × oSt} {X : Nat → zLv → List Value → oSt → Prop} (hX : oSem RX3 cX3_product 6 0 (some .long) κ kc v X) (hc : ∀ j av s w, call j av s = some w → kc j av s w) {t0 : Option Nat} {t1 : Int32} {σ : oSt} (h : oj_X3_product_57 n call κ t0 t1 σ = some v) : X 57 [none, none, none, none, none, none] [.int t1, va_rf t0] σ := by
  rw [oj_X3_product_57] at h
  obtain ⟨s1, e2, h⟩ := obn_e h
  refine ow_put (r := t0) (x := .int t1) hX dX3_product_57 oF_RX3_60 (by decide) (opn_I oT_5_12) e2 ?_
  refine os_lconst (v := 0) hX dX3_product_60 (by decide) ?_
  exact os_lret hX dX3_product_61 rfl (Option.some.inj h)
set_option maxHeartbeats 4000000 in
theorem qj_X3_product_16 {κ : oKv} {n : Nat} {call : oCl} {kc : Nat → List Value → oSt → Option Value × oSt → Prop} {v : Option Value × oSt} {X : Nat → zLv → List Value → oSt → Prop} (hX : oSem RX3 cX3_product 6 0 (some .long) κ kc v X) (hc : ∀ j av s w, call j av s = some w → kc j av s w) {x0 : Option Nat} {x1 : Int64} {t0 : Int64} {σ : oSt} (h : oj_X3_product_16 n call κ x0 x1 t0 σ = some v) : X 16 [some (va_rf x0), some (.long x1), none, none, none, none] [.long t0] σ := by
  rw [oj_X3_product_16] at h
  refine os_lstore hX dX3_product_16 (by decide) rfl ?_
  dsimp only [List.set]
  refine os_lload_n hX dX3_product_18 rfl rfl ?_
  refine os_lconst (v := 0) hX dX3_product_19 (by decide) ?_
  refine os_lcmp hX dX3_product_20 ?_
  refine os_if_eq (tgt := 62) hX dX3_product_21 (by decide) (fun c1 => ?_) (fun c1 => ?_)
  · rw [if_pos c1] at h
    refine os_weak hX (lw := [none, some (.long x1), none, none, some (.long t0), none]) ⟨rfl, rfl, trivial⟩ ?_
    exact qj_X3_product_62 hX hc h
  · rw [if_neg c1] at h
    refine os_lload hX dX3_product_24 rfl ?_
    refine os_mabsL hX dX3_product_26 omabsL_RX3_249 (Nat.le_of_ble_eq_true rfl) ?_
    refine os_ldc2 (x := 1099511627776) hX dX3_product_29 oCL_RX3_254 ?_
    refine os_lload_n hX dX3_product_32 rfl rfl ?_
    refine os_mabsL hX dX3_product_33 omabsL_RX3_249 (Nat.le_of_ble_eq_true rfl) ?_
    obtain ⟨b2, h⟩ := ogd_e h
    refine os_ldiv hX dX3_product_36 (znz_ok b2) ?_
    refine os_lcmp hX dX3_product_37 ?_
    refine os_if_le (tgt := 62) hX dX3_product_38 (by decide) (fun c3 => ?_) (fun c3 => ?_)
    · rw [if_pos c3] at h
      refine os_weak hX (lw := [none, some (.long x1), none, none, some (.long t0), none]) ⟨rfl, rfl, trivial⟩ ?_
      exact qj_X3_product_62 hX hc h
    · rw [if_neg c3] at h
      refine os_aload_n (r := x0) hX dX3_product_41 rfl rfl ?_
      refine os_aload_n (r := x0) hX dX3_product_42 rfl rfl ?_
      obtain ⟨v4, e5, h⟩ := obn_e h
      refine ow_get (r := x0) hX dX3_product_43 oF_RX3_60 (ovi_e e5) ?_
      refine os_if_ne (tgt := 53) hX dX3_product_46 (by decide) (fun c6 => ?_) (fun c6 => ?_)
      · rw [if_neg c6] at h
        refine os_aload_n (r := x0) hX dX3_product_53 rfl rfl ?_
        obtain ⟨v7, e8, h⟩ := obn_e h
        refine ow_get (r := x0) hX dX3_product_54 oF_RX3_60 (ovi_e e8) ?_
        refine os_weak hX (lw := [none, none, none, none, none, none]) trivial ?_
        exact qj_X3_product_57 hX hc h
      · rw [if_pos c6] at h
        refine os_iconst (v := 2) hX dX3_product_49 (by decide) ?_
        refine os_goto (tgt := 57) hX dX3_product_50 (by decide) ?_
        refine os_weak hX (lw := [none, none, none, none, none, none]) trivial ?_
        exact qj_X3_product_57 hX hc h
set_option maxHeartbeats 4000000 in
theorem qb_X3_product {κ : oKv} {n : Nat} {call : oCl} {kc : Nat → List Value → oSt → Option Value × oSt → Prop} {v : Option Value × oSt} {X : Nat → zLv → List Value → oSt → Prop} (hX : oSem RX3 cX3_product 6 0 (some .long) κ kc v X) (hc : ∀ j av s w, call j av s = some w → kc j av s w) {x0 : Option Nat} {x1 : Int64} {x3 : Option Nat} {σ : oSt} (h : ob_X3_product n call κ x0 x1 x3 σ = some v) : X 0 [some (va_rf x0), some (.long x1), none, some (va_rf x3), none, none] [] σ := by
  rw [ob_X3_product] at h
  refine os_aload_n (r := x0) hX dX3_product_0 rfl rfl ?_
  obtain ⟨v1, e2, h⟩ := obn_e h
  refine ow_get (r := x0) hX dX3_product_1 oF_RX3_60 (ovi_e e2) ?_
  refine os_if_ne (tgt := 15) hX dX3_product_4 (by decide) (fun c3 => ?_) (fun c3 => ?_)
  · rw [if_neg c3] at h
    refine os_lconst (v := 0) hX dX3_product_15 (by decide) ?_
    refine os_weak hX (lw := [some (va_rf x0), some (.long x1), none, none, none, none]) ⟨rfl, rfl, trivial⟩ ?_
    exact qj_X3_product_16 hX hc h
  · rw [if_pos c3] at h
    refine os_aload_n (r := x0) hX dX3_product_7 rfl rfl ?_
    refine os_aload_n (r := x3) hX dX3_product_8 rfl rfl ?_
    obtain ⟨a4, e5, h⟩ := obn_e h
    obtain ⟨r8, s6, e7, h⟩ := oln'_e h
    refine oc_RX3_212 (rb := x0) (a1 := va_rf x3) hX dX3_product_9 (Nat.le_of_ble_eq_true rfl) e5 (hc _ _ _ _ e7) ?_
    refine os_goto (tgt := 16) hX dX3_product_12 (by decide) ?_
    refine os_weak hX (lw := [some (va_rf x0), some (.long x1), none, none, none, none]) ⟨rfl, rfl, trivial⟩ ?_
    exact qj_X3_product_16 hX hc h
def oj_X3_quotient_53 (n : Nat) (call : oCl) (κ : oKv) (t0 : Option Nat) (t1 : Int32) (σ : oSt) : oRs :=
  obn (opf σ t0 5 12 (.int t1)) fun s1 =>
  some (some (.long 0), s1)
def oj_X3_quotient_28 (n : Nat) (call : oCl) (κ : oKv) (x0 : Option Nat) (x1 : Option Nat) (x2 : Int64) (t0 : Int64) (σ : oSt) : oRs :=
  if (lg_cmp t0 0) = 0 then
    obn (ovi (ofd σ x0 5 12)) fun v11 =>
    if v11 = 0 then
      oj_X3_quotient_53 n call κ x0 4 σ
    else
      obn (ovi (ofd σ x0 5 12)) fun v14 =>
      oj_X3_quotient_53 n call κ x0 v14 σ
  else
    obn (ovi (ofd σ x1 7 0)) fun v2 =>
    if v2 = 47 then
      oln' (call 243 [.long x2, .long t0] σ) fun r10 s8 =>
      some (some (.long r10), s8)
    else
      oln' (call 244 [.long x2, .long t0] σ) fun r7 s5 =>
      some (some (.long r7), s5)
def ob_X3_quotient (n : Nat) (call : oCl) (κ : oKv) (x0 : Option Nat) (x1 : Option Nat) (σ : oSt) : oRs :=
  obn (ovr (ofd σ x1 7 15)) fun v1 =>
  obn (oob σ x0 5) fun a3 =>
  oln' (call 85 [va_rf x0, va_rf v1] σ) fun r7 s5 =>
  obn (ovi (ofd s5 x0 5 12)) fun v8 =>
  if v8 = 0 then
    obn (ovr (ofd s5 x1 7 16)) fun v11 =>
    obn (oob s5 x0 5) fun a13 =>
    oln' (call 85 [va_rf x0, va_rf v11] s5) fun r17 s15 =>
    oj_X3_quotient_28 n call κ x0 x1 r7 r17 s15
  else
    oj_X3_quotient_28 n call κ x0 x1 r7 0 s5
set_option maxHeartbeats 4000000 in
theorem qj_X3_quotient_53 {κ : oKv} {n : Nat} {call : oCl} {kc : Nat → List Value → oSt → Option Value × oSt → Prop} {v : Option Value × oSt} {X : Nat → zLv → List Value → oSt → Prop} (hX : oSem RX3 cX3_quotient 6 0 (some .long) κ kc v X) (hc : ∀ j av s w, call j av s = some w → kc j av s w) {t0 : Option Nat} {t1 : Int32} {σ : oSt} (h : oj_X3_quotient_53 n call κ t0 t1 σ = some v) : X 53 [none, none, none, none, none, none] [.int t1, va_rf t0] σ := by
  rw [oj_X3_quotient_53] at h
  obtain ⟨s1, e2, h⟩ := obn_e h
  refine ow_put (r := t0) (x := .int t1) hX dX3_quotient_53 oF_RX3_60 (by decide) (opn_I oT_5_12) e2 ?_
  refine os_lconst (v := 0) hX dX3_quotient_56 (by decide) ?_
  exact os_lret hX dX3_quotient_57 rfl (Option.some.inj h)
set_option maxHeartbeats 4000000 in
theorem qj_X3_quotient_28 {κ : oKv} {n : Nat} {call : oCl} {kc : Nat → List Value → oSt → Option Value × oSt → Prop} {v : Option Value × oSt} {X : Nat → zLv → List Value → oSt → Prop} (hX : oSem RX3 cX3_quotient 6 0 (some .long) κ kc v X) (hc : ∀ j av s w, call j av s = some w → kc j av s w) {x0 : Option Nat} {x1 : Option Nat} {x2 : Int64} {t0 : Int64} {σ : oSt} (h : oj_X3_quotient_28 n call κ x0 x1 x2 t0 σ = some v) : X 28 [some (va_rf x0), some (va_rf x1), some (.long x2), none, none, none] [.long t0] σ := by
  rw [oj_X3_quotient_28] at h
  refine os_lstore hX dX3_quotient_28 (by decide) rfl ?_
  dsimp only [List.set]
  refine os_lload hX dX3_quotient_30 rfl ?_
  refine os_lconst (v := 0) hX dX3_quotient_32 (by decide) ?_
  refine os_lcmp hX dX3_quotient_33 ?_
  refine os_if_ne (tgt := 58) hX dX3_quotient_34 (by decide) (fun c1 => ?_) (fun c1 => ?_)
  · rw [if_neg c1] at h
    refine os_aload_n (r := x1) hX dX3_quotient_58 rfl rfl ?_
    obtain ⟨v2, e3, h⟩ := obn_e h
    refine ow_get (r := x1) hX dX3_quotient_59 oF_RX3_143 (ovi_e e3) ?_
    refine os_bipush (v := 47) hX dX3_quotient_62 (by decide) ?_
    refine os_icmp_ne (tgt := 76) hX dX3_quotient_64 (by decide) (fun c4 => ?_) (fun c4 => ?_)
    · rw [if_neg c4] at h
      refine os_lload_n hX dX3_quotient_76 rfl rfl ?_
      refine os_lload hX dX3_quotient_77 rfl ?_
      obtain ⟨r7, s5, e6, h⟩ := oln'_e h
      refine oc_RX3_260 (a1 := .long x2) (a2 := .long t0) hX dX3_quotient_79 (Nat.le_of_ble_eq_true rfl) (hc _ _ _ _ e6) ?_
      exact os_lret hX dX3_quotient_82 rfl (Option.some.inj h)
    · rw [if_pos c4] at h
      refine os_lload_n hX dX3_quotient_67 rfl rfl ?_
      refine os_lload hX dX3_quotient_68 rfl ?_
      obtain ⟨r10, s8, e9, h⟩ := oln'_e h
      refine oc_RX3_256 (a1 := .long x2) (a2 := .long t0) hX dX3_quotient_70 (Nat.le_of_ble_eq_true rfl) (hc _ _ _ _ e9) ?_
      refine os_goto (tgt := 82) hX dX3_quotient_73 (by decide) ?_
      exact os_lret hX dX3_quotient_82 rfl (Option.some.inj h)
  · rw [if_pos c1] at h
    refine os_aload_n (r := x0) hX dX3_quotient_37 rfl rfl ?_
    refine os_aload_n (r := x0) hX dX3_quotient_38 rfl rfl ?_
    obtain ⟨v11, e12, h⟩ := obn_e h
    refine ow_get (r := x0) hX dX3_quotient_39 oF_RX3_60 (ovi_e e12) ?_
    refine os_if_ne (tgt := 49) hX dX3_quotient_42 (by decide) (fun c13 => ?_) (fun c13 => ?_)
    · rw [if_neg c13] at h
      refine os_aload_n (r := x0) hX dX3_quotient_49 rfl rfl ?_
      obtain ⟨v14, e15, h⟩ := obn_e h
      refine ow_get (r := x0) hX dX3_quotient_50 oF_RX3_60 (ovi_e e15) ?_
      refine os_weak hX (lw := [none, none, none, none, none, none]) trivial ?_
      exact qj_X3_quotient_53 hX hc h
    · rw [if_pos c13] at h
      refine os_iconst (v := 4) hX dX3_quotient_45 (by decide) ?_
      refine os_goto (tgt := 53) hX dX3_quotient_46 (by decide) ?_
      refine os_weak hX (lw := [none, none, none, none, none, none]) trivial ?_
      exact qj_X3_quotient_53 hX hc h
set_option maxHeartbeats 4000000 in
theorem qb_X3_quotient {κ : oKv} {n : Nat} {call : oCl} {kc : Nat → List Value → oSt → Option Value × oSt → Prop} {v : Option Value × oSt} {X : Nat → zLv → List Value → oSt → Prop} (hX : oSem RX3 cX3_quotient 6 0 (some .long) κ kc v X) (hc : ∀ j av s w, call j av s = some w → kc j av s w) {x0 : Option Nat} {x1 : Option Nat} {σ : oSt} (h : ob_X3_quotient n call κ x0 x1 σ = some v) : X 0 [some (va_rf x0), some (va_rf x1), none, none, none, none] [] σ := by
  rw [ob_X3_quotient] at h
  refine os_aload_n (r := x0) hX dX3_quotient_0 rfl rfl ?_
  refine os_aload_n (r := x1) hX dX3_quotient_1 rfl rfl ?_
  obtain ⟨v1, e2, h⟩ := obn_e h
  refine ow_get (r := x1) hX dX3_quotient_2 oF_RX3_228 (ovr_e e2) ?_
  obtain ⟨a3, e4, h⟩ := obn_e h
  obtain ⟨r7, s5, e6, h⟩ := oln'_e h
  refine oc_RX3_212 (rb := x0) (a1 := va_rf v1) hX dX3_quotient_5 (Nat.le_of_ble_eq_true rfl) e4 (hc _ _ _ _ e6) ?_
  refine os_lstore_n hX dX3_quotient_8 rfl (by decide) (ozlo (i := 1) (r := x1) rfl) ?_
  dsimp only [List.set]
  refine os_aload_n (r := x0) hX dX3_quotient_9 rfl rfl ?_
  obtain ⟨v8, e9, h⟩ := obn_e h
  refine ow_get (r := x0) hX dX3_quotient_10 oF_RX3_60 (ovi_e e9) ?_
  refine os_if_ne (tgt := 27) hX dX3_quotient_13 (by decide) (fun c10 => ?_) (fun c10 => ?_)
  · rw [if_neg c10] at h
    refine os_lconst (v := 0) hX dX3_quotient_27 (by decide) ?_
    exact qj_X3_quotient_28 hX hc h
  · rw [if_pos c10] at h
    refine os_aload_n (r := x0) hX dX3_quotient_16 rfl rfl ?_
    refine os_aload_n (r := x1) hX dX3_quotient_17 rfl rfl ?_
    obtain ⟨v11, e12, h⟩ := obn_e h
    refine ow_get (r := x1) hX dX3_quotient_18 oF_RX3_225 (ovr_e e12) ?_
    obtain ⟨a13, e14, h⟩ := obn_e h
    obtain ⟨r17, s15, e16, h⟩ := oln'_e h
    refine oc_RX3_212 (rb := x0) (a1 := va_rf v11) hX dX3_quotient_21 (Nat.le_of_ble_eq_true rfl) e14 (hc _ _ _ _ e16) ?_
    refine os_goto (tgt := 28) hX dX3_quotient_24 (by decide) ?_
    exact qj_X3_quotient_28 hX hc h
theorem olk_X3_plain_4 {x : Int32} (h0 : ¬ x = 37) (h1 : ¬ x = 42) (h2 : ¬ x = 47) (h3 : ¬ x = 91) (h4 : ¬ x = 203) (h5 : ¬ x = 206) (h6 : ¬ x = 215) (h7 : ¬ x = 223) (h8 : ¬ x = 400) : Op.lookupswitch.offset (#[(37, 139), (42, 122), (47, 139), (91, 145), (203, 116), (206, 86), (215, 103), (223, 84), (400, 156)] : Array (Int × Int)).toList 185 x.toInt = 185 := by
  have a0 := z_ne h0 (k := 37) (by decide)
  have a1 := z_ne h1 (k := 42) (by decide)
  have a2 := z_ne h2 (k := 47) (by decide)
  have a3 := z_ne h3 (k := 91) (by decide)
  have a4 := z_ne h4 (k := 203) (by decide)
  have a5 := z_ne h5 (k := 206) (by decide)
  have a6 := z_ne h6 (k := 215) (by decide)
  have a7 := z_ne h7 (k := 223) (by decide)
  have a8 := z_ne h8 (k := 400) (by decide)
  simp [Op.lookupswitch.offset, a0, Ne.symm a0, a1, Ne.symm a1, a2, Ne.symm a2, a3, Ne.symm a3, a4, Ne.symm a4, a5, Ne.symm a5, a6, Ne.symm a6, a7, Ne.symm a7, a8, Ne.symm a8]
def ob_X3_plain (n : Nat) (call : oCl) (κ : oKv) (x0 : Option Nat) (x1 : Option Nat) (σ : oSt) : oRs :=
  obn (ovi (ofd σ x1 7 0)) fun v1 =>
  if v1 = 37 then
    obn (oob σ x0 5) fun a4 =>
    oln' (call 97 [va_rf x0, va_rf x1] σ) fun r8 s6 =>
    some (some (.long r8), s6)
  else
  if v1 = 42 then
    obn (ovr (ofd σ x1 7 15)) fun v10 =>
    obn (oob σ x0 5) fun a12 =>
    oln' (call 85 [va_rf x0, va_rf v10] σ) fun r16 s14 =>
    obn (ovr (ofd s14 x1 7 16)) fun v17 =>
    obn (oob s14 x0 5) fun a19 =>
    oln' (call 96 [va_rf x0, .long r16, va_rf v17] s14) fun r23 s21 =>
    some (some (.long r23), s21)
  else
  if v1 = 47 then
    obn (oob σ x0 5) fun a25 =>
    oln' (call 97 [va_rf x0, va_rf x1] σ) fun r29 s27 =>
    some (some (.long r29), s27)
  else
  if v1 = 91 then
    obn (ovr (ofd σ x0 5 4)) fun v31 =>
    obn (oob σ x0 5) fun a33 =>
    oin (call 88 [va_rf x0, va_rf x1] σ) fun r37 s35 =>
    obn (oaj s35 v31 r37) fun v38 =>
    some (some (.long v38), s35)
  else
  if v1 = 203 then
    obn (oob σ x0 5) fun a41 =>
    oln' (call 95 [va_rf x0, va_rf x1] σ) fun r45 s43 =>
    some (some (.long r45), s43)
  else
  if v1 = 206 then
    obn (ovi (ofd σ x1 7 7)) fun v47 =>
    obn (ovi (ofd σ x0 5 10)) fun v49 =>
    obn (oob σ x0 5) fun a51 =>
    oin (call 82 [va_rf x0, .long v47.toInt64, .long v49.toInt64, .long 0] σ) fun r55 s53 =>
    some (some (.long r55.toInt64), s53)
  else
  if v1 = 215 then
    obn (ovr (ofd σ x1 7 15)) fun v57 =>
    obn (oob σ x0 5) fun a59 =>
    oln' (call 85 [va_rf x0, va_rf v57] σ) fun r63 s61 =>
    obn (oob s61 x0 5) fun a64 =>
    oln' (call 94 [va_rf x0, .long r63] s61) fun r68 s66 =>
    some (some (.long r68), s66)
  else
  if v1 = 223 then
    some (some (.long 1), σ)
  else
  if v1 = 400 then
    obn (ovi (ofd σ x1 7 6)) fun v71 =>
    if v71 = 1 then
      obn (ovr (ofd σ x1 7 9)) fun v79 =>
      obn (ovi (ofd σ x1 7 2)) fun v81 =>
      obn (oob σ x0 5) fun a83 =>
      oln' (call 83 [va_rf x0, va_rf v79, .int v81] σ) fun r87 s85 =>
      some (some (.long r87), s85)
    else
      obn (oob σ x0 5) fun a74 =>
      oln' (call 85 [va_rf x0, va_rf x1] σ) fun r78 s76 =>
      some (some (.long r78), s76)
  else
  some (some (.long 0), σ)
set_option maxHeartbeats 4000000 in
theorem qb_X3_plain {κ : oKv} {n : Nat} {call : oCl} {kc : Nat → List Value → oSt → Option Value × oSt → Prop} {v : Option Value × oSt} {X : Nat → zLv → List Value → oSt → Prop} (hX : oSem RX3 cX3_plain 2 0 (some .long) κ kc v X) (hc : ∀ j av s w, call j av s = some w → kc j av s w) {x0 : Option Nat} {x1 : Option Nat} {σ : oSt} (h : ob_X3_plain n call κ x0 x1 σ = some v) : X 0 [some (va_rf x0), some (va_rf x1)] [] σ := by
  rw [ob_X3_plain] at h
  refine os_aload_n (r := x1) hX dX3_plain_0 rfl rfl ?_
  obtain ⟨v1, e2, h⟩ := obn_e h
  refine ow_get (r := x1) hX dX3_plain_1 oF_RX3_143 (ovi_e e2) ?_
  by_cases c3 : v1 = 37
  · rw [if_pos c3] at h
    refine os_lookup (tgt := 143) (off := 139) hX dX3_plain_4 (by decide) (by rw [c3]; rfl) (by decide) ?_
    refine os_aload_n (r := x0) hX dX3_plain_143 rfl rfl ?_
    refine os_aload_n (r := x1) hX dX3_plain_144 rfl rfl ?_
    obtain ⟨a4, e5, h⟩ := obn_e h
    obtain ⟨r8, s6, e7, h⟩ := oln'_e h
    refine oc_RX3_242 (rb := x0) (a1 := va_rf x1) hX dX3_plain_145 (Nat.le_of_ble_eq_true rfl) e5 (hc _ _ _ _ e7) ?_
    exact os_lret hX dX3_plain_148 rfl (Option.some.inj h)
  rw [if_neg c3] at h
  by_cases c9 : v1 = 42
  · rw [if_pos c9] at h
    refine os_lookup (tgt := 126) (off := 122) hX dX3_plain_4 (by decide) (by rw [c9]; rfl) (by decide) ?_
    refine os_aload_n (r := x0) hX dX3_plain_126 rfl rfl ?_
    refine os_aload_n (r := x0) hX dX3_plain_127 rfl rfl ?_
    refine os_aload_n (r := x1) hX dX3_plain_128 rfl rfl ?_
    obtain ⟨v10, e11, h⟩ := obn_e h
    refine ow_get (r := x1) hX dX3_plain_129 oF_RX3_228 (ovr_e e11) ?_
    obtain ⟨a12, e13, h⟩ := obn_e h
    obtain ⟨r16, s14, e15, h⟩ := oln'_e h
    refine oc_RX3_212 (rb := x0) (a1 := va_rf v10) hX dX3_plain_132 (by simp only [List.map_cons, List.map_nil, List.sum_cons, List.sum_nil, ocat]; exact Nat.le_of_ble_eq_true rfl) e13 (hc _ _ _ _ e15) ?_
    refine os_aload_n (r := x1) hX dX3_plain_135 rfl rfl ?_
    obtain ⟨v17, e18, h⟩ := obn_e h
    refine ow_get (r := x1) hX dX3_plain_136 oF_RX3_225 (ovr_e e18) ?_
    obtain ⟨a19, e20, h⟩ := obn_e h
    obtain ⟨r23, s21, e22, h⟩ := oln'_e h
    refine oc_RX3_238 (rb := x0) (a1 := .long r16) (a2 := va_rf v17) hX dX3_plain_139 (Nat.le_of_ble_eq_true rfl) e20 (hc _ _ _ _ e22) ?_
    exact os_lret hX dX3_plain_142 rfl (Option.some.inj h)
  rw [if_neg c9] at h
  by_cases c24 : v1 = 47
  · rw [if_pos c24] at h
    refine os_lookup (tgt := 143) (off := 139) hX dX3_plain_4 (by decide) (by rw [c24]; rfl) (by decide) ?_
    refine os_aload_n (r := x0) hX dX3_plain_143 rfl rfl ?_
    refine os_aload_n (r := x1) hX dX3_plain_144 rfl rfl ?_
    obtain ⟨a25, e26, h⟩ := obn_e h
    obtain ⟨r29, s27, e28, h⟩ := oln'_e h
    refine oc_RX3_242 (rb := x0) (a1 := va_rf x1) hX dX3_plain_145 (Nat.le_of_ble_eq_true rfl) e26 (hc _ _ _ _ e28) ?_
    exact os_lret hX dX3_plain_148 rfl (Option.some.inj h)
  rw [if_neg c24] at h
  by_cases c30 : v1 = 91
  · rw [if_pos c30] at h
    refine os_lookup (tgt := 149) (off := 145) hX dX3_plain_4 (by decide) (by rw [c30]; rfl) (by decide) ?_
    refine os_aload_n (r := x0) hX dX3_plain_149 rfl rfl ?_
    obtain ⟨v31, e32, h⟩ := obn_e h
    refine ow_get (r := x0) hX dX3_plain_150 oF_RX3_21 (ovr_e e32) ?_
    refine os_aload_n (r := x0) hX dX3_plain_153 rfl rfl ?_
    refine os_aload_n (r := x1) hX dX3_plain_154 rfl rfl ?_
    obtain ⟨a33, e34, h⟩ := obn_e h
    obtain ⟨r37, s35, e36, h⟩ := oin_e h
    refine oc_RX3_221 (rb := x0) (a1 := va_rf x1) hX dX3_plain_155 (by simp only [List.map_cons, List.map_nil, List.sum_cons, List.sum_nil, ocat]; exact Nat.le_of_ble_eq_true rfl) e34 (hc _ _ _ _ e36) ?_
    obtain ⟨v38, e39, h⟩ := obn_e h
    refine ow_aj (r := v31) (i := r37) hX dX3_plain_158 e39 ?_
    exact os_lret hX dX3_plain_159 rfl (Option.some.inj h)
  rw [if_neg c30] at h
  by_cases c40 : v1 = 203
  · rw [if_pos c40] at h
    refine os_lookup (tgt := 120) (off := 116) hX dX3_plain_4 (by decide) (by rw [c40]; rfl) (by decide) ?_
    refine os_aload_n (r := x0) hX dX3_plain_120 rfl rfl ?_
    refine os_aload_n (r := x1) hX dX3_plain_121 rfl rfl ?_
    obtain ⟨a41, e42, h⟩ := obn_e h
    obtain ⟨r45, s43, e44, h⟩ := oln'_e h
    refine oc_RX3_235 (rb := x0) (a1 := va_rf x1) hX dX3_plain_122 (Nat.le_of_ble_eq_true rfl) e42 (hc _ _ _ _ e44) ?_
    exact os_lret hX dX3_plain_125 rfl (Option.some.inj h)
  rw [if_neg c40] at h
  by_cases c46 : v1 = 206
  · rw [if_pos c46] at h
    refine os_lookup (tgt := 90) (off := 86) hX dX3_plain_4 (by decide) (by rw [c46]; rfl) (by decide) ?_
    refine os_aload_n (r := x0) hX dX3_plain_90 rfl rfl ?_
    refine os_aload_n (r := x1) hX dX3_plain_91 rfl rfl ?_
    obtain ⟨v47, e48, h⟩ := obn_e h
    refine ow_get (r := x1) hX dX3_plain_92 oF_RX3_153 (ovi_e e48) ?_
    refine os_i2l hX dX3_plain_95 ?_
    refine os_aload_n (r := x0) hX dX3_plain_96 rfl rfl ?_
    obtain ⟨v49, e50, h⟩ := obn_e h
    refine ow_get (r := x0) hX dX3_plain_97 oF_RX3_97 (ovi_e e50) ?_
    refine os_i2l hX dX3_plain_100 ?_
    refine os_lconst (v := 0) hX dX3_plain_101 (by decide) ?_
    obtain ⟨a51, e52, h⟩ := obn_e h
    obtain ⟨r55, s53, e54, h⟩ := oin_e h
    refine oc_RX3_156 (rb := x0) (a1 := .long v47.toInt64) (a2 := .long v49.toInt64) (a3 := .long 0) hX dX3_plain_102 (Nat.le_of_ble_eq_true rfl) e52 (hc _ _ _ _ e54) ?_
    refine os_i2l hX dX3_plain_105 ?_
    exact os_lret hX dX3_plain_106 rfl (Option.some.inj h)
  rw [if_neg c46] at h
  by_cases c56 : v1 = 215
  · rw [if_pos c56] at h
    refine os_lookup (tgt := 107) (off := 103) hX dX3_plain_4 (by decide) (by rw [c56]; rfl) (by decide) ?_
    refine os_aload_n (r := x0) hX dX3_plain_107 rfl rfl ?_
    refine os_aload_n (r := x0) hX dX3_plain_108 rfl rfl ?_
    refine os_aload_n (r := x1) hX dX3_plain_109 rfl rfl ?_
    obtain ⟨v57, e58, h⟩ := obn_e h
    refine ow_get (r := x1) hX dX3_plain_110 oF_RX3_228 (ovr_e e58) ?_
    obtain ⟨a59, e60, h⟩ := obn_e h
    obtain ⟨r63, s61, e62, h⟩ := oln'_e h
    refine oc_RX3_212 (rb := x0) (a1 := va_rf v57) hX dX3_plain_113 (by simp only [List.map_cons, List.map_nil, List.sum_cons, List.sum_nil, ocat]; exact Nat.le_of_ble_eq_true rfl) e60 (hc _ _ _ _ e62) ?_
    obtain ⟨a64, e65, h⟩ := obn_e h
    obtain ⟨r68, s66, e67, h⟩ := oln'_e h
    refine oc_RX3_231 (rb := x0) (a1 := .long r63) hX dX3_plain_116 (Nat.le_of_ble_eq_true rfl) e65 (hc _ _ _ _ e67) ?_
    exact os_lret hX dX3_plain_119 rfl (Option.some.inj h)
  rw [if_neg c56] at h
  by_cases c69 : v1 = 223
  · rw [if_pos c69] at h
    refine os_lookup (tgt := 88) (off := 84) hX dX3_plain_4 (by decide) (by rw [c69]; rfl) (by decide) ?_
    refine os_lconst (v := 1) hX dX3_plain_88 (by decide) ?_
    exact os_lret hX dX3_plain_89 rfl (Option.some.inj h)
  rw [if_neg c69] at h
  by_cases c70 : v1 = 400
  · rw [if_pos c70] at h
    refine os_lookup (tgt := 160) (off := 156) hX dX3_plain_4 (by decide) (by rw [c70]; rfl) (by decide) ?_
    refine os_aload_n (r := x1) hX dX3_plain_160 rfl rfl ?_
    obtain ⟨v71, e72, h⟩ := obn_e h
    refine ow_get (r := x1) hX dX3_plain_161 oF_RX3_209 (ovi_e e72) ?_
    refine os_iconst (v := 1) hX dX3_plain_164 (by decide) ?_
    refine os_icmp_ne (tgt := 183) hX dX3_plain_165 (by decide) (fun c73 => ?_) (fun c73 => ?_)
    · rw [if_neg c73] at h
      refine os_aload_n (r := x0) hX dX3_plain_183 rfl rfl ?_
      refine os_aload_n (r := x1) hX dX3_plain_184 rfl rfl ?_
      obtain ⟨a74, e75, h⟩ := obn_e h
      obtain ⟨r78, s76, e77, h⟩ := oln'_e h
      refine oc_RX3_212 (rb := x0) (a1 := va_rf x1) hX dX3_plain_185 (Nat.le_of_ble_eq_true rfl) e75 (hc _ _ _ _ e77) ?_
      exact os_lret hX dX3_plain_188 rfl (Option.some.inj h)
    · rw [if_pos c73] at h
      refine os_aload_n (r := x0) hX dX3_plain_168 rfl rfl ?_
      refine os_aload_n (r := x1) hX dX3_plain_169 rfl rfl ?_
      obtain ⟨v79, e80, h⟩ := obn_e h
      refine ow_get (r := x1) hX dX3_plain_170 oF_RX3_198 (ovr_e e80) ?_
      refine os_aload_n (r := x1) hX dX3_plain_173 rfl rfl ?_
      obtain ⟨v81, e82, h⟩ := obn_e h
      refine ow_get (r := x1) hX dX3_plain_174 oF_RX3_202 (ovi_e e82) ?_
      obtain ⟨a83, e84, h⟩ := obn_e h
      obtain ⟨r87, s85, e86, h⟩ := oln'_e h
      refine oc_RX3_205 (rb := x0) (a1 := va_rf v79) (a2 := .int v81) hX dX3_plain_177 (Nat.le_of_ble_eq_true rfl) e84 (hc _ _ _ _ e86) ?_
      refine os_goto (tgt := 188) hX dX3_plain_180 (by decide) ?_
      exact os_lret hX dX3_plain_188 rfl (Option.some.inj h)
  rw [if_neg c70] at h
  refine os_lookup (tgt := 189) (off := 185) hX dX3_plain_4 (by decide) (olk_X3_plain_4 c3 c9 c24 c30 c40 c46 c56 c69 c70) (by decide) ?_
  refine os_lconst (v := 0) hX dX3_plain_189 (by decide) ?_
  exact os_lret hX dX3_plain_190 rfl (Option.some.inj h)
theorem olk_X3_start_28 {x : Int32} (h0 : ¬ x = 40) (h1 : ¬ x = 201) (h2 : ¬ x = 207) (h3 : ¬ x = 212) (h4 : ¬ x = 214) (h5 : ¬ x = 219) (h6 : ¬ x = 220) (h7 : ¬ x = 401) : Op.lookupswitch.offset (#[(40, 203), (201, 159), (207, 136), (212, 76), (214, 197), (219, 91), (220, 187), (401, 208)] : Array (Int × Int)).toList 214 x.toInt = 214 := by
  have a0 := z_ne h0 (k := 40) (by decide)
  have a1 := z_ne h1 (k := 201) (by decide)
  have a2 := z_ne h2 (k := 207) (by decide)
  have a3 := z_ne h3 (k := 212) (by decide)
  have a4 := z_ne h4 (k := 214) (by decide)
  have a5 := z_ne h5 (k := 219) (by decide)
  have a6 := z_ne h6 (k := 220) (by decide)
  have a7 := z_ne h7 (k := 401) (by decide)
  simp [Op.lookupswitch.offset, a0, Ne.symm a0, a1, Ne.symm a1, a2, Ne.symm a2, a3, Ne.symm a3, a4, Ne.symm a4, a5, Ne.symm a5, a6, Ne.symm a6, a7, Ne.symm a7]
def oj_X3_start_210 (n : Nat) (call : oCl) (κ : oKv) (x1 : Option Nat) (σ : oSt) : oRs :=
  obn (ovr (ofd σ x1 7 12)) fun v1 =>
  some (some (va_rf v1), σ)
def ob_X3_start (n : Nat) (call : oCl) (κ : oKv) (x0 : Option Nat) (x1 : Option Nat) (σ : oSt) : oRs :=
  obn (ovi (ofd σ x0 5 11)) fun v1 =>
  if v1 = 0 then
    obn (opf σ x0 5 12 (.int 1)) fun s104 =>
    some (some (va_rf none), s104)
  else
    obn (ovi (ofd σ x0 5 11)) fun v4 =>
    obn (opf σ x0 5 11 (.int (v4 - 1))) fun s6 =>
    obn (ovi (ofd s6 x1 7 0)) fun v8 =>
    if v8 = 40 then
      obn (ovr (ofd s6 x1 7 12)) fun v11 =>
      some (some (va_rf v11), s6)
    else
    if v8 = 201 then
      obn (ovr (ofd s6 x1 7 14)) fun v14 =>
      obn (oob s6 x0 5) fun a16 =>
      oin (call 87 [va_rf x0, va_rf v14] s6) fun r20 s18 =>
      if r20 = 0 then
        obn (ovi (ofd s18 x0 5 12)) fun v22 =>
        if v22 = 0 then
          obn (opf s18 x0 5 12 (.int 3)) fun s25 =>
          oj_X3_start_210 n call κ x1 s25
        else
          oj_X3_start_210 n call κ x1 s18
      else
        oj_X3_start_210 n call κ x1 s18
    else
    if v8 = 207 then
      obn (ovr (ofd s6 x1 7 14)) fun v28 =>
      obn (oob s6 x0 5) fun a30 =>
      oin (call 87 [va_rf x0, va_rf v28] s6) fun r34 s32 =>
      if r34 = 0 then
        obn (ovr (ofd s32 x1 7 13)) fun v36 =>
        some (some (va_rf v36), s32)
      else
        obn (ovr (ofd s32 x1 7 12)) fun v38 =>
        some (some (va_rf v38), s32)
    else
    if v8 = 212 then
      obn (ovi (ofd s6 x0 5 10)) fun v41 =>
      obn (oob s6 x0 5) fun a43 =>
      ocv (call 81 [va_rf x0, va_rf x1, .int v41, .int 0] s6) fun s45 =>
      obn (ovr (ofd s45 x1 7 12)) fun v48 =>
      some (some (va_rf v48), s45)
    else
    if v8 = 214 then
      obn (oob s6 x0 5) fun a51 =>
      orn (call 90 [va_rf x0, va_rf x1] s6) fun r55 s53 =>
      some (some (va_rf r55), s53)
    else
    if v8 = 219 then
      obn (ovi (ofd s6 x0 5 10)) fun v57 =>
      obn (oob s6 x0 5) fun a59 =>
      oin (call 79 [va_rf x0, .long 0, .int v57] s6) fun r63 s61 =>
      obn (opf s61 x0 5 10 (.int r63)) fun s64 =>
      obn (ovi (ofd s64 x1 7 7)) fun v66 =>
      obn (ovi (ofd s64 x0 5 10)) fun v68 =>
      obn (oob s64 x0 5) fun a70 =>
      oin (call 82 [va_rf x0, .long v66.toInt64, .long v68.toInt64, .long 0] s64) fun r74 s72 =>
      obn (ovr (ofd s72 x0 5 4)) fun v75 =>
      obn (ovi (ofd s72 x0 5 10)) fun v77 =>
      obn (osj s72 v75 v77 r74.toInt64) fun s79 =>
      obn (ovr (ofd s79 x1 7 13)) fun v81 =>
      some (some (va_rf v81), s79)
    else
    if v8 = 220 then
      obn (oob s6 x0 5) fun a84 =>
      ocv (call 89 [va_rf x0, va_rf x1] s6) fun s86 =>
      obn (ovr (ofd s86 x1 7 12)) fun v89 =>
      some (some (va_rf v89), s86)
    else
    if v8 = 401 then
      obn (oob s6 x0 5) fun a92 =>
      orn (call 93 [va_rf x0, va_rf x1] s6) fun r96 s94 =>
      some (some (va_rf r96), s94)
    else
    obn (oob s6 x0 5) fun a97 =>
    oln' (call 98 [va_rf x0, va_rf x1] s6) fun r101 s99 =>
    obn (opf s99 x0 5 15 (.long r101)) fun s102 =>
    some (some (va_rf none), s102)
set_option maxHeartbeats 4000000 in
theorem qj_X3_start_210 {κ : oKv} {n : Nat} {call : oCl} {kc : Nat → List Value → oSt → Option Value × oSt → Prop} {v : Option Value × oSt} {X : Nat → zLv → List Value → oSt → Prop} (hX : oSem RX3 cX3_start 3 0 (some (.object "LiquidTongue$Node")) κ kc v X) (hc : ∀ j av s w, call j av s = some w → kc j av s w) {x1 : Option Nat} {σ : oSt} (h : oj_X3_start_210 n call κ x1 σ = some v) : X 210 [none, some (va_rf x1), none] [] σ := by
  rw [oj_X3_start_210] at h
  refine os_aload_n (r := x1) hX dX3_start_210 rfl rfl ?_
  obtain ⟨v1, e2, h⟩ := obn_e h
  refine ow_get (r := x1) hX dX3_start_211 oF_RX3_150 (ovr_e e2) ?_
  exact os_aret (r := v1) hX dX3_start_214 rfl (Option.some.inj h)
set_option maxHeartbeats 4000000 in
theorem qb_X3_start {κ : oKv} {n : Nat} {call : oCl} {kc : Nat → List Value → oSt → Option Value × oSt → Prop} {v : Option Value × oSt} {X : Nat → zLv → List Value → oSt → Prop} (hX : oSem RX3 cX3_start 3 0 (some (.object "LiquidTongue$Node")) κ kc v X) (hc : ∀ j av s w, call j av s = some w → kc j av s w) {x0 : Option Nat} {x1 : Option Nat} {σ : oSt} (h : ob_X3_start n call κ x0 x1 σ = some v) : X 0 [some (va_rf x0), some (va_rf x1), none] [] σ := by
  rw [ob_X3_start] at h
  refine os_aload_n (r := x0) hX dX3_start_0 rfl rfl ?_
  obtain ⟨v1, e2, h⟩ := obn_e h
  refine ow_get (r := x0) hX dX3_start_1 oF_RX3_57 (ovi_e e2) ?_
  refine os_if_ne (tgt := 14) hX dX3_start_4 (by decide) (fun c3 => ?_) (fun c3 => ?_)
  · rw [if_neg c3] at h
    refine os_aload_n (r := x0) hX dX3_start_14 rfl rfl ?_
    refine os_dup hX dX3_start_15 (ocat x0) ?_
    obtain ⟨v4, e5, h⟩ := obn_e h
    refine ow_get (r := x0) hX dX3_start_16 oF_RX3_57 (ovi_e e5) ?_
    refine os_iconst (v := 1) hX dX3_start_19 (by decide) ?_
    refine os_isub hX dX3_start_20 ?_
    obtain ⟨s6, e7, h⟩ := obn_e h
    refine ow_put (r := x0) (x := .int (v4 - 1)) hX dX3_start_21 oF_RX3_57 (by decide) (opn_I oT_5_11) e7 ?_
    refine os_aload_n (r := x1) hX dX3_start_24 rfl rfl ?_
    obtain ⟨v8, e9, h⟩ := obn_e h
    refine ow_get (r := x1) hX dX3_start_25 oF_RX3_143 (ovi_e e9) ?_
    by_cases c10 : v8 = 40
    · rw [if_pos c10] at h
      refine os_lookup (tgt := 231) (off := 203) hX dX3_start_28 (by decide) (by rw [c10]; rfl) (by decide) ?_
      refine os_aload_n (r := x1) hX dX3_start_231 rfl rfl ?_
      obtain ⟨v11, e12, h⟩ := obn_e h
      refine ow_get (r := x1) hX dX3_start_232 oF_RX3_150 (ovr_e e12) ?_
      exact os_aret (r := v11) hX dX3_start_235 rfl (Option.some.inj h)
    rw [if_neg c10] at h
    by_cases c13 : v8 = 201
    · rw [if_pos c13] at h
      refine os_lookup (tgt := 187) (off := 159) hX dX3_start_28 (by decide) (by rw [c13]; rfl) (by decide) ?_
      refine os_aload_n (r := x0) hX dX3_start_187 rfl rfl ?_
      refine os_aload_n (r := x1) hX dX3_start_188 rfl rfl ?_
      obtain ⟨v14, e15, h⟩ := obn_e h
      refine ow_get (r := x1) hX dX3_start_189 oF_RX3_163 (ovr_e e15) ?_
      obtain ⟨a16, e17, h⟩ := obn_e h
      obtain ⟨r20, s18, e19, h⟩ := oin_e h
      refine oc_RX3_166 (rb := x0) (a1 := va_rf v14) hX dX3_start_192 (Nat.le_of_ble_eq_true rfl) e17 (hc _ _ _ _ e19) ?_
      refine os_if_ne (tgt := 210) hX dX3_start_195 (by decide) (fun c21 => ?_) (fun c21 => ?_)
      · rw [if_neg c21] at h
        refine os_weak hX (lw := [none, some (va_rf x1), none]) ⟨rfl, trivial⟩ ?_
        exact qj_X3_start_210 hX hc h
      · rw [if_pos c21] at h
        refine os_aload_n (r := x0) hX dX3_start_198 rfl rfl ?_
        obtain ⟨v22, e23, h⟩ := obn_e h
        refine ow_get (r := x0) hX dX3_start_199 oF_RX3_60 (ovi_e e23) ?_
        refine os_if_ne (tgt := 210) hX dX3_start_202 (by decide) (fun c24 => ?_) (fun c24 => ?_)
        · rw [if_neg c24] at h
          refine os_weak hX (lw := [none, some (va_rf x1), none]) ⟨rfl, trivial⟩ ?_
          exact qj_X3_start_210 hX hc h
        · rw [if_pos c24] at h
          refine os_aload_n (r := x0) hX dX3_start_205 rfl rfl ?_
          refine os_iconst (v := 3) hX dX3_start_206 (by decide) ?_
          obtain ⟨s25, e26, h⟩ := obn_e h
          refine ow_put (r := x0) (x := .int 3) hX dX3_start_207 oF_RX3_60 (by decide) (opn_I oT_5_12) e26 ?_
          refine os_weak hX (lw := [none, some (va_rf x1), none]) ⟨rfl, trivial⟩ ?_
          exact qj_X3_start_210 hX hc h
    rw [if_neg c13] at h
    by_cases c27 : v8 = 207
    · rw [if_pos c27] at h
      refine os_lookup (tgt := 164) (off := 136) hX dX3_start_28 (by decide) (by rw [c27]; rfl) (by decide) ?_
      refine os_aload_n (r := x0) hX dX3_start_164 rfl rfl ?_
      refine os_aload_n (r := x1) hX dX3_start_165 rfl rfl ?_
      obtain ⟨v28, e29, h⟩ := obn_e h
      refine ow_get (r := x1) hX dX3_start_166 oF_RX3_163 (ovr_e e29) ?_
      obtain ⟨a30, e31, h⟩ := obn_e h
      obtain ⟨r34, s32, e33, h⟩ := oin_e h
      refine oc_RX3_166 (rb := x0) (a1 := va_rf v28) hX dX3_start_169 (Nat.le_of_ble_eq_true rfl) e31 (hc _ _ _ _ e33) ?_
      refine os_if_eq (tgt := 182) hX dX3_start_172 (by decide) (fun c35 => ?_) (fun c35 => ?_)
      · rw [if_pos c35] at h
        refine os_aload_n (r := x1) hX dX3_start_182 rfl rfl ?_
        obtain ⟨v36, e37, h⟩ := obn_e h
        refine ow_get (r := x1) hX dX3_start_183 oF_RX3_160 (ovr_e e37) ?_
        exact os_aret (r := v36) hX dX3_start_186 rfl (Option.some.inj h)
      · rw [if_neg c35] at h
        refine os_aload_n (r := x1) hX dX3_start_175 rfl rfl ?_
        obtain ⟨v38, e39, h⟩ := obn_e h
        refine ow_get (r := x1) hX dX3_start_176 oF_RX3_150 (ovr_e e39) ?_
        refine os_goto (tgt := 186) hX dX3_start_179 (by decide) ?_
        exact os_aret (r := v38) hX dX3_start_186 rfl (Option.some.inj h)
    rw [if_neg c27] at h
    by_cases c40 : v8 = 212
    · rw [if_pos c40] at h
      refine os_lookup (tgt := 104) (off := 76) hX dX3_start_28 (by decide) (by rw [c40]; rfl) (by decide) ?_
      refine os_aload_n (r := x0) hX dX3_start_104 rfl rfl ?_
      refine os_aload_n (r := x1) hX dX3_start_105 rfl rfl ?_
      refine os_aload_n (r := x0) hX dX3_start_106 rfl rfl ?_
      obtain ⟨v41, e42, h⟩ := obn_e h
      refine ow_get (r := x0) hX dX3_start_107 oF_RX3_97 (ovi_e e42) ?_
      refine os_iconst (v := 0) hX dX3_start_110 (by decide) ?_
      obtain ⟨a43, e44, h⟩ := obn_e h
      obtain ⟨s45, e46, h⟩ := ocv_e h
      refine oc_RX3_146 (rb := x0) (a1 := va_rf x1) (a2 := .int v41) (a3 := .int 0) hX dX3_start_111 (Nat.le_of_ble_eq_true rfl) e44 (hc _ _ _ _ e46) ?_
      refine os_aload_n (r := x1) hX dX3_start_114 rfl rfl ?_
      obtain ⟨v48, e49, h⟩ := obn_e h
      refine ow_get (r := x1) hX dX3_start_115 oF_RX3_150 (ovr_e e49) ?_
      exact os_aret (r := v48) hX dX3_start_118 rfl (Option.some.inj h)
    rw [if_neg c40] at h
    by_cases c50 : v8 = 214
    · rw [if_pos c50] at h
      refine os_lookup (tgt := 225) (off := 197) hX dX3_start_28 (by decide) (by rw [c50]; rfl) (by decide) ?_
      refine os_aload_n (r := x0) hX dX3_start_225 rfl rfl ?_
      refine os_aload_n (r := x1) hX dX3_start_226 rfl rfl ?_
      obtain ⟨a51, e52, h⟩ := obn_e h
      obtain ⟨r55, s53, e54, h⟩ := orn_e h
      refine oc_RX3_174 (rb := x0) (a1 := va_rf x1) hX dX3_start_227 (Nat.le_of_ble_eq_true rfl) e52 (hc _ _ _ _ e54) ?_
      exact os_aret (r := r55) hX dX3_start_230 rfl (Option.some.inj h)
    rw [if_neg c50] at h
    by_cases c56 : v8 = 219
    · rw [if_pos c56] at h
      refine os_lookup (tgt := 119) (off := 91) hX dX3_start_28 (by decide) (by rw [c56]; rfl) (by decide) ?_
      refine os_aload_n (r := x0) hX dX3_start_119 rfl rfl ?_
      refine os_aload_n (r := x0) hX dX3_start_120 rfl rfl ?_
      refine os_lconst (v := 0) hX dX3_start_121 (by decide) ?_
      refine os_aload_n (r := x0) hX dX3_start_122 rfl rfl ?_
      obtain ⟨v57, e58, h⟩ := obn_e h
      refine ow_get (r := x0) hX dX3_start_123 oF_RX3_97 (ovi_e e58) ?_
      obtain ⟨a59, e60, h⟩ := obn_e h
      obtain ⟨r63, s61, e62, h⟩ := oin_e h
      refine oc_RX3_128 (rb := x0) (a1 := .long 0) (a2 := .int v57) hX dX3_start_126 (by simp only [List.map_cons, List.map_nil, List.sum_cons, List.sum_nil, ocat]; exact Nat.le_of_ble_eq_true rfl) e60 (hc _ _ _ _ e62) ?_
      obtain ⟨s64, e65, h⟩ := obn_e h
      refine ow_put (r := x0) (x := .int r63) hX dX3_start_129 oF_RX3_97 (by decide) (opn_I oT_5_10) e65 ?_
      refine os_aload_n (r := x0) hX dX3_start_132 rfl rfl ?_
      refine os_aload_n (r := x1) hX dX3_start_133 rfl rfl ?_
      obtain ⟨v66, e67, h⟩ := obn_e h
      refine ow_get (r := x1) hX dX3_start_134 oF_RX3_153 (ovi_e e67) ?_
      refine os_i2l hX dX3_start_137 ?_
      refine os_aload_n (r := x0) hX dX3_start_138 rfl rfl ?_
      obtain ⟨v68, e69, h⟩ := obn_e h
      refine ow_get (r := x0) hX dX3_start_139 oF_RX3_97 (ovi_e e69) ?_
      refine os_i2l hX dX3_start_142 ?_
      refine os_lconst (v := 0) hX dX3_start_143 (by decide) ?_
      obtain ⟨a70, e71, h⟩ := obn_e h
      obtain ⟨r74, s72, e73, h⟩ := oin_e h
      refine oc_RX3_156 (rb := x0) (a1 := .long v66.toInt64) (a2 := .long v68.toInt64) (a3 := .long 0) hX dX3_start_144 (Nat.le_of_ble_eq_true rfl) e71 (hc _ _ _ _ e73) ?_
      refine os_istore_n hX dX3_start_147 rfl (by decide) (ozlo (i := 1) (r := x1) rfl) ?_
      dsimp only [List.set]
      refine os_aload_n (r := x0) hX dX3_start_148 rfl rfl ?_
      obtain ⟨v75, e76, h⟩ := obn_e h
      refine ow_get (r := x0) hX dX3_start_149 oF_RX3_21 (ovr_e e76) ?_
      refine os_aload_n (r := x0) hX dX3_start_152 rfl rfl ?_
      obtain ⟨v77, e78, h⟩ := obn_e h
      refine ow_get (r := x0) hX dX3_start_153 oF_RX3_97 (ovi_e e78) ?_
      refine os_iload_n hX dX3_start_156 rfl rfl ?_
      refine os_i2l hX dX3_start_157 ?_
      obtain ⟨s79, e80, h⟩ := obn_e h
      refine ow_sj (r := v75) (i := v77) (x := r74.toInt64) hX dX3_start_158 e80 ?_
      refine os_aload_n (r := x1) hX dX3_start_159 rfl rfl ?_
      obtain ⟨v81, e82, h⟩ := obn_e h
      refine ow_get (r := x1) hX dX3_start_160 oF_RX3_160 (ovr_e e82) ?_
      exact os_aret (r := v81) hX dX3_start_163 rfl (Option.some.inj h)
    rw [if_neg c56] at h
    by_cases c83 : v8 = 220
    · rw [if_pos c83] at h
      refine os_lookup (tgt := 215) (off := 187) hX dX3_start_28 (by decide) (by rw [c83]; rfl) (by decide) ?_
      refine os_aload_n (r := x0) hX dX3_start_215 rfl rfl ?_
      refine os_aload_n (r := x1) hX dX3_start_216 rfl rfl ?_
      obtain ⟨a84, e85, h⟩ := obn_e h
      obtain ⟨s86, e87, h⟩ := ocv_e h
      refine oc_RX3_170 (rb := x0) (a1 := va_rf x1) hX dX3_start_217 (Nat.le_of_ble_eq_true rfl) e85 (hc _ _ _ _ e87) ?_
      refine os_aload_n (r := x1) hX dX3_start_220 rfl rfl ?_
      obtain ⟨v89, e90, h⟩ := obn_e h
      refine ow_get (r := x1) hX dX3_start_221 oF_RX3_150 (ovr_e e90) ?_
      exact os_aret (r := v89) hX dX3_start_224 rfl (Option.some.inj h)
    rw [if_neg c83] at h
    by_cases c91 : v8 = 401
    · rw [if_pos c91] at h
      refine os_lookup (tgt := 236) (off := 208) hX dX3_start_28 (by decide) (by rw [c91]; rfl) (by decide) ?_
      refine os_aload_n (r := x0) hX dX3_start_236 rfl rfl ?_
      refine os_aload_n (r := x1) hX dX3_start_237 rfl rfl ?_
      obtain ⟨a92, e93, h⟩ := obn_e h
      obtain ⟨r96, s94, e95, h⟩ := orn_e h
      refine oc_RX3_177 (rb := x0) (a1 := va_rf x1) hX dX3_start_238 (Nat.le_of_ble_eq_true rfl) e93 (hc _ _ _ _ e95) ?_
      exact os_aret (r := r96) hX dX3_start_241 rfl (Option.some.inj h)
    rw [if_neg c91] at h
    refine os_lookup (tgt := 242) (off := 214) hX dX3_start_28 (by decide) (olk_X3_start_28 c10 c13 c27 c40 c50 c56 c83 c91) (by decide) ?_
    refine os_aload_n (r := x0) hX dX3_start_242 rfl rfl ?_
    refine os_aload_n (r := x0) hX dX3_start_243 rfl rfl ?_
    refine os_aload_n (r := x1) hX dX3_start_244 rfl rfl ?_
    obtain ⟨a97, e98, h⟩ := obn_e h
    obtain ⟨r101, s99, e100, h⟩ := oln'_e h
    refine oc_RX3_180 (rb := x0) (a1 := va_rf x1) hX dX3_start_245 (by simp only [List.map_cons, List.map_nil, List.sum_cons, List.sum_nil, ocat]; exact Nat.le_of_ble_eq_true rfl) e98 (hc _ _ _ _ e100) ?_
    obtain ⟨s102, e103, h⟩ := obn_e h
    refine ow_put (r := x0) (x := .long r101) hX dX3_start_248 oF_RX3_87 (by decide) (opn_J oT_5_15) e103 ?_
    refine os_null hX dX3_start_251 ?_
    exact os_aret (r := none) hX dX3_start_252 rfl (Option.some.inj h)
  · rw [if_pos c3] at h
    refine os_aload_n (r := x0) hX dX3_start_7 rfl rfl ?_
    refine os_iconst (v := 1) hX dX3_start_8 (by decide) ?_
    obtain ⟨s104, e105, h⟩ := obn_e h
    refine ow_put (r := x0) (x := .int 1) hX dX3_start_9 oF_RX3_60 (by decide) (opn_I oT_5_12) e105 ?_
    refine os_null hX dX3_start_12 ?_
    exact os_aret (r := none) hX dX3_start_13 rfl (Option.some.inj h)
def ob_X3_resume (n : Nat) (call : oCl) (κ : oKv) (x0 : Option Nat) (σ : oSt) : oRs :=
  obn (ovi (ofd σ x0 5 9)) fun v1 =>
  obn (opf σ x0 5 9 (.int (v1 - 1))) fun s3 =>
  obn (ovr (ofd s3 x0 5 6)) fun v5 =>
  obn (ovi (ofd s3 x0 5 9)) fun v7 =>
  obn (oar s3 v5 v7) fun v9 =>
  if v9 = none then
    obn (ovi (ofd s3 x0 5 13)) fun v12 =>
    obn (opf s3 x0 5 13 (.int (v12 - 1))) fun s14 =>
    obn (ovr (ofd s14 x0 5 8)) fun v16 =>
    obn (ovi (ofd s14 x0 5 9)) fun v18 =>
    obn (oai s14 v16 .int v18) fun v20 =>
    if v20 = 0 then
      some (some (va_rf none), s14)
    else
      obn (ovl (ofd s14 x0 5 15)) fun v23 =>
      obn (oob s14 x0 5) fun a25 =>
      orn (call 92 [va_rf x0, .int v23.toInt32, .int v20] s14) fun r29 s27 =>
      some (some (va_rf r29), s27)
  else
    obn (ovl (ofd s3 x0 5 15)) fun v30 =>
    obn (ovr (ofd s3 x0 5 7)) fun v32 =>
    obn (ovi (ofd s3 x0 5 9)) fun v34 =>
    obn (oai s3 v32 .int v34) fun v36 =>
    obn (oob s3 x0 5) fun a38 =>
    oin (call 79 [va_rf x0, .long v30, .int v36] s3) fun r42 s40 =>
    obn (opf s40 x0 5 10 (.int r42)) fun s43 =>
    obn (ovr (ofd s43 v9 7 13)) fun v45 =>
    some (some (va_rf v45), s43)
set_option maxHeartbeats 4000000 in
theorem qb_X3_resume {κ : oKv} {n : Nat} {call : oCl} {kc : Nat → List Value → oSt → Option Value × oSt → Prop} {v : Option Value × oSt} {X : Nat → zLv → List Value → oSt → Prop} (hX : oSem RX3 cX3_resume 3 0 (some (.object "LiquidTongue$Node")) κ kc v X) (hc : ∀ j av s w, call j av s = some w → kc j av s w) {x0 : Option Nat} {σ : oSt} (h : ob_X3_resume n call κ x0 σ = some v) : X 0 [some (va_rf x0), none, none] [] σ := by
  rw [ob_X3_resume] at h
  refine os_aload_n (r := x0) hX dX3_resume_0 rfl rfl ?_
  refine os_dup hX dX3_resume_1 (ocat x0) ?_
  obtain ⟨v1, e2, h⟩ := obn_e h
  refine ow_get (r := x0) hX dX3_resume_2 oF_RX3_73 (ovi_e e2) ?_
  refine os_iconst (v := 1) hX dX3_resume_5 (by decide) ?_
  refine os_isub hX dX3_resume_6 ?_
  obtain ⟨s3, e4, h⟩ := obn_e h
  refine ow_put (r := x0) (x := .int (v1 - 1)) hX dX3_resume_7 oF_RX3_73 (by decide) (opn_I oT_5_9) e4 ?_
  refine os_aload_n (r := x0) hX dX3_resume_10 rfl rfl ?_
  obtain ⟨v5, e6, h⟩ := obn_e h
  refine ow_get (r := x0) hX dX3_resume_11 oF_RX3_26 (ovr_e e6) ?_
  refine os_aload_n (r := x0) hX dX3_resume_14 rfl rfl ?_
  obtain ⟨v7, e8, h⟩ := obn_e h
  refine ow_get (r := x0) hX dX3_resume_15 oF_RX3_73 (ovi_e e8) ?_
  obtain ⟨v9, e10, h⟩ := obn_e h
  refine ow_ar (r := v5) (i := v7) hX dX3_resume_18 e10 ?_
  refine os_astore_n (r := v9) hX dX3_resume_19 rfl (by decide) (ozlo (i := 0) (r := x0) rfl) ?_
  dsimp only [List.set]
  refine os_aload_n (r := v9) hX dX3_resume_20 rfl rfl ?_
  refine os_ifnull (r := v9) (tgt := 50) hX dX3_resume_21 (by decide) (fun c11 => ?_) (fun c11 => ?_)
  · rw [if_pos c11] at h
    refine os_aload_n (r := x0) hX dX3_resume_50 rfl rfl ?_
    refine os_dup hX dX3_resume_51 (ocat x0) ?_
    obtain ⟨v12, e13, h⟩ := obn_e h
    refine ow_get (r := x0) hX dX3_resume_52 oF_RX3_100 (ovi_e e13) ?_
    refine os_iconst (v := 1) hX dX3_resume_55 (by decide) ?_
    refine os_isub hX dX3_resume_56 ?_
    obtain ⟨s14, e15, h⟩ := obn_e h
    refine ow_put (r := x0) (x := .int (v12 - 1)) hX dX3_resume_57 oF_RX3_100 (by decide) (opn_I oT_5_13) e15 ?_
    refine os_aload_n (r := x0) hX dX3_resume_60 rfl rfl ?_
    obtain ⟨v16, e17, h⟩ := obn_e h
    refine ow_get (r := x0) hX dX3_resume_61 oF_RX3_33 (ovr_e e17) ?_
    refine os_aload_n (r := x0) hX dX3_resume_64 rfl rfl ?_
    obtain ⟨v18, e19, h⟩ := obn_e h
    refine ow_get (r := x0) hX dX3_resume_65 oF_RX3_73 (ovi_e e19) ?_
    obtain ⟨v20, e21, h⟩ := obn_e h
    refine ow_ai (r := v16) (i := v18) hX dX3_resume_68 e21 ?_
    refine os_istore_n hX dX3_resume_69 rfl (by decide) (ozlo (i := 1) (r := v9) rfl) ?_
    dsimp only [List.set]
    refine os_iload_n hX dX3_resume_70 rfl rfl ?_
    refine os_if_ne (tgt := 78) hX dX3_resume_71 (by decide) (fun c22 => ?_) (fun c22 => ?_)
    · rw [if_neg c22] at h
      refine os_aload_n (r := x0) hX dX3_resume_78 rfl rfl ?_
      refine os_aload_n (r := x0) hX dX3_resume_79 rfl rfl ?_
      obtain ⟨v23, e24, h⟩ := obn_e h
      refine ow_get (r := x0) hX dX3_resume_80 oF_RX3_87 (ovl_e e24) ?_
      refine os_l2i hX dX3_resume_83 ?_
      refine os_iload_n hX dX3_resume_84 rfl rfl ?_
      obtain ⟨a25, e26, h⟩ := obn_e h
      obtain ⟨r29, s27, e28, h⟩ := orn_e h
      refine oc_RX3_184 (rb := x0) (a1 := .int v23.toInt32) (a2 := .int v20) hX dX3_resume_85 (Nat.le_of_ble_eq_true rfl) e26 (hc _ _ _ _ e28) ?_
      exact os_aret (r := r29) hX dX3_resume_88 rfl (Option.some.inj h)
    · rw [if_pos c22] at h
      refine os_null hX dX3_resume_74 ?_
      refine os_goto (tgt := 88) hX dX3_resume_75 (by decide) ?_
      exact os_aret (r := none) hX dX3_resume_88 rfl (Option.some.inj h)
  · rw [if_neg c11] at h
    refine os_aload_n (r := x0) hX dX3_resume_24 rfl rfl ?_
    refine os_aload_n (r := x0) hX dX3_resume_25 rfl rfl ?_
    refine os_aload_n (r := x0) hX dX3_resume_26 rfl rfl ?_
    obtain ⟨v30, e31, h⟩ := obn_e h
    refine ow_get (r := x0) hX dX3_resume_27 oF_RX3_87 (ovl_e e31) ?_
    refine os_aload_n (r := x0) hX dX3_resume_30 rfl rfl ?_
    obtain ⟨v32, e33, h⟩ := obn_e h
    refine ow_get (r := x0) hX dX3_resume_31 oF_RX3_30 (ovr_e e33) ?_
    refine os_aload_n (r := x0) hX dX3_resume_34 rfl rfl ?_
    obtain ⟨v34, e35, h⟩ := obn_e h
    refine ow_get (r := x0) hX dX3_resume_35 oF_RX3_73 (ovi_e e35) ?_
    obtain ⟨v36, e37, h⟩ := obn_e h
    refine ow_ai (r := v32) (i := v34) hX dX3_resume_38 e37 ?_
    obtain ⟨a38, e39, h⟩ := obn_e h
    obtain ⟨r42, s40, e41, h⟩ := oin_e h
    refine oc_RX3_128 (rb := x0) (a1 := .long v30) (a2 := .int v36) hX dX3_resume_39 (by simp only [List.map_cons, List.map_nil, List.sum_cons, List.sum_nil, ocat]; exact Nat.le_of_ble_eq_true rfl) e39 (hc _ _ _ _ e41) ?_
    obtain ⟨s43, e44, h⟩ := obn_e h
    refine ow_put (r := x0) (x := .int r42) hX dX3_resume_42 oF_RX3_97 (by decide) (opn_I oT_5_10) e44 ?_
    refine os_aload_n (r := v9) hX dX3_resume_45 rfl rfl ?_
    obtain ⟨v45, e46, h⟩ := obn_e h
    refine ow_get (r := v9) hX dX3_resume_46 oF_RX3_160 (ovr_e e46) ?_
    exact os_aret (r := v45) hX dX3_resume_49 rfl (Option.some.inj h)
def oj_X3_go_105 (n : Nat) (call : oCl) (κ : oKv) (x0 : Option Nat) (t0 : Option Nat) (t1 : Int64) (σ : oSt) : oRs :=
  obn (opf σ t0 5 16 (.long t1)) fun s1 =>
  obn (ovi (ofd s1 x0 5 12)) fun v3 =>
  some (some (.int v3), s1)
def oj_X3_go_71 (n : Nat) (call : oCl) (κ : oKv) (x0 : Option Nat) (x1 : Int32) (σ : oSt) : oRs :=
  obn (ovi (ofd σ x0 5 11)) fun v1 =>
  obn (opf σ x0 5 17 (.int (x1 - v1))) fun s3 =>
  obn (ovi (ofd s3 x0 5 12)) fun v5 =>
  if v5 = 0 then
    obn (ovl (ofd s3 x0 5 15)) fun v8 =>
    obn (ovi (ofd s3 x0 5 1)) fun v10 =>
    obn (oob s3 x0 5) fun a12 =>
    oln' (call 84 [va_rf x0, .long v8, .int v10] s3) fun r16 s14 =>
    oj_X3_go_105 n call κ x0 x0 r16 s14
  else
    oj_X3_go_105 n call κ x0 x0 0 s3
def oj_X3_go_64 (n : Nat) (call : oCl) (κ : oKv) (k24 : Option Nat → Int32 → Option Nat → Int32 → oSt → oRs) (x0 : Option Nat) (x1 : Int32) (x3 : Int32) (t0 : Option Nat) (σ : oSt) : oRs :=
  k24 x0 x1 t0 (x3 + 1) σ
def oj_X3_go_48 (n : Nat) (call : oCl) (κ : oKv) (k24 : Option Nat → Int32 → Option Nat → Int32 → oSt → oRs) (x0 : Option Nat) (x1 : Int32) (x2 : Option Nat) (x3 : Int32) (σ : oSt) : oRs :=
  if x2 = none then
    obn (oob σ x0 5) fun a2 =>
    orn (call 100 [va_rf x0] σ) fun r6 s4 =>
    oj_X3_go_64 n call κ k24 x0 x1 x3 r6 s4
  else
    obn (oob σ x0 5) fun a7 =>
    orn (call 99 [va_rf x0, va_rf x2] σ) fun r11 s9 =>
    oj_X3_go_64 n call κ k24 x0 x1 x3 r11 s9
def ol_X3_go_24 (n : Nat) (call : oCl) (κ : oKv) : Nat → Option Nat → Int32 → Option Nat → Int32 → oSt → oRs
  | 0, _, _, _, _, _ => none
  | f + 1, x0, x1, x2, x3, σ =>
    if 1000000 ≤ x3 then
      oj_X3_go_71 n call κ x0 x1 σ
    else
      obn (ovi (ofd σ x0 5 12)) fun v2 =>
      if v2 = 0 then
        if x2 = none then
          obn (ovi (ofd σ x0 5 9)) fun v6 =>
          if v6 ≤ 0 then
            oj_X3_go_71 n call κ x0 x1 σ
          else
            oj_X3_go_48 n call κ (ol_X3_go_24 n call κ f) x0 x1 x2 x3 σ
        else
          oj_X3_go_48 n call κ (ol_X3_go_24 n call κ f) x0 x1 x2 x3 σ
      else
        oj_X3_go_71 n call κ x0 x1 σ
def ob_X3_go (n : Nat) (call : oCl) (κ : oKv) (x0 : Option Nat) (x1 : Int32) (σ : oSt) : oRs :=
  obn (opf σ x0 5 11 (.int x1)) fun s1 =>
  obn (opf s1 x0 5 12 (.int 0)) fun s3 =>
  obn (oob s3 x0 5) fun a5 =>
  ocv (call 80 [va_rf x0] s3) fun s7 =>
  obn (ovr (ofd s7 x0 5 0)) fun v10 =>
  obn (ovr (ofd s7 v10 9 10)) fun v12 =>
  ol_X3_go_24 n call κ n x0 x1 v12 0 s7
set_option maxHeartbeats 4000000 in
theorem qj_X3_go_105 {κ : oKv} {n : Nat} {call : oCl} {kc : Nat → List Value → oSt → Option Value × oSt → Prop} {v : Option Value × oSt} {X : Nat → zLv → List Value → oSt → Prop} (hX : oSem RX3 cX3_go 4 0 (some .int) κ kc v X) (hc : ∀ j av s w, call j av s = some w → kc j av s w) {x0 : Option Nat} {t0 : Option Nat} {t1 : Int64} {σ : oSt} (h : oj_X3_go_105 n call κ x0 t0 t1 σ = some v) : X 105 [some (va_rf x0), none, none, none] [.long t1, va_rf t0] σ := by
  rw [oj_X3_go_105] at h
  obtain ⟨s1, e2, h⟩ := obn_e h
  refine ow_put (r := t0) (x := .long t1) hX dX3_go_105 oF_RX3_40 (by decide) (opn_J oT_5_16) e2 ?_
  refine os_aload_n (r := x0) hX dX3_go_108 rfl rfl ?_
  obtain ⟨v3, e4, h⟩ := obn_e h
  refine ow_get (r := x0) hX dX3_go_109 oF_RX3_60 (ovi_e e4) ?_
  exact os_iret hX dX3_go_112 rfl (Option.some.inj h)
set_option maxHeartbeats 4000000 in
theorem qj_X3_go_71 {κ : oKv} {n : Nat} {call : oCl} {kc : Nat → List Value → oSt → Option Value × oSt → Prop} {v : Option Value × oSt} {X : Nat → zLv → List Value → oSt → Prop} (hX : oSem RX3 cX3_go 4 0 (some .int) κ kc v X) (hc : ∀ j av s w, call j av s = some w → kc j av s w) {x0 : Option Nat} {x1 : Int32} {σ : oSt} (h : oj_X3_go_71 n call κ x0 x1 σ = some v) : X 71 [some (va_rf x0), some (.int x1), none, none] [] σ := by
  rw [oj_X3_go_71] at h
  refine os_aload_n (r := x0) hX dX3_go_71 rfl rfl ?_
  refine os_iload_n hX dX3_go_72 rfl rfl ?_
  refine os_aload_n (r := x0) hX dX3_go_73 rfl rfl ?_
  obtain ⟨v1, e2, h⟩ := obn_e h
  refine ow_get (r := x0) hX dX3_go_74 oF_RX3_57 (ovi_e e2) ?_
  refine os_isub hX dX3_go_77 ?_
  obtain ⟨s3, e4, h⟩ := obn_e h
  refine ow_put (r := x0) (x := .int (x1 - v1)) hX dX3_go_78 oF_RX3_84 (by decide) (opn_I oT_5_17) e4 ?_
  refine os_aload_n (r := x0) hX dX3_go_81 rfl rfl ?_
  refine os_aload_n (r := x0) hX dX3_go_82 rfl rfl ?_
  obtain ⟨v5, e6, h⟩ := obn_e h
  refine ow_get (r := x0) hX dX3_go_83 oF_RX3_60 (ovi_e e6) ?_
  refine os_if_ne (tgt := 104) hX dX3_go_86 (by decide) (fun c7 => ?_) (fun c7 => ?_)
  · rw [if_neg c7] at h
    refine os_lconst (v := 0) hX dX3_go_104 (by decide) ?_
    refine os_weak hX (lw := [some (va_rf x0), none, none, none]) ⟨rfl, trivial⟩ ?_
    exact qj_X3_go_105 hX hc h
  · rw [if_pos c7] at h
    refine os_aload_n (r := x0) hX dX3_go_89 rfl rfl ?_
    refine os_aload_n (r := x0) hX dX3_go_90 rfl rfl ?_
    obtain ⟨v8, e9, h⟩ := obn_e h
    refine ow_get (r := x0) hX dX3_go_91 oF_RX3_87 (ovl_e e9) ?_
    refine os_aload_n (r := x0) hX dX3_go_94 rfl rfl ?_
    obtain ⟨v10, e11, h⟩ := obn_e h
    refine ow_get (r := x0) hX dX3_go_95 oF_RX3_44 (ovi_e e11) ?_
    obtain ⟨a12, e13, h⟩ := obn_e h
    obtain ⟨r16, s14, e15, h⟩ := oln'_e h
    refine oc_RX3_90 (rb := x0) (a1 := .long v8) (a2 := .int v10) hX dX3_go_98 (by simp only [List.map_cons, List.map_nil, List.sum_cons, List.sum_nil, ocat]; exact Nat.le_of_ble_eq_true rfl) e13 (hc _ _ _ _ e15) ?_
    refine os_goto (tgt := 105) hX dX3_go_101 (by decide) ?_
    refine os_weak hX (lw := [some (va_rf x0), none, none, none]) ⟨rfl, trivial⟩ ?_
    exact qj_X3_go_105 hX hc h
set_option maxHeartbeats 4000000 in
theorem qj_X3_go_64 {κ : oKv} {n : Nat} {call : oCl} {kc : Nat → List Value → oSt → Option Value × oSt → Prop} {v : Option Value × oSt} {X : Nat → zLv → List Value → oSt → Prop} (hX : oSem RX3 cX3_go 4 0 (some .int) κ kc v X) (hc : ∀ j av s w, call j av s = some w → kc j av s w) {k24 : Option Nat → Int32 → Option Nat → Int32 → oSt → oRs} (hk24 : ∀ (x0 : Option Nat) (x1 : Int32) (x2 : Option Nat) (x3 : Int32) (s : oSt), k24 x0 x1 x2 x3 s = some v → X 24 [some (va_rf x0), some (.int x1), some (va_rf x2), some (.int x3)] [] s) {x0 : Option Nat} {x1 : Int32} {x3 : Int32} {t0 : Option Nat} {σ : oSt} (h : oj_X3_go_64 n call κ k24 x0 x1 x3 t0 σ = some v) : X 64 [some (va_rf x0), some (.int x1), none, some (.int x3)] [va_rf t0] σ := by
  rw [oj_X3_go_64] at h
  refine os_astore_n (r := t0) hX dX3_go_64 rfl (by decide) rfl ?_
  dsimp only [List.set]
  refine os_iinc (v := x3 + 1) hX dX3_go_65 rfl rfl (by decide) (ozlo (i := 2) (r := t0) rfl) ?_
  dsimp only [List.set]
  refine os_goto (tgt := 24) hX dX3_go_68 (by decide) ?_
  exact hk24 _ _ _ _ _ h
set_option maxHeartbeats 4000000 in
theorem qj_X3_go_48 {κ : oKv} {n : Nat} {call : oCl} {kc : Nat → List Value → oSt → Option Value × oSt → Prop} {v : Option Value × oSt} {X : Nat → zLv → List Value → oSt → Prop} (hX : oSem RX3 cX3_go 4 0 (some .int) κ kc v X) (hc : ∀ j av s w, call j av s = some w → kc j av s w) {k24 : Option Nat → Int32 → Option Nat → Int32 → oSt → oRs} (hk24 : ∀ (x0 : Option Nat) (x1 : Int32) (x2 : Option Nat) (x3 : Int32) (s : oSt), k24 x0 x1 x2 x3 s = some v → X 24 [some (va_rf x0), some (.int x1), some (va_rf x2), some (.int x3)] [] s) {x0 : Option Nat} {x1 : Int32} {x2 : Option Nat} {x3 : Int32} {σ : oSt} (h : oj_X3_go_48 n call κ k24 x0 x1 x2 x3 σ = some v) : X 48 [some (va_rf x0), some (.int x1), some (va_rf x2), some (.int x3)] [] σ := by
  rw [oj_X3_go_48] at h
  refine os_aload_n (r := x2) hX dX3_go_48 rfl rfl ?_
  refine os_ifnull (r := x2) (tgt := 60) hX dX3_go_49 (by decide) (fun c1 => ?_) (fun c1 => ?_)
  · rw [if_pos c1] at h
    refine os_aload_n (r := x0) hX dX3_go_60 rfl rfl ?_
    obtain ⟨a2, e3, h⟩ := obn_e h
    obtain ⟨r6, s4, e5, h⟩ := orn_e h
    refine oc_RX3_80 (rb := x0)  hX dX3_go_61 (Nat.le_of_ble_eq_true rfl) e3 (hc _ _ _ _ e5) ?_
    refine os_weak hX (lw := [some (va_rf x0), some (.int x1), none, some (.int x3)]) ⟨rfl, rfl, rfl, trivial⟩ ?_
    exact qj_X3_go_64 hX hc hk24 h
  · rw [if_neg c1] at h
    refine os_aload_n (r := x0) hX dX3_go_52 rfl rfl ?_
    refine os_aload_n (r := x2) hX dX3_go_53 rfl rfl ?_
    obtain ⟨a7, e8, h⟩ := obn_e h
    obtain ⟨r11, s9, e10, h⟩ := orn_e h
    refine oc_RX3_76 (rb := x0) (a1 := va_rf x2) hX dX3_go_54 (Nat.le_of_ble_eq_true rfl) e8 (hc _ _ _ _ e10) ?_
    refine os_goto (tgt := 64) hX dX3_go_57 (by decide) ?_
    refine os_weak hX (lw := [some (va_rf x0), some (.int x1), none, some (.int x3)]) ⟨rfl, rfl, rfl, trivial⟩ ?_
    exact qj_X3_go_64 hX hc hk24 h
set_option maxHeartbeats 4000000 in
theorem ql_X3_go_24 {κ : oKv} {n : Nat} {call : oCl} {kc : Nat → List Value → oSt → Option Value × oSt → Prop} {v : Option Value × oSt} {X : Nat → zLv → List Value → oSt → Prop} (hX : oSem RX3 cX3_go 4 0 (some .int) κ kc v X) (hc : ∀ j av s w, call j av s = some w → kc j av s w) : ∀ (f : Nat) (x0 : Option Nat) (x1 : Int32) (x2 : Option Nat) (x3 : Int32) (σ : oSt), ol_X3_go_24 n call κ f x0 x1 x2 x3 σ = some v → X 24 [some (va_rf x0), some (.int x1), some (va_rf x2), some (.int x3)] [] σ := by
  intro f
  induction f with
  | zero => intro x0 x1 x2 x3 σ h; cases h
  | succ f hk24 =>
    intro x0 x1 x2 x3 σ h
    rw [ol_X3_go_24] at h
    refine os_iload_n hX dX3_go_24 rfl rfl ?_
    refine os_ldc (x := 1000000) hX dX3_go_25 oCI_RX3_72 ?_
    refine os_icmp_ge (tgt := 71) hX dX3_go_27 (by decide) (fun c1 => ?_) (fun c1 => ?_)
    · rw [if_pos c1] at h
      refine os_weak hX (lw := [some (va_rf x0), some (.int x1), none, none]) ⟨rfl, rfl, trivial⟩ ?_
      exact qj_X3_go_71 hX hc h
    · rw [if_neg c1] at h
      refine os_aload_n (r := x0) hX dX3_go_30 rfl rfl ?_
      obtain ⟨v2, e3, h⟩ := obn_e h
      refine ow_get (r := x0) hX dX3_go_31 oF_RX3_60 (ovi_e e3) ?_
      refine os_if_ne (tgt := 71) hX dX3_go_34 (by decide) (fun c4 => ?_) (fun c4 => ?_)
      · rw [if_neg c4] at h
        refine os_weak hX (lw := [some (va_rf x0), some (.int x1), none, none]) ⟨rfl, rfl, trivial⟩ ?_
        exact qj_X3_go_71 hX hc h
      · rw [if_pos c4] at h
        refine os_aload_n (r := x2) hX dX3_go_37 rfl rfl ?_
        refine os_ifnonnull (r := x2) (tgt := 48) hX dX3_go_38 (by decide) (fun c5 => ?_) (fun c5 => ?_)
        · rw [if_neg c5] at h
          exact qj_X3_go_48 hX hc hk24 h
        · rw [if_pos c5] at h
          refine os_aload_n (r := x0) hX dX3_go_41 rfl rfl ?_
          obtain ⟨v6, e7, h⟩ := obn_e h
          refine ow_get (r := x0) hX dX3_go_42 oF_RX3_73 (ovi_e e7) ?_
          refine os_if_le (tgt := 71) hX dX3_go_45 (by decide) (fun c8 => ?_) (fun c8 => ?_)
          · rw [if_pos c8] at h
            refine os_weak hX (lw := [some (va_rf x0), some (.int x1), none, none]) ⟨rfl, rfl, trivial⟩ ?_
            exact qj_X3_go_71 hX hc h
          · rw [if_neg c8] at h
            exact qj_X3_go_48 hX hc hk24 h
set_option maxHeartbeats 4000000 in
theorem qb_X3_go {κ : oKv} {n : Nat} {call : oCl} {kc : Nat → List Value → oSt → Option Value × oSt → Prop} {v : Option Value × oSt} {X : Nat → zLv → List Value → oSt → Prop} (hX : oSem RX3 cX3_go 4 0 (some .int) κ kc v X) (hc : ∀ j av s w, call j av s = some w → kc j av s w) {x0 : Option Nat} {x1 : Int32} {σ : oSt} (h : ob_X3_go n call κ x0 x1 σ = some v) : X 0 [some (va_rf x0), some (.int x1), none, none] [] σ := by
  rw [ob_X3_go] at h
  refine os_aload_n (r := x0) hX dX3_go_0 rfl rfl ?_
  refine os_iload_n hX dX3_go_1 rfl rfl ?_
  obtain ⟨s1, e2, h⟩ := obn_e h
  refine ow_put (r := x0) (x := .int x1) hX dX3_go_2 oF_RX3_57 (by decide) (opn_I oT_5_11) e2 ?_
  refine os_aload_n (r := x0) hX dX3_go_5 rfl rfl ?_
  refine os_iconst (v := 0) hX dX3_go_6 (by decide) ?_
  obtain ⟨s3, e4, h⟩ := obn_e h
  refine ow_put (r := x0) (x := .int 0) hX dX3_go_7 oF_RX3_60 (by decide) (opn_I oT_5_12) e4 ?_
  refine os_aload_n (r := x0) hX dX3_go_10 rfl rfl ?_
  obtain ⟨a5, e6, h⟩ := obn_e h
  obtain ⟨s7, e8, h⟩ := ocv_e h
  refine oc_RX3_63 (rb := x0)  hX dX3_go_11 (Nat.le_of_ble_eq_true rfl) e6 (hc _ _ _ _ e8) ?_
  refine os_aload_n (r := x0) hX dX3_go_14 rfl rfl ?_
  obtain ⟨v10, e11, h⟩ := obn_e h
  refine ow_get (r := x0) hX dX3_go_15 oF_RX3_36 (ovr_e e11) ?_
  obtain ⟨v12, e13, h⟩ := obn_e h
  refine ow_get (r := v10) hX dX3_go_18 oF_RX3_66 (ovr_e e13) ?_
  refine os_astore_n (r := v12) hX dX3_go_21 rfl (by decide) rfl ?_
  dsimp only [List.set]
  refine os_iconst (v := 0) hX dX3_go_22 (by decide) ?_
  refine os_istore_n hX dX3_go_23 rfl (by decide) (ozlo (i := 2) (r := v12) rfl) ?_
  dsimp only [List.set]
  exact ql_X3_go_24 hX hc n _ _ _ _ _ h
def ob_X5_init (n : Nat) (call : oCl) (κ : oKv) (x0 : Option Nat) (x1 : Int32) (x2 : Int32) (x3 : Int32) (σ : oSt) : oRs :=
  obn (x0) fun a1 =>
  obn (opf σ x0 7 0 (.int x1)) fun s3 =>
  obn (opf s3 x0 7 1 (.int x2)) fun s5 =>
  obn (opf s5 x0 7 2 (.int x3)) fun s7 =>
  obn (opf s7 x0 7 3 (.int x2)) fun s9 =>
  some (none, s9)
set_option maxHeartbeats 4000000 in
theorem qb_X5_init {κ : oKv} {n : Nat} {call : oCl} {kc : Nat → List Value → oSt → Option Value × oSt → Prop} {v : Option Value × oSt} {X : Nat → zLv → List Value → oSt → Prop} (hX : oSem RX5 cX5_init 4 2 none κ kc v X) (hc : ∀ j av s w, call j av s = some w → kc j av s w) {x0 : Option Nat} {x1 : Int32} {x2 : Int32} {x3 : Int32} {σ : oSt} (h : ob_X5_init n call κ x0 x1 x2 x3 σ = some v) : X 0 [some (va_rf x0), some (.int x1), some (.int x2), some (.int x3)] [] σ := by
  rw [ob_X5_init] at h
  refine os_aload_n (r := x0) hX dX5_init_0 rfl rfl ?_
  obtain ⟨a1, e2, h⟩ := obn_e h
  refine ow_oI (r := x0) hX dX5_init_1 oI_RX5_1 (Nat.le_of_ble_eq_true rfl) e2 ?_
  refine os_aload_n (r := x0) hX dX5_init_4 rfl rfl ?_
  refine os_iload_n hX dX5_init_5 rfl rfl ?_
  obtain ⟨s3, e4, h⟩ := obn_e h
  refine ow_put (r := x0) (x := .int x1) hX dX5_init_6 oF_RX5_7 (by decide) (opn_I oT_7_0) e4 ?_
  refine os_aload_n (r := x0) hX dX5_init_9 rfl rfl ?_
  refine os_iload_n hX dX5_init_10 rfl rfl ?_
  obtain ⟨s5, e6, h⟩ := obn_e h
  refine ow_put (r := x0) (x := .int x2) hX dX5_init_11 oF_RX5_13 (by decide) (opn_I oT_7_1) e6 ?_
  refine os_aload_n (r := x0) hX dX5_init_14 rfl rfl ?_
  refine os_iload_n hX dX5_init_15 rfl rfl ?_
  obtain ⟨s7, e8, h⟩ := obn_e h
  refine ow_putF (r := x0) (x := .int x3) hX dX5_init_16 oF_RX5_16 (by decide) rfl rfl (opn_I oT_7_2) e8 ?_
  refine os_aload_n (r := x0) hX dX5_init_19 rfl rfl ?_
  refine os_iload_n hX dX5_init_20 rfl rfl ?_
  obtain ⟨s9, e10, h⟩ := obn_e h
  refine ow_put (r := x0) (x := .int x2) hX dX5_init_21 oF_RX5_19 (by decide) (opn_I oT_7_3) e10 ?_
  exact os_vret hX dX5_init_24 rfl (Option.some.inj h)
def ob_X7_init (n : Nat) (call : oCl) (κ : oKv) (x0 : Option Nat) (x1 : Option Nat) (σ : oSt) : oRs :=
  obn (x0) fun a1 =>
  ogd (onn 12) (
  olet (onew σ (.inl (.object (oq 6).1, (12 : Int32).toNatClampNeg, .inr (.inr (.inr (.inr (fun _ => none)))))) (12 : Int32).toNatClampNeg) fun s3 =>
  obn (opf s3 x0 9 1 (va_rf (some σ.2.1))) fun s6 =>
  olet (onew s6 (.inr (1, odef 1)) (oq 1).2.2) fun s8 =>
  obn ((some s6.2.1)) fun a10 =>
  ocv (call 224 [va_rf (some s6.2.1)] s8) fun s12 =>
  obn (opf s12 x0 9 2 (va_rf (some s6.2.1))) fun s15 =>
  olet (onew s15 (.inr (1, odef 1)) (oq 1).2.2) fun s17 =>
  obn ((some s15.2.1)) fun a19 =>
  ocv (call 224 [va_rf (some s15.2.1)] s17) fun s21 =>
  obn (opf s21 x0 9 3 (va_rf (some s15.2.1))) fun s24 =>
  ogd (onn 6) (
  olet (onew s24 (.inl (.int, (6 : Int32).toNatClampNeg, .inl (fun _ => 0))) (6 : Int32).toNatClampNeg) fun s26 =>
  obn (opf s26 x0 9 4 (va_rf (some s24.2.1))) fun s29 =>
  ogd (onn 6) (
  olet (onew s29 (.inl (.int, (6 : Int32).toNatClampNeg, .inl (fun _ => 0))) (6 : Int32).toNatClampNeg) fun s31 =>
  obn (opf s31 x0 9 5 (va_rf (some s29.2.1))) fun s34 =>
  ogd (onn 6) (
  olet (onew s34 (.inl (.int, (6 : Int32).toNatClampNeg, .inl (fun _ => 0))) (6 : Int32).toNatClampNeg) fun s36 =>
  obn (opf s36 x0 9 6 (va_rf (some s34.2.1))) fun s39 =>
  ogd (onn 6) (
  olet (onew s39 (.inl (.int, (6 : Int32).toNatClampNeg, .inl (fun _ => 0))) (6 : Int32).toNatClampNeg) fun s41 =>
  obn (opf s41 x0 9 7 (va_rf (some s39.2.1))) fun s44 =>
  obn (opf s44 x0 9 15 (.int (-1))) fun s46 =>
  obn (opf s46 x0 9 16 (.int (-1))) fun s48 =>
  obn (opf s48 x0 9 17 (.int (-1))) fun s50 =>
  obn (opf s50 x0 9 0 (va_rf x1)) fun s52 =>
  some (none, s52))))))
set_option maxHeartbeats 4000000 in
theorem qb_X7_init {κ : oKv} {n : Nat} {call : oCl} {kc : Nat → List Value → oSt → Option Value × oSt → Prop} {v : Option Value × oSt} {X : Nat → zLv → List Value → oSt → Prop} (hX : oSem RX7 cX7_init 2 2 none κ kc v X) (hc : ∀ j av s w, call j av s = some w → kc j av s w) {x0 : Option Nat} {x1 : Option Nat} {σ : oSt} (h : ob_X7_init n call κ x0 x1 σ = some v) : X 0 [some (va_rf x0), some (va_rf x1)] [] σ := by
  rw [ob_X7_init] at h
  refine os_aload_n (r := x0) hX dX7_init_0 rfl rfl ?_
  obtain ⟨a1, e2, h⟩ := obn_e h
  refine ow_oI (r := x0) hX dX7_init_1 oI_RX7_3 (Nat.le_of_ble_eq_true rfl) e2 ?_
  refine os_aload_n (r := x0) hX dX7_init_4 rfl rfl ?_
  refine os_bipush (v := 12) hX dX7_init_5 (by decide) ?_
  obtain ⟨b5, h⟩ := ogd_e h
  obtain ⟨s3, e4, h⟩ := olet_e h
  refine os_newq hX dX7_init_7 oA_RX7_9 (onn_e b5).1 (onn_e b5).2 ?_
  rw [← e4]
  obtain ⟨s6, e7, h⟩ := obn_e h
  refine ow_putF (r := x0) (x := va_rf (some σ.2.1)) hX dX7_init_10 oF_RX7_11 (by decide) rfl rfl (orf_n (Or.inr ⟨_, oT_9_1⟩) (some σ.2.1)) e7 ?_
  refine os_aload_n (r := x0) hX dX7_init_13 rfl rfl ?_
  obtain ⟨s8, e9, h⟩ := olet_e h
  refine os_new hX dX7_init_14 oN_RX7_17 ?_
  rw [← e9]
  refine os_dup hX dX7_init_17 (ocat (some s6.2.1)) ?_
  obtain ⟨a10, e11, h⟩ := obn_e h
  obtain ⟨s12, e13, h⟩ := ocv_e h
  refine oc_RX7_19 (rb := (some s6.2.1))  hX dX7_init_18 (by simp only [List.map_cons, List.map_nil, List.sum_cons, List.sum_nil, ocat]; exact Nat.le_of_ble_eq_true rfl) e11 (hc _ _ _ _ e13) ?_
  obtain ⟨s15, e16, h⟩ := obn_e h
  refine ow_putF (r := x0) (x := va_rf (some s6.2.1)) hX dX7_init_21 oF_RX7_20 (by decide) rfl rfl (orf_n (Or.inl ⟨_, oT_9_2⟩) (some s6.2.1)) e16 ?_
  refine os_aload_n (r := x0) hX dX7_init_24 rfl rfl ?_
  obtain ⟨s17, e18, h⟩ := olet_e h
  refine os_new hX dX7_init_25 oN_RX7_17 ?_
  rw [← e18]
  refine os_dup hX dX7_init_28 (ocat (some s15.2.1)) ?_
  obtain ⟨a19, e20, h⟩ := obn_e h
  obtain ⟨s21, e22, h⟩ := ocv_e h
  refine oc_RX7_19 (rb := (some s15.2.1))  hX dX7_init_29 (by simp only [List.map_cons, List.map_nil, List.sum_cons, List.sum_nil, ocat]; exact Nat.le_of_ble_eq_true rfl) e20 (hc _ _ _ _ e22) ?_
  obtain ⟨s24, e25, h⟩ := obn_e h
  refine ow_putF (r := x0) (x := va_rf (some s15.2.1)) hX dX7_init_32 oF_RX7_24 (by decide) rfl rfl (orf_n (Or.inl ⟨_, oT_9_3⟩) (some s15.2.1)) e25 ?_
  refine os_aload_n (r := x0) hX dX7_init_35 rfl rfl ?_
  refine os_bipush (v := 6) hX dX7_init_36 (by decide) ?_
  obtain ⟨b28, h⟩ := ogd_e h
  obtain ⟨s26, e27, h⟩ := olet_e h
  refine os_newI hX dX7_init_38 (onn_e b28).1 (onn_e b28).2 ?_
  rw [← e27]
  obtain ⟨s29, e30, h⟩ := obn_e h
  refine ow_putF (r := x0) (x := va_rf (some s24.2.1)) hX dX7_init_40 oF_RX7_27 (by decide) rfl rfl (orf_n (Or.inr ⟨_, oT_9_4⟩) (some s24.2.1)) e30 ?_
  refine os_aload_n (r := x0) hX dX7_init_43 rfl rfl ?_
  refine os_bipush (v := 6) hX dX7_init_44 (by decide) ?_
  obtain ⟨b33, h⟩ := ogd_e h
  obtain ⟨s31, e32, h⟩ := olet_e h
  refine os_newI hX dX7_init_46 (onn_e b33).1 (onn_e b33).2 ?_
  rw [← e32]
  obtain ⟨s34, e35, h⟩ := obn_e h
  refine ow_putF (r := x0) (x := va_rf (some s29.2.1)) hX dX7_init_48 oF_RX7_31 (by decide) rfl rfl (orf_n (Or.inr ⟨_, oT_9_5⟩) (some s29.2.1)) e35 ?_
  refine os_aload_n (r := x0) hX dX7_init_51 rfl rfl ?_
  refine os_bipush (v := 6) hX dX7_init_52 (by decide) ?_
  obtain ⟨b38, h⟩ := ogd_e h
  obtain ⟨s36, e37, h⟩ := olet_e h
  refine os_newI hX dX7_init_54 (onn_e b38).1 (onn_e b38).2 ?_
  rw [← e37]
  obtain ⟨s39, e40, h⟩ := obn_e h
  refine ow_putF (r := x0) (x := va_rf (some s34.2.1)) hX dX7_init_56 oF_RX7_34 (by decide) rfl rfl (orf_n (Or.inr ⟨_, oT_9_6⟩) (some s34.2.1)) e40 ?_
  refine os_aload_n (r := x0) hX dX7_init_59 rfl rfl ?_
  refine os_bipush (v := 6) hX dX7_init_60 (by decide) ?_
  obtain ⟨b43, h⟩ := ogd_e h
  obtain ⟨s41, e42, h⟩ := olet_e h
  refine os_newI hX dX7_init_62 (onn_e b43).1 (onn_e b43).2 ?_
  rw [← e42]
  obtain ⟨s44, e45, h⟩ := obn_e h
  refine ow_putF (r := x0) (x := va_rf (some s39.2.1)) hX dX7_init_64 oF_RX7_37 (by decide) rfl rfl (orf_n (Or.inr ⟨_, oT_9_7⟩) (some s39.2.1)) e45 ?_
  refine os_aload_n (r := x0) hX dX7_init_67 rfl rfl ?_
  refine os_iconst (v := (-1)) hX dX7_init_68 (by decide) ?_
  obtain ⟨s46, e47, h⟩ := obn_e h
  refine ow_put (r := x0) (x := .int (-1)) hX dX7_init_69 oF_RX7_40 (by decide) (opn_I oT_9_15) e47 ?_
  refine os_aload_n (r := x0) hX dX7_init_72 rfl rfl ?_
  refine os_iconst (v := (-1)) hX dX7_init_73 (by decide) ?_
  obtain ⟨s48, e49, h⟩ := obn_e h
  refine ow_put (r := x0) (x := .int (-1)) hX dX7_init_74 oF_RX7_44 (by decide) (opn_I oT_9_16) e49 ?_
  refine os_aload_n (r := x0) hX dX7_init_77 rfl rfl ?_
  refine os_iconst (v := (-1)) hX dX7_init_78 (by decide) ?_
  obtain ⟨s50, e51, h⟩ := obn_e h
  refine ow_put (r := x0) (x := .int (-1)) hX dX7_init_79 oF_RX7_47 (by decide) (opn_I oT_9_17) e51 ?_
  refine os_aload_n (r := x0) hX dX7_init_82 rfl rfl ?_
  refine os_aload_n (r := x1) hX dX7_init_83 rfl rfl ?_
  obtain ⟨s52, e53, h⟩ := obn_e h
  refine ow_putF (r := x0) (x := va_rf x1) hX dX7_init_84 oF_RX7_50 (by decide) rfl rfl (orf_n (Or.inl ⟨_, oT_9_0⟩) x1) e53 ?_
  exact os_vret hX dX7_init_87 rfl (Option.some.inj h)
def ob_X7_kind (n : Nat) (call : oCl) (κ : oKv) (x0 : Option Nat) (σ : oSt) : oRs :=
  obn (ovi (ofd σ x0 9 15)) fun v1 =>
  if v1 < 0 then
    obn (ovr (ofd σ x0 9 0)) fun v4 =>
    obn (ovr (ofd σ v4 13 1)) fun v6 =>
    obn (ovi (ofd σ x0 9 11)) fun v8 =>
    obn (oai σ v6 .int v8) fun v10 =>
    some (some (.int v10), σ)
  else
    some (some (.int 0), σ)
set_option maxHeartbeats 4000000 in
theorem qb_X7_kind {κ : oKv} {n : Nat} {call : oCl} {kc : Nat → List Value → oSt → Option Value × oSt → Prop} {v : Option Value × oSt} {X : Nat → zLv → List Value → oSt → Prop} (hX : oSem RX7 cX7_kind 1 0 (some .int) κ kc v X) (hc : ∀ j av s w, call j av s = some w → kc j av s w) {x0 : Option Nat} {σ : oSt} (h : ob_X7_kind n call κ x0 σ = some v) : X 0 [some (va_rf x0)] [] σ := by
  rw [ob_X7_kind] at h
  refine os_aload_n (r := x0) hX dX7_kind_0 rfl rfl ?_
  obtain ⟨v1, e2, h⟩ := obn_e h
  refine ow_get (r := x0) hX dX7_kind_1 oF_RX7_40 (ovi_e e2) ?_
  refine os_if_lt (tgt := 11) hX dX7_kind_4 (by decide) (fun c3 => ?_) (fun c3 => ?_)
  · rw [if_pos c3] at h
    refine os_aload_n (r := x0) hX dX7_kind_11 rfl rfl ?_
    obtain ⟨v4, e5, h⟩ := obn_e h
    refine ow_get (r := x0) hX dX7_kind_12 oF_RX7_50 (ovr_e e5) ?_
    obtain ⟨v6, e7, h⟩ := obn_e h
    refine ow_get (r := v4) hX dX7_kind_15 oF_RX7_81 (ovr_e e7) ?_
    refine os_aload_n (r := x0) hX dX7_kind_18 rfl rfl ?_
    obtain ⟨v8, e9, h⟩ := obn_e h
    refine ow_get (r := x0) hX dX7_kind_19 oF_RX7_86 (ovi_e e9) ?_
    obtain ⟨v10, e11, h⟩ := obn_e h
    refine ow_ai (r := v6) (i := v8) hX dX7_kind_22 e11 ?_
    exact os_iret hX dX7_kind_23 rfl (Option.some.inj h)
  · rw [if_neg c3] at h
    refine os_iconst (v := 0) hX dX7_kind_7 (by decide) ?_
    refine os_goto (tgt := 23) hX dX7_kind_8 (by decide) ?_
    exact os_iret hX dX7_kind_23 rfl (Option.some.inj h)
def ob_X7_next (n : Nat) (call : oCl) (κ : oKv) (x0 : Option Nat) (σ : oSt) : oRs :=
  obn (ovi (ofd σ x0 9 11)) fun v1 =>
  obn (ovr (ofd σ x0 9 0)) fun v3 =>
  obn (ovi (ofd σ v3 13 4)) fun v5 =>
  if v5 ≤ v1 then
    some (none, σ)
  else
    obn (ovi (ofd σ x0 9 11)) fun v8 =>
    obn (opf σ x0 9 11 (.int (v8 + 1))) fun s10 =>
    some (none, s10)
set_option maxHeartbeats 4000000 in
theorem qb_X7_next {κ : oKv} {n : Nat} {call : oCl} {kc : Nat → List Value → oSt → Option Value × oSt → Prop} {v : Option Value × oSt} {X : Nat → zLv → List Value → oSt → Prop} (hX : oSem RX7 cX7_next 1 0 none κ kc v X) (hc : ∀ j av s w, call j av s = some w → kc j av s w) {x0 : Option Nat} {σ : oSt} (h : ob_X7_next n call κ x0 σ = some v) : X 0 [some (va_rf x0)] [] σ := by
  rw [ob_X7_next] at h
  refine os_aload_n (r := x0) hX dX7_next_0 rfl rfl ?_
  obtain ⟨v1, e2, h⟩ := obn_e h
  refine ow_get (r := x0) hX dX7_next_1 oF_RX7_86 (ovi_e e2) ?_
  refine os_aload_n (r := x0) hX dX7_next_4 rfl rfl ?_
  obtain ⟨v3, e4, h⟩ := obn_e h
  refine ow_get (r := x0) hX dX7_next_5 oF_RX7_50 (ovr_e e4) ?_
  obtain ⟨v5, e6, h⟩ := obn_e h
  refine ow_get (r := v3) hX dX7_next_8 oF_RX7_92 (ovi_e e6) ?_
  refine os_icmp_ge (tgt := 24) hX dX7_next_11 (by decide) (fun c7 => ?_) (fun c7 => ?_)
  · rw [if_pos c7] at h
    exact os_vret hX dX7_next_24 rfl (Option.some.inj h)
  · rw [if_neg c7] at h
    refine os_aload_n (r := x0) hX dX7_next_14 rfl rfl ?_
    refine os_dup hX dX7_next_15 (ocat x0) ?_
    obtain ⟨v8, e9, h⟩ := obn_e h
    refine ow_get (r := x0) hX dX7_next_16 oF_RX7_86 (ovi_e e9) ?_
    refine os_iconst (v := 1) hX dX7_next_19 (by decide) ?_
    refine os_iadd hX dX7_next_20 ?_
    obtain ⟨s10, e11, h⟩ := obn_e h
    refine ow_put (r := x0) (x := .int (v8 + 1)) hX dX7_next_21 oF_RX7_86 (by decide) (opn_I oT_9_11) e11 ?_
    exact os_vret hX dX7_next_24 rfl (Option.some.inj h)
def ob_X7_here (n : Nat) (call : oCl) (κ : oKv) (x0 : Option Nat) (σ : oSt) : oRs :=
  obn (ovr (ofd σ x0 9 0)) fun v1 =>
  obn (ovr (ofd σ v1 13 2)) fun v3 =>
  obn (ovi (ofd σ x0 9 11)) fun v5 =>
  obn (oai σ v3 .int v5) fun v7 =>
  some (some (.int v7), σ)
set_option maxHeartbeats 4000000 in
theorem qb_X7_here {κ : oKv} {n : Nat} {call : oCl} {kc : Nat → List Value → oSt → Option Value × oSt → Prop} {v : Option Value × oSt} {X : Nat → zLv → List Value → oSt → Prop} (hX : oSem RX7 cX7_here 1 0 (some .int) κ kc v X) (hc : ∀ j av s w, call j av s = some w → kc j av s w) {x0 : Option Nat} {σ : oSt} (h : ob_X7_here n call κ x0 σ = some v) : X 0 [some (va_rf x0)] [] σ := by
  rw [ob_X7_here] at h
  refine os_aload_n (r := x0) hX dX7_here_0 rfl rfl ?_
  obtain ⟨v1, e2, h⟩ := obn_e h
  refine ow_get (r := x0) hX dX7_here_1 oF_RX7_50 (ovr_e e2) ?_
  obtain ⟨v3, e4, h⟩ := obn_e h
  refine ow_get (r := v1) hX dX7_here_4 oF_RX7_89 (ovr_e e4) ?_
  refine os_aload_n (r := x0) hX dX7_here_7 rfl rfl ?_
  obtain ⟨v5, e6, h⟩ := obn_e h
  refine ow_get (r := x0) hX dX7_here_8 oF_RX7_86 (ovi_e e6) ?_
  obtain ⟨v7, e8, h⟩ := obn_e h
  refine ow_ai (r := v3) (i := v5) hX dX7_here_11 e8 ?_
  exact os_iret hX dX7_here_12 rfl (Option.some.inj h)
def ob_X7_fail (n : Nat) (call : oCl) (κ : oKv) (x0 : Option Nat) (σ : oSt) : oRs :=
  obn (ovi (ofd σ x0 9 15)) fun v1 =>
  if 0 ≤ v1 then
    some (none, σ)
  else
    obn (oob σ x0 9) fun a4 =>
    oin (call 106 [va_rf x0] σ) fun r8 s6 =>
    obn (opf s6 x0 9 15 (.int r8)) fun s9 =>
    some (none, s9)
set_option maxHeartbeats 4000000 in
theorem qb_X7_fail {κ : oKv} {n : Nat} {call : oCl} {kc : Nat → List Value → oSt → Option Value × oSt → Prop} {v : Option Value × oSt} {X : Nat → zLv → List Value → oSt → Prop} (hX : oSem RX7 cX7_fail 1 0 none κ kc v X) (hc : ∀ j av s w, call j av s = some w → kc j av s w) {x0 : Option Nat} {σ : oSt} (h : ob_X7_fail n call κ x0 σ = some v) : X 0 [some (va_rf x0)] [] σ := by
  rw [ob_X7_fail] at h
  refine os_aload_n (r := x0) hX dX7_fail_0 rfl rfl ?_
  obtain ⟨v1, e2, h⟩ := obn_e h
  refine ow_get (r := x0) hX dX7_fail_1 oF_RX7_40 (ovi_e e2) ?_
  refine os_if_ge (tgt := 15) hX dX7_fail_4 (by decide) (fun c3 => ?_) (fun c3 => ?_)
  · rw [if_pos c3] at h
    exact os_vret hX dX7_fail_15 rfl (Option.some.inj h)
  · rw [if_neg c3] at h
    refine os_aload_n (r := x0) hX dX7_fail_7 rfl rfl ?_
    refine os_aload_n (r := x0) hX dX7_fail_8 rfl rfl ?_
    obtain ⟨a4, e5, h⟩ := obn_e h
    obtain ⟨r8, s6, e7, h⟩ := oin_e h
    refine oc_RX7_95 (rb := x0)  hX dX7_fail_9 (by simp only [List.map_cons, List.map_nil, List.sum_cons, List.sum_nil, ocat]; exact Nat.le_of_ble_eq_true rfl) e5 (hc _ _ _ _ e7) ?_
    obtain ⟨s9, e10, h⟩ := obn_e h
    refine ow_put (r := x0) (x := .int r8) hX dX7_fail_12 oF_RX7_40 (by decide) (opn_I oT_9_15) e10 ?_
    exact os_vret hX dX7_fail_15 rfl (Option.some.inj h)
def ob_X7_expect (n : Nat) (call : oCl) (κ : oKv) (x0 : Option Nat) (x1 : Int32) (σ : oSt) : oRs :=
  obn (oob σ x0 9) fun a1 =>
  oin (call 104 [va_rf x0] σ) fun r5 s3 =>
  if r5 = x1 then
    obn (oob s3 x0 9) fun a12 =>
    ocv (call 105 [va_rf x0] s3) fun s14 =>
    some (none, s14)
  else
    obn (oob s3 x0 9) fun a7 =>
    ocv (call 107 [va_rf x0] s3) fun s9 =>
    some (none, s9)
set_option maxHeartbeats 4000000 in
theorem qb_X7_expect {κ : oKv} {n : Nat} {call : oCl} {kc : Nat → List Value → oSt → Option Value × oSt → Prop} {v : Option Value × oSt} {X : Nat → zLv → List Value → oSt → Prop} (hX : oSem RX7 cX7_expect 2 0 none κ kc v X) (hc : ∀ j av s w, call j av s = some w → kc j av s w) {x0 : Option Nat} {x1 : Int32} {σ : oSt} (h : ob_X7_expect n call κ x0 x1 σ = some v) : X 0 [some (va_rf x0), some (.int x1)] [] σ := by
  rw [ob_X7_expect] at h
  refine os_aload_n (r := x0) hX dX7_expect_0 rfl rfl ?_
  obtain ⟨a1, e2, h⟩ := obn_e h
  obtain ⟨r5, s3, e4, h⟩ := oin_e h
  refine oc_RX7_57 (rb := x0)  hX dX7_expect_1 (Nat.le_of_ble_eq_true rfl) e2 (hc _ _ _ _ e4) ?_
  refine os_iload_n hX dX7_expect_4 rfl rfl ?_
  refine os_icmp_ne (tgt := 15) hX dX7_expect_5 (by decide) (fun c6 => ?_) (fun c6 => ?_)
  · rw [if_neg c6] at h
    refine os_aload_n (r := x0) hX dX7_expect_15 rfl rfl ?_
    obtain ⟨a7, e8, h⟩ := obn_e h
    obtain ⟨s9, e10, h⟩ := ocv_e h
    refine oc_RX7_78 (rb := x0)  hX dX7_expect_16 (Nat.le_of_ble_eq_true rfl) e8 (hc _ _ _ _ e10) ?_
    exact os_vret hX dX7_expect_19 rfl (Option.some.inj h)
  · rw [if_pos c6] at h
    refine os_aload_n (r := x0) hX dX7_expect_8 rfl rfl ?_
    obtain ⟨a12, e13, h⟩ := obn_e h
    obtain ⟨s14, e15, h⟩ := ocv_e h
    refine oc_RX7_98 (rb := x0)  hX dX7_expect_9 (Nat.le_of_ble_eq_true rfl) e13 (hc _ _ _ _ e15) ?_
    refine os_goto (tgt := 19) hX dX7_expect_12 (by decide) ?_
    exact os_vret hX dX7_expect_19 rfl (Option.some.inj h)
def oj_X7_isRelation_32 (n : Nat) (call : oCl) (κ : oKv) (σ : oSt) : oRs :=
  some (some (.int 1), σ)
def ob_X7_isRelation (n : Nat) (call : oCl) (κ : oKv) (x0 : Int32) (σ : oSt) : oRs :=
  if x0 = 61 then
    oj_X7_isRelation_32 n call κ σ
  else
    if x0 = 60 then
      oj_X7_isRelation_32 n call κ σ
    else
      if x0 = 300 then
        oj_X7_isRelation_32 n call κ σ
      else
        if x0 = 62 then
          oj_X7_isRelation_32 n call κ σ
        else
          if x0 = 301 then
            oj_X7_isRelation_32 n call κ σ
          else
            some (some (.int 0), σ)
set_option maxHeartbeats 4000000 in
theorem qj_X7_isRelation_32 {κ : oKv} {n : Nat} {call : oCl} {kc : Nat → List Value → oSt → Option Value × oSt → Prop} {v : Option Value × oSt} {X : Nat → zLv → List Value → oSt → Prop} (hX : oSem RX7 cX7_isRelation 1 1 (some .boolean) κ kc v X) (hc : ∀ j av s w, call j av s = some w → kc j av s w) {σ : oSt} (h : oj_X7_isRelation_32 n call κ σ = some v) : X 32 [none] [] σ := by
  rw [oj_X7_isRelation_32] at h
  refine os_iconst (v := 1) hX dX7_isRelation_32 (by decide) ?_
  refine os_goto (tgt := 37) hX dX7_isRelation_33 (by decide) ?_
  exact os_nret (ty := .boolean) hX dX7_isRelation_37 rfl rfl (by decide) (Option.some.inj h)
set_option maxHeartbeats 4000000 in
theorem qb_X7_isRelation {κ : oKv} {n : Nat} {call : oCl} {kc : Nat → List Value → oSt → Option Value × oSt → Prop} {v : Option Value × oSt} {X : Nat → zLv → List Value → oSt → Prop} (hX : oSem RX7 cX7_isRelation 1 1 (some .boolean) κ kc v X) (hc : ∀ j av s w, call j av s = some w → kc j av s w) {x0 : Int32} {σ : oSt} (h : ob_X7_isRelation n call κ x0 σ = some v) : X 0 [some (.int x0)] [] σ := by
  rw [ob_X7_isRelation] at h
  refine os_iload_n hX dX7_isRelation_0 rfl rfl ?_
  refine os_bipush (v := 61) hX dX7_isRelation_1 (by decide) ?_
  refine os_icmp_eq (tgt := 32) hX dX7_isRelation_3 (by decide) (fun c1 => ?_) (fun c1 => ?_)
  · rw [if_pos c1] at h
    refine os_weak hX (lw := [none]) trivial ?_
    exact qj_X7_isRelation_32 hX hc h
  · rw [if_neg c1] at h
    refine os_iload_n hX dX7_isRelation_6 rfl rfl ?_
    refine os_bipush (v := 60) hX dX7_isRelation_7 (by decide) ?_
    refine os_icmp_eq (tgt := 32) hX dX7_isRelation_9 (by decide) (fun c2 => ?_) (fun c2 => ?_)
    · rw [if_pos c2] at h
      refine os_weak hX (lw := [none]) trivial ?_
      exact qj_X7_isRelation_32 hX hc h
    · rw [if_neg c2] at h
      refine os_iload_n hX dX7_isRelation_12 rfl rfl ?_
      refine os_sipush (v := 300) hX dX7_isRelation_13 (by decide) ?_
      refine os_icmp_eq (tgt := 32) hX dX7_isRelation_16 (by decide) (fun c3 => ?_) (fun c3 => ?_)
      · rw [if_pos c3] at h
        refine os_weak hX (lw := [none]) trivial ?_
        exact qj_X7_isRelation_32 hX hc h
      · rw [if_neg c3] at h
        refine os_iload_n hX dX7_isRelation_19 rfl rfl ?_
        refine os_bipush (v := 62) hX dX7_isRelation_20 (by decide) ?_
        refine os_icmp_eq (tgt := 32) hX dX7_isRelation_22 (by decide) (fun c4 => ?_) (fun c4 => ?_)
        · rw [if_pos c4] at h
          refine os_weak hX (lw := [none]) trivial ?_
          exact qj_X7_isRelation_32 hX hc h
        · rw [if_neg c4] at h
          refine os_iload_n hX dX7_isRelation_25 rfl rfl ?_
          refine os_sipush (v := 301) hX dX7_isRelation_26 (by decide) ?_
          refine os_icmp_ne (tgt := 36) hX dX7_isRelation_29 (by decide) (fun c5 => ?_) (fun c5 => ?_)
          · rw [if_neg c5] at h
            refine os_iconst (v := 0) hX dX7_isRelation_36 (by decide) ?_
            exact os_nret (ty := .boolean) hX dX7_isRelation_37 rfl rfl (by decide) (Option.some.inj h)
          · rw [if_pos c5] at h
            refine os_weak hX (lw := [none]) trivial ?_
            exact qj_X7_isRelation_32 hX hc h
def ol_X11_numberOf_9 (n : Nat) (call : oCl) (κ : oKv) : Nat → Option Nat → Int32 → Int32 → Int32 → oSt → oRs
  | 0, _, _, _, _, _ => none
  | f + 1, x0, x1, x2, x3, σ =>
    obn (ovr (ofd σ x0 13 3)) fun v1 =>
    obn (oai σ v1 .int x1) fun v3 =>
    if v3 ≤ x3 then
      some (some (.int x2), σ)
    else
      obn (ovr (ofd σ x0 13 0)) fun v6 =>
      obn (oSt' κ σ v6) fun a8 =>
      oin (call 201 [va_rf v6, .int x3] σ) fun r12 s10 =>
      ol_X11_numberOf_9 n call κ f x0 x1 (((x2 * 10) + r12) - 48) (x3 + 1) s10
def ob_X11_numberOf (n : Nat) (call : oCl) (κ : oKv) (x0 : Option Nat) (x1 : Int32) (σ : oSt) : oRs :=
  obn (ovr (ofd σ x0 13 2)) fun v1 =>
  obn (oai σ v1 .int x1) fun v3 =>
  ol_X11_numberOf_9 n call κ n x0 x1 0 v3 σ
set_option maxHeartbeats 4000000 in
theorem ql_X11_numberOf_9 {κ : oKv} {n : Nat} {call : oCl} {kc : Nat → List Value → oSt → Option Value × oSt → Prop} {v : Option Value × oSt} {X : Nat → zLv → List Value → oSt → Prop} (hX : oSem RX11 cX11_numberOf 4 0 (some .int) κ kc v X) (hc : ∀ j av s w, call j av s = some w → kc j av s w) : ∀ (f : Nat) (x0 : Option Nat) (x1 : Int32) (x2 : Int32) (x3 : Int32) (σ : oSt), ol_X11_numberOf_9 n call κ f x0 x1 x2 x3 σ = some v → X 9 [some (va_rf x0), some (.int x1), some (.int x2), some (.int x3)] [] σ := by
  intro f
  induction f with
  | zero => intro x0 x1 x2 x3 σ h; cases h
  | succ f hk9 =>
    intro x0 x1 x2 x3 σ h
    rw [ol_X11_numberOf_9] at h
    refine os_iload_n hX dX11_numberOf_9 rfl rfl ?_
    refine os_aload_n (r := x0) hX dX11_numberOf_10 rfl rfl ?_
    obtain ⟨v1, e2, h⟩ := obn_e h
    refine ow_get (r := x0) hX dX11_numberOf_11 oF_RX11_32 (ovr_e e2) ?_
    refine os_iload_n hX dX11_numberOf_14 rfl rfl ?_
    obtain ⟨v3, e4, h⟩ := obn_e h
    refine ow_ai (r := v1) (i := x1) hX dX11_numberOf_15 e4 ?_
    refine os_icmp_ge (tgt := 42) hX dX11_numberOf_16 (by decide) (fun c5 => ?_) (fun c5 => ?_)
    · rw [if_pos c5] at h
      refine os_iload_n hX dX11_numberOf_42 rfl rfl ?_
      exact os_iret hX dX11_numberOf_43 rfl (Option.some.inj h)
    · rw [if_neg c5] at h
      refine os_iload_n hX dX11_numberOf_19 rfl rfl ?_
      refine os_bipush (v := 10) hX dX11_numberOf_20 (by decide) ?_
      refine os_imul hX dX11_numberOf_22 ?_
      refine os_aload_n (r := x0) hX dX11_numberOf_23 rfl rfl ?_
      obtain ⟨v6, e7, h⟩ := obn_e h
      refine ow_get (r := x0) hX dX11_numberOf_24 oF_RX11_15 (ovr_e e7) ?_
      refine os_iload_n hX dX11_numberOf_27 rfl rfl ?_
      obtain ⟨a8, e9, h⟩ := obn_e h
      obtain ⟨r12, s10, e11, h⟩ := oin_e h
      refine oc_RX11_38 (rb := v6) (a1 := .int x3) hX dX11_numberOf_28 (Nat.le_of_ble_eq_true rfl) e9 (hc _ _ _ _ e11) ?_
      refine os_iadd hX dX11_numberOf_31 ?_
      refine os_bipush (v := 48) hX dX11_numberOf_32 (by decide) ?_
      refine os_isub hX dX11_numberOf_34 ?_
      refine os_istore_n hX dX11_numberOf_35 rfl (by decide) rfl ?_
      dsimp only [List.set]
      refine os_iinc (v := x3 + 1) hX dX11_numberOf_36 rfl rfl (by decide) rfl ?_
      dsimp only [List.set]
      refine os_goto (tgt := 9) hX dX11_numberOf_39 (by decide) ?_
      exact hk9 _ _ _ _ _ h
set_option maxHeartbeats 4000000 in
theorem qb_X11_numberOf {κ : oKv} {n : Nat} {call : oCl} {kc : Nat → List Value → oSt → Option Value × oSt → Prop} {v : Option Value × oSt} {X : Nat → zLv → List Value → oSt → Prop} (hX : oSem RX11 cX11_numberOf 4 0 (some .int) κ kc v X) (hc : ∀ j av s w, call j av s = some w → kc j av s w) {x0 : Option Nat} {x1 : Int32} {σ : oSt} (h : ob_X11_numberOf n call κ x0 x1 σ = some v) : X 0 [some (va_rf x0), some (.int x1), none, none] [] σ := by
  rw [ob_X11_numberOf] at h
  refine os_iconst (v := 0) hX dX11_numberOf_0 (by decide) ?_
  refine os_istore_n hX dX11_numberOf_1 rfl (by decide) rfl ?_
  dsimp only [List.set]
  refine os_aload_n (r := x0) hX dX11_numberOf_2 rfl rfl ?_
  obtain ⟨v1, e2, h⟩ := obn_e h
  refine ow_get (r := x0) hX dX11_numberOf_3 oF_RX11_29 (ovr_e e2) ?_
  refine os_iload_n hX dX11_numberOf_6 rfl rfl ?_
  obtain ⟨v3, e4, h⟩ := obn_e h
  refine ow_ai (r := v1) (i := x1) hX dX11_numberOf_7 e4 ?_
  refine os_istore_n hX dX11_numberOf_8 rfl (by decide) rfl ?_
  dsimp only [List.set]
  exact ql_X11_numberOf_9 hX hc n _ _ _ _ _ h
