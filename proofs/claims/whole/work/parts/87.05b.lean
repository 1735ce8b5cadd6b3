/-! the methods of the class as plain functions (79 to 92) -/
def ob_X3_pair (n : Nat) (call : oCl) (κ : oKv) (x0 : Option Nat) (x1 : Int64) (x3 : Int32) (σ : oSt) : oRs :=
  obn (oob σ x0 5) fun a1 =>
  oin (call 76 [va_rf x0, .int 2] σ) fun r5 s3 =>
  obn (ovr (ofd s3 x0 5 4)) fun v6 =>
  obn (osj s3 v6 r5 x1) fun s8 =>
  obn (ovr (ofd s8 x0 5 4)) fun v10 =>
  obn (osj s8 v10 (r5 + 1) x3.toInt64) fun s12 =>
  some (some (.int r5), s12)
set_option maxHeartbeats 4000000 in
theorem qb_X3_pair {κ : oKv} {n : Nat} {call : oCl} {kc : Nat → List Value → oSt → Option Value × oSt → Prop} {v : Option Value × oSt} {X : Nat → zLv → List Value → oSt → Prop} (hX : oSem RX3 cX3_pair 5 0 (some .int) κ kc v X) (hc : ∀ j av s w, call j av s = some w → kc j av s w) {x0 : Option Nat} {x1 : Int64} {x3 : Int32} {σ : oSt} (h : ob_X3_pair n call κ x0 x1 x3 σ = some v) : X 0 [some (va_rf x0), some (.long x1), none, some (.int x3), none] [] σ := by
  rw [ob_X3_pair] at h
  refine os_aload_n (r := x0) hX dX3_pair_0 rfl rfl ?_
  refine os_iconst (v := 2) hX dX3_pair_1 (by decide) ?_
  obtain ⟨a1, e2, h⟩ := obn_e h
  obtain ⟨r5, s3, e4, h⟩ := oin_e h
  refine oc_RX3_140 (rb := x0) (a1 := .int 2) hX dX3_pair_2 (Nat.le_of_ble_eq_true rfl) e2 (hc _ _ _ _ e4) ?_
  refine os_istore hX dX3_pair_5 (by decide) rfl ?_
  dsimp only [List.set]
  refine os_aload_n (r := x0) hX dX3_pair_7 rfl rfl ?_
  obtain ⟨v6, e7, h⟩ := obn_e h
  refine ow_get (r := x0) hX dX3_pair_8 oF_RX3_21 (ovr_e e7) ?_
  refine os_iload hX dX3_pair_11 rfl ?_
  refine os_lload_n hX dX3_pair_13 rfl rfl ?_
  obtain ⟨s8, e9, h⟩ := obn_e h
  refine ow_sj (r := v6) (i := r5) (x := x1) hX dX3_pair_14 e9 ?_
  refine os_aload_n (r := x0) hX dX3_pair_15 rfl rfl ?_
  obtain ⟨v10, e11, h⟩ := obn_e h
  refine ow_get (r := x0) hX dX3_pair_16 oF_RX3_21 (ovr_e e11) ?_
  refine os_iload hX dX3_pair_19 rfl ?_
  refine os_iconst (v := 1) hX dX3_pair_21 (by decide) ?_
  refine os_iadd hX dX3_pair_22 ?_
  refine os_iload_n hX dX3_pair_23 rfl rfl ?_
  refine os_i2l hX dX3_pair_24 ?_
  obtain ⟨s12, e13, h⟩ := obn_e h
  refine ow_sj (r := v10) (i := (r5 + 1)) (x := x3.toInt64) hX dX3_pair_25 e13 ?_
  refine os_iload hX dX3_pair_26 rfl ?_
  exact os_iret hX dX3_pair_28 rfl (Option.some.inj h)
def oj_X3_begin_92 (n : Nat) (call : oCl) (κ : oKv) (k32 : Option Nat → Int32 → oSt → oRs) (x0 : Option Nat) (x1 : Int32) (t0 : Option Nat) (t1 : Option Nat) (t2 : Int64) (σ : oSt) : oRs :=
  obn (ovi (ofd σ x0 5 10)) fun v1 =>
  obn (oob σ t1 5) fun a3 =>
  oin (call 79 [va_rf t1, .long t2, .int v1] σ) fun r7 s5 =>
  obn (opf s5 t0 5 10 (.int r7)) fun s8 =>
  k32 x0 (x1 + 1) s8
def oj_X3_begin_71 (n : Nat) (call : oCl) (κ : oKv) (k32 : Option Nat → Int32 → oSt → oRs) (x0 : Option Nat) (x1 : Int32) (t0 : Int32) (σ : oSt) : oRs :=
  if t0 = 0 then
    obn (ovr (ofd σ x0 5 2)) fun v2 =>
    obn (oaj σ v2 x1) fun v4 =>
    oj_X3_begin_92 n call κ k32 x0 x1 x0 x0 v4 σ
  else
    obn (oob σ x0 5) fun a6 =>
    oln' (call 78 [va_rf x0, .int x1] σ) fun r10 s8 =>
    oj_X3_begin_92 n call κ k32 x0 x1 x0 x0 r10 s8
def ol_X3_begin_32 (n : Nat) (call : oCl) (κ : oKv) : Nat → Option Nat → Int32 → oSt → oRs
  | 0, _, _, _ => none
  | f + 1, x0, x1, σ =>
    obn (ovr (ofd σ x0 5 0)) fun v1 =>
    obn (ovi (ofd σ v1 9 9)) fun v3 =>
    if v3 ≤ x1 then
      some (none, σ)
    else
      obn (ovr (ofd σ x0 5 0)) fun v6 =>
      obn (ovr (ofd σ v6 9 2)) fun v8 =>
      obn (oob σ v8 1) fun a10 =>
      orn (call 234 [va_rf v8, .int x1] σ) fun r14 s12 =>
      ogd (ocs s12 r14 6) (
      obn (ovi (ofd s12 r14 6 3)) fun v16 =>
      if v16 = 200 then
        oj_X3_begin_71 n call κ (ol_X3_begin_32 n call κ f) x0 x1 1 s12
      else
        oj_X3_begin_71 n call κ (ol_X3_begin_32 n call κ f) x0 x1 0 s12)
def ob_X3_begin (n : Nat) (call : oCl) (κ : oKv) (x0 : Option Nat) (σ : oSt) : oRs :=
  obn (opf σ x0 5 5 (.int 4)) fun s1 =>
  obn (opf s1 x0 5 9 (.int 0)) fun s3 =>
  obn (opf s3 x0 5 10 (.int 0)) fun s5 =>
  obn (opf s5 x0 5 13 (.int 0)) fun s7 =>
  obn (opf s7 x0 5 14 (.int 0)) fun s9 =>
  obn (opf s9 x0 5 15 (.long 0)) fun s11 =>
  ol_X3_begin_32 n call κ n x0 0 s11
set_option maxHeartbeats 4000000 in
theorem qj_X3_begin_92 {κ : oKv} {n : Nat} {call : oCl} {kc : Nat → List Value → oSt → Option Value × oSt → Prop} {v : Option Value × oSt} {X : Nat → zLv → List Value → oSt → Prop} (hX : oSem RX3 cX3_begin 3 0 none κ kc v X) (hc : ∀ j av s w, call j av s = some w → kc j av s w) {k32 : Option Nat → Int32 → oSt → oRs} (hk32 : ∀ (x0 : Option Nat) (x1 : Int32) (s : oSt), k32 x0 x1 s = some v → X 32 [some (va_rf x0), some (.int x1), none] [] s) {x0 : Option Nat} {x1 : Int32} {t0 : Option Nat} {t1 : Option Nat} {t2 : Int64} {σ : oSt} (h : oj_X3_begin_92 n call κ k32 x0 x1 t0 t1 t2 σ = some v) : X 92 [some (va_rf x0), some (.int x1), none] [.long t2, va_rf t1, va_rf t0] σ := by
  rw [oj_X3_begin_92] at h
  refine os_aload_n (r := x0) hX dX3_begin_92 rfl rfl ?_
  obtain ⟨v1, e2, h⟩ := obn_e h
  refine ow_get (r := x0) hX dX3_begin_93 oF_RX3_97 (ovi_e e2) ?_
  obtain ⟨a3, e4, h⟩ := obn_e h
  obtain ⟨r7, s5, e6, h⟩ := oin_e h
  refine oc_RX3_128 (rb := t1) (a1 := .long t2) (a2 := .int v1) hX dX3_begin_96 (by simp only [List.map_cons, List.map_nil, List.sum_cons, List.sum_nil, ocat]; exact Nat.le_of_ble_eq_true rfl) e4 (hc _ _ _ _ e6) ?_
  obtain ⟨s8, e9, h⟩ := obn_e h
  refine ow_put (r := t0) (x := .int r7) hX dX3_begin_99 oF_RX3_97 (by decide) (opn_I oT_5_10) e9 ?_
  refine os_iinc (v := x1 + 1) hX dX3_begin_102 rfl rfl (by decide) (ozlo (i := 0) (r := x0) rfl) ?_
  dsimp only [List.set]
  refine os_goto (tgt := 32) hX dX3_begin_105 (by decide) ?_
  exact hk32 _ _ _ h
set_option maxHeartbeats 4000000 in
theorem qj_X3_begin_71 {κ : oKv} {n : Nat} {call : oCl} {kc : Nat → List Value → oSt → Option Value × oSt → Prop} {v : Option Value × oSt} {X : Nat → zLv → List Value → oSt → Prop} (hX : oSem RX3 cX3_begin 3 0 none κ kc v X) (hc : ∀ j av s w, call j av s = some w → kc j av s w) {k32 : Option Nat → Int32 → oSt → oRs} (hk32 : ∀ (x0 : Option Nat) (x1 : Int32) (s : oSt), k32 x0 x1 s = some v → X 32 [some (va_rf x0), some (.int x1), none] [] s) {x0 : Option Nat} {x1 : Int32} {t0 : Int32} {σ : oSt} (h : oj_X3_begin_71 n call κ k32 x0 x1 t0 σ = some v) : X 71 [some (va_rf x0), some (.int x1), none] [.int t0] σ := by
  rw [oj_X3_begin_71] at h
  refine os_istore_n hX dX3_begin_71 rfl (by decide) rfl ?_
  dsimp only [List.set]
  refine os_aload_n (r := x0) hX dX3_begin_72 rfl rfl ?_
  refine os_aload_n (r := x0) hX dX3_begin_73 rfl rfl ?_
  refine os_iload_n hX dX3_begin_74 rfl rfl ?_
  refine os_if_eq (tgt := 86) hX dX3_begin_75 (by decide) (fun c1 => ?_) (fun c1 => ?_)
  · rw [if_pos c1] at h
    refine os_aload_n (r := x0) hX dX3_begin_86 rfl rfl ?_
    obtain ⟨v2, e3, h⟩ := obn_e h
    refine ow_get (r := x0) hX dX3_begin_87 oF_RX3_11 (ovr_e e3) ?_
    refine os_iload_n hX dX3_begin_90 rfl rfl ?_
    obtain ⟨v4, e5, h⟩ := obn_e h
    refine ow_aj (r := v2) (i := x1) hX dX3_begin_91 e5 ?_
    refine os_weak hX (lw := [some (va_rf x0), some (.int x1), none]) ⟨rfl, rfl, trivial⟩ ?_
    exact qj_X3_begin_92 hX hc hk32 h
  · rw [if_neg c1] at h
    refine os_aload_n (r := x0) hX dX3_begin_78 rfl rfl ?_
    refine os_iload_n hX dX3_begin_79 rfl rfl ?_
    obtain ⟨a6, e7, h⟩ := obn_e h
    obtain ⟨r10, s8, e9, h⟩ := oln'_e h
    refine oc_RX3_124 (rb := x0) (a1 := .int x1) hX dX3_begin_80 (by simp only [List.map_cons, List.map_nil, List.sum_cons, List.sum_nil, ocat]; exact Nat.le_of_ble_eq_true rfl) e7 (hc _ _ _ _ e9) ?_
    refine os_goto (tgt := 92) hX dX3_begin_83 (by decide) ?_
    refine os_weak hX (lw := [some (va_rf x0), some (.int x1), none]) ⟨rfl, rfl, trivial⟩ ?_
    exact qj_X3_begin_92 hX hc hk32 h
set_option maxHeartbeats 4000000 in
theorem ql_X3_begin_32 {κ : oKv} {n : Nat} {call : oCl} {kc : Nat → List Value → oSt → Option Value × oSt → Prop} {v : Option Value × oSt} {X : Nat → zLv → List Value → oSt → Prop} (hX : oSem RX3 cX3_begin 3 0 none κ kc v X) (hc : ∀ j av s w, call j av s = some w → kc j av s w) : ∀ (f : Nat) (x0 : Option Nat) (x1 : Int32) (σ : oSt), ol_X3_begin_32 n call κ f x0 x1 σ = some v → X 32 [some (va_rf x0), some (.int x1), none] [] σ := by
  intro f
  induction f with
  | zero => intro x0 x1 σ h; cases h
  | succ f hk32 =>
    intro x0 x1 σ h
    rw [ol_X3_begin_32] at h
    refine os_iload_n hX dX3_begin_32 rfl rfl ?_
    refine os_aload_n (r := x0) hX dX3_begin_33 rfl rfl ?_
    obtain ⟨v1, e2, h⟩ := obn_e h
    refine ow_get (r := x0) hX dX3_begin_34 oF_RX3_36 (ovr_e e2) ?_
    obtain ⟨v3, e4, h⟩ := obn_e h
    refine ow_get (r := v1) hX dX3_begin_37 oF_RX3_106 (ovi_e e4) ?_
    refine os_icmp_ge (tgt := 108) hX dX3_begin_40 (by decide) (fun c5 => ?_) (fun c5 => ?_)
    · rw [if_pos c5] at h
      exact os_vret hX dX3_begin_108 rfl (Option.some.inj h)
    · rw [if_neg c5] at h
      refine os_aload_n (r := x0) hX dX3_begin_43 rfl rfl ?_
      obtain ⟨v6, e7, h⟩ := obn_e h
      refine ow_get (r := x0) hX dX3_begin_44 oF_RX3_36 (ovr_e e7) ?_
      obtain ⟨v8, e9, h⟩ := obn_e h
      refine ow_get (r := v6) hX dX3_begin_47 oF_RX3_109 (ovr_e e9) ?_
      refine os_iload_n hX dX3_begin_50 rfl rfl ?_
      obtain ⟨a10, e11, h⟩ := obn_e h
      obtain ⟨r14, s12, e13, h⟩ := orn_e h
      refine oc_RX3_113 (rb := v8) (a1 := .int x1) hX dX3_begin_51 (Nat.le_of_ble_eq_true rfl) e11 (hc _ _ _ _ e13) ?_
      obtain ⟨b15, h⟩ := ogd_e h
      refine ow_cs (r := r14) hX dX3_begin_54 oK_RX3_119 b15 ?_
      obtain ⟨v16, e17, h⟩ := obn_e h
      refine ow_get (r := r14) hX dX3_begin_57 oF_RX3_121 (ovi_e e17) ?_
      refine os_sipush (v := 200) hX dX3_begin_60 (by decide) ?_
      refine os_icmp_ne (tgt := 70) hX dX3_begin_63 (by decide) (fun c18 => ?_) (fun c18 => ?_)
      · rw [if_neg c18] at h
        refine os_iconst (v := 0) hX dX3_begin_70 (by decide) ?_
        exact qj_X3_begin_71 hX hc hk32 h
      · rw [if_pos c18] at h
        refine os_iconst (v := 1) hX dX3_begin_66 (by decide) ?_
        refine os_goto (tgt := 71) hX dX3_begin_67 (by decide) ?_
        exact qj_X3_begin_71 hX hc hk32 h
set_option maxHeartbeats 4000000 in
theorem qb_X3_begin {κ : oKv} {n : Nat} {call : oCl} {kc : Nat → List Value → oSt → Option Value × oSt → Prop} {v : Option Value × oSt} {X : Nat → zLv → List Value → oSt → Prop} (hX : oSem RX3 cX3_begin 3 0 none κ kc v X) (hc : ∀ j av s w, call j av s = some w → kc j av s w) {x0 : Option Nat} {σ : oSt} (h : ob_X3_begin n call κ x0 σ = some v) : X 0 [some (va_rf x0), none, none] [] σ := by
  rw [ob_X3_begin] at h
  refine os_aload_n (r := x0) hX dX3_begin_0 rfl rfl ?_
  refine os_iconst (v := 4) hX dX3_begin_1 (by decide) ?_
  obtain ⟨s1, e2, h⟩ := obn_e h
  refine ow_put (r := x0) (x := .int 4) hX dX3_begin_2 oF_RX3_94 (by decide) (opn_I oT_5_5) e2 ?_
  refine os_aload_n (r := x0) hX dX3_begin_5 rfl rfl ?_
  refine os_iconst (v := 0) hX dX3_begin_6 (by decide) ?_
  obtain ⟨s3, e4, h⟩ := obn_e h
  refine ow_put (r := x0) (x := .int 0) hX dX3_begin_7 oF_RX3_73 (by decide) (opn_I oT_5_9) e4 ?_
  refine os_aload_n (r := x0) hX dX3_begin_10 rfl rfl ?_
  refine os_iconst (v := 0) hX dX3_begin_11 (by decide) ?_
  obtain ⟨s5, e6, h⟩ := obn_e h
  refine ow_put (r := x0) (x := .int 0) hX dX3_begin_12 oF_RX3_97 (by decide) (opn_I oT_5_10) e6 ?_
  refine os_aload_n (r := x0) hX dX3_begin_15 rfl rfl ?_
  refine os_iconst (v := 0) hX dX3_begin_16 (by decide) ?_
  obtain ⟨s7, e8, h⟩ := obn_e h
  refine ow_put (r := x0) (x := .int 0) hX dX3_begin_17 oF_RX3_100 (by decide) (opn_I oT_5_13) e8 ?_
  refine os_aload_n (r := x0) hX dX3_begin_20 rfl rfl ?_
  refine os_iconst (v := 0) hX dX3_begin_21 (by decide) ?_
  obtain ⟨s9, e10, h⟩ := obn_e h
  refine ow_put (r := x0) (x := .int 0) hX dX3_begin_22 oF_RX3_103 (by decide) (opn_I oT_5_14) e10 ?_
  refine os_aload_n (r := x0) hX dX3_begin_25 rfl rfl ?_
  refine os_lconst (v := 0) hX dX3_begin_26 (by decide) ?_
  obtain ⟨s11, e12, h⟩ := obn_e h
  refine ow_put (r := x0) (x := .long 0) hX dX3_begin_27 oF_RX3_87 (by decide) (opn_J oT_5_15) e12 ?_
  refine os_iconst (v := 0) hX dX3_begin_30 (by decide) ?_
  refine os_istore_n hX dX3_begin_31 rfl (by decide) (ozlo (i := 0) (r := x0) rfl) ?_
  dsimp only [List.set]
  exact ql_X3_begin_32 hX hc n _ _ _ h
def ob_X3_await (n : Nat) (call : oCl) (κ : oKv) (x0 : Option Nat) (x1 : Option Nat) (x2 : Int32) (x3 : Int32) (σ : oSt) : oRs :=
  obn (ovi (ofd σ x0 5 9)) fun v1 =>
  if v1 = 1683 then
    obn (opf σ x0 5 12 (.int 2)) fun s26 =>
    some (none, s26)
  else
    obn (ovr (ofd σ x0 5 6)) fun v4 =>
    obn (ovi (ofd σ x0 5 9)) fun v6 =>
    obn (osr σ v4 v6 x1) fun s8 =>
    obn (ovr (ofd s8 x0 5 7)) fun v10 =>
    obn (ovi (ofd s8 x0 5 9)) fun v12 =>
    obn (osi s8 v10 .int v12 x2) fun s14 =>
    obn (ovr (ofd s14 x0 5 8)) fun v16 =>
    obn (ovi (ofd s14 x0 5 9)) fun v18 =>
    obn (osi s14 v16 .int v18 x3) fun s20 =>
    obn (ovi (ofd s20 x0 5 9)) fun v22 =>
    obn (opf s20 x0 5 9 (.int (v22 + 1))) fun s24 =>
    some (none, s24)
set_option maxHeartbeats 4000000 in
theorem qb_X3_await {κ : oKv} {n : Nat} {call : oCl} {kc : Nat → List Value → oSt → Option Value × oSt → Prop} {v : Option Value × oSt} {X : Nat → zLv → List Value → oSt → Prop} (hX : oSem RX3 cX3_await 4 0 none κ kc v X) (hc : ∀ j av s w, call j av s = some w → kc j av s w) {x0 : Option Nat} {x1 : Option Nat} {x2 : Int32} {x3 : Int32} {σ : oSt} (h : ob_X3_await n call κ x0 x1 x2 x3 σ = some v) : X 0 [some (va_rf x0), some (va_rf x1), some (.int x2), some (.int x3)] [] σ := by
  rw [ob_X3_await] at h
  refine os_aload_n (r := x0) hX dX3_await_0 rfl rfl ?_
  obtain ⟨v1, e2, h⟩ := obn_e h
  refine ow_get (r := x0) hX dX3_await_1 oF_RX3_73 (ovi_e e2) ?_
  refine os_sipush (v := 1683) hX dX3_await_4 (by decide) ?_
  refine os_icmp_ne (tgt := 16) hX dX3_await_7 (by decide) (fun c3 => ?_) (fun c3 => ?_)
  · rw [if_neg c3] at h
    refine os_aload_n (r := x0) hX dX3_await_16 rfl rfl ?_
    obtain ⟨v4, e5, h⟩ := obn_e h
    refine ow_get (r := x0) hX dX3_await_17 oF_RX3_26 (ovr_e e5) ?_
    refine os_aload_n (r := x0) hX dX3_await_20 rfl rfl ?_
    obtain ⟨v6, e7, h⟩ := obn_e h
    refine ow_get (r := x0) hX dX3_await_21 oF_RX3_73 (ovi_e e7) ?_
    refine os_aload_n (r := x1) hX dX3_await_24 rfl rfl ?_
    obtain ⟨s8, e9, h⟩ := obn_e h
    refine ow_sr (r := v4) (i := v6) (y := x1) hX dX3_await_25 e9 ?_
    refine os_aload_n (r := x0) hX dX3_await_26 rfl rfl ?_
    obtain ⟨v10, e11, h⟩ := obn_e h
    refine ow_get (r := x0) hX dX3_await_27 oF_RX3_30 (ovr_e e11) ?_
    refine os_aload_n (r := x0) hX dX3_await_30 rfl rfl ?_
    obtain ⟨v12, e13, h⟩ := obn_e h
    refine ow_get (r := x0) hX dX3_await_31 oF_RX3_73 (ovi_e e13) ?_
    refine os_iload_n hX dX3_await_34 rfl rfl ?_
    obtain ⟨s14, e15, h⟩ := obn_e h
    refine ow_si (r := v10) (i := v12) (x := x2) hX dX3_await_35 e15 ?_
    refine os_aload_n (r := x0) hX dX3_await_36 rfl rfl ?_
    obtain ⟨v16, e17, h⟩ := obn_e h
    refine ow_get (r := x0) hX dX3_await_37 oF_RX3_33 (ovr_e e17) ?_
    refine os_aload_n (r := x0) hX dX3_await_40 rfl rfl ?_
    obtain ⟨v18, e19, h⟩ := obn_e h
    refine ow_get (r := x0) hX dX3_await_41 oF_RX3_73 (ovi_e e19) ?_
    refine os_iload_n hX dX3_await_44 rfl rfl ?_
    obtain ⟨s20, e21, h⟩ := obn_e h
    refine ow_si (r := v16) (i := v18) (x := x3) hX dX3_await_45 e21 ?_
    refine os_aload_n (r := x0) hX dX3_await_46 rfl rfl ?_
    refine os_dup hX dX3_await_47 (ocat x0) ?_
    obtain ⟨v22, e23, h⟩ := obn_e h
    refine ow_get (r := x0) hX dX3_await_48 oF_RX3_73 (ovi_e e23) ?_
    refine os_iconst (v := 1) hX dX3_await_51 (by decide) ?_
    refine os_iadd hX dX3_await_52 ?_
    obtain ⟨s24, e25, h⟩ := obn_e h
    refine ow_put (r := x0) (x := .int (v22 + 1)) hX dX3_await_53 oF_RX3_73 (by decide) (opn_I oT_5_9) e25 ?_
    exact os_vret hX dX3_await_56 rfl (Option.some.inj h)
  · rw [if_pos c3] at h
    refine os_aload_n (r := x0) hX dX3_await_10 rfl rfl ?_
    refine os_iconst (v := 2) hX dX3_await_11 (by decide) ?_
    obtain ⟨s26, e27, h⟩ := obn_e h
    refine ow_put (r := x0) (x := .int 2) hX dX3_await_12 oF_RX3_60 (by decide) (opn_I oT_5_12) e27 ?_
    exact os_vret hX dX3_await_15 rfl (Option.some.inj h)
def ob_X3_triple (n : Nat) (call : oCl) (κ : oKv) (x0 : Option Nat) (x1 : Int64) (x3 : Int64) (x5 : Int64) (σ : oSt) : oRs :=
  obn (oob σ x0 5) fun a1 =>
  oin (call 76 [va_rf x0, .int 3] σ) fun r5 s3 =>
  obn (ovr (ofd s3 x0 5 4)) fun v6 =>
  obn (osj s3 v6 r5 x1) fun s8 =>
  obn (ovr (ofd s8 x0 5 4)) fun v10 =>
  obn (osj s8 v10 (r5 + 1) x3) fun s12 =>
  obn (ovr (ofd s12 x0 5 4)) fun v14 =>
  obn (osj s12 v14 (r5 + 2) x5) fun s16 =>
  some (some (.int r5), s16)
set_option maxHeartbeats 4000000 in
theorem qb_X3_triple {κ : oKv} {n : Nat} {call : oCl} {kc : Nat → List Value → oSt → Option Value × oSt → Prop} {v : Option Value × oSt} {X : Nat → zLv → List Value → oSt → Prop} (hX : oSem RX3 cX3_triple 8 0 (some .int) κ kc v X) (hc : ∀ j av s w, call j av s = some w → kc j av s w) {x0 : Option Nat} {x1 : Int64} {x3 : Int64} {x5 : Int64} {σ : oSt} (h : ob_X3_triple n call κ x0 x1 x3 x5 σ = some v) : X 0 [some (va_rf x0), some (.long x1), none, some (.long x3), none, some (.long x5), none, none] [] σ := by
  rw [ob_X3_triple] at h
  refine os_aload_n (r := x0) hX dX3_triple_0 rfl rfl ?_
  refine os_iconst (v := 3) hX dX3_triple_1 (by decide) ?_
  obtain ⟨a1, e2, h⟩ := obn_e h
  obtain ⟨r5, s3, e4, h⟩ := oin_e h
  refine oc_RX3_140 (rb := x0) (a1 := .int 3) hX dX3_triple_2 (Nat.le_of_ble_eq_true rfl) e2 (hc _ _ _ _ e4) ?_
  refine os_istore hX dX3_triple_5 (by decide) rfl ?_
  dsimp only [List.set]
  refine os_aload_n (r := x0) hX dX3_triple_7 rfl rfl ?_
  obtain ⟨v6, e7, h⟩ := obn_e h
  refine ow_get (r := x0) hX dX3_triple_8 oF_RX3_21 (ovr_e e7) ?_
  refine os_iload hX dX3_triple_11 rfl ?_
  refine os_lload_n hX dX3_triple_13 rfl rfl ?_
  obtain ⟨s8, e9, h⟩ := obn_e h
  refine ow_sj (r := v6) (i := r5) (x := x1) hX dX3_triple_14 e9 ?_
  refine os_aload_n (r := x0) hX dX3_triple_15 rfl rfl ?_
  obtain ⟨v10, e11, h⟩ := obn_e h
  refine ow_get (r := x0) hX dX3_triple_16 oF_RX3_21 (ovr_e e11) ?_
  refine os_iload hX dX3_triple_19 rfl ?_
  refine os_iconst (v := 1) hX dX3_triple_21 (by decide) ?_
  refine os_iadd hX dX3_triple_22 ?_
  refine os_lload_n hX dX3_triple_23 rfl rfl ?_
  obtain ⟨s12, e13, h⟩ := obn_e h
  refine ow_sj (r := v10) (i := (r5 + 1)) (x := x3) hX dX3_triple_24 e13 ?_
  refine os_aload_n (r := x0) hX dX3_triple_25 rfl rfl ?_
  obtain ⟨v14, e15, h⟩ := obn_e h
  refine ow_get (r := x0) hX dX3_triple_26 oF_RX3_21 (ovr_e e15) ?_
  refine os_iload hX dX3_triple_29 rfl ?_
  refine os_iconst (v := 2) hX dX3_triple_31 (by decide) ?_
  refine os_iadd hX dX3_triple_32 ?_
  refine os_lload hX dX3_triple_33 rfl ?_
  obtain ⟨s16, e17, h⟩ := obn_e h
  refine ow_sj (r := v14) (i := (r5 + 2)) (x := x5) hX dX3_triple_35 e17 ?_
  refine os_iload hX dX3_triple_36 rfl ?_
  exact os_iret hX dX3_triple_38 rfl (Option.some.inj h)
def ol_X3_valueOf_13 (n : Nat) (call : oCl) (κ : oKv) : Nat → Option Nat → Int32 → Int32 → Int32 → oSt → oRs
  | 0, _, _, _, _, _ => none
  | f + 1, x0, x2, x3, x4, σ =>
    if x2 ≤ x4 then
      obn (ovr (ofd σ x0 5 4)) fun v2 =>
      obn (oaj σ v2 x3) fun v4 =>
      some (some (.long v4), σ)
    else
      obn (ovr (ofd σ x0 5 4)) fun v6 =>
      obn (oaj σ v6 (x3 + 1)) fun v8 =>
      ol_X3_valueOf_13 n call κ f x0 x2 v8.toInt32 (x4 + 1) σ
def ob_X3_valueOf (n : Nat) (call : oCl) (κ : oKv) (x0 : Option Nat) (x1 : Option Nat) (x2 : Int32) (σ : oSt) : oRs :=
  obn (ovi (ofd σ x0 5 10)) fun v1 =>
  obn (ovi (ofd σ x1 6 1)) fun v3 =>
  ol_X3_valueOf_13 n call κ n x0 x2 v1 (v3 + 1) σ
set_option maxHeartbeats 4000000 in
theorem ql_X3_valueOf_13 {κ : oKv} {n : Nat} {call : oCl} {kc : Nat → List Value → oSt → Option Value × oSt → Prop} {v : Option Value × oSt} {X : Nat → zLv → List Value → oSt → Prop} (hX : oSem RX3 cX3_valueOf 5 0 (some .long) κ kc v X) (hc : ∀ j av s w, call j av s = some w → kc j av s w) : ∀ (f : Nat) (x0 : Option Nat) (x2 : Int32) (x3 : Int32) (x4 : Int32) (σ : oSt), ol_X3_valueOf_13 n call κ f x0 x2 x3 x4 σ = some v → X 13 [some (va_rf x0), none, some (.int x2), some (.int x3), some (.int x4)] [] σ := by
  intro f
  induction f with
  | zero => intro x0 x2 x3 x4 σ h; cases h
  | succ f hk13 =>
    intro x0 x2 x3 x4 σ h
    rw [ol_X3_valueOf_13] at h
    refine os_iload hX dX3_valueOf_13 rfl ?_
    refine os_iload_n hX dX3_valueOf_15 rfl rfl ?_
    refine os_icmp_ge (tgt := 35) hX dX3_valueOf_16 (by decide) (fun c1 => ?_) (fun c1 => ?_)
    · rw [if_pos c1] at h
      refine os_aload_n (r := x0) hX dX3_valueOf_35 rfl rfl ?_
      obtain ⟨v2, e3, h⟩ := obn_e h
      refine ow_get (r := x0) hX dX3_valueOf_36 oF_RX3_21 (ovr_e e3) ?_
      refine os_iload_n hX dX3_valueOf_39 rfl rfl ?_
      obtain ⟨v4, e5, h⟩ := obn_e h
      refine ow_aj (r := v2) (i := x3) hX dX3_valueOf_40 e5 ?_
      exact os_lret hX dX3_valueOf_41 rfl (Option.some.inj h)
    · rw [if_neg c1] at h
      refine os_aload_n (r := x0) hX dX3_valueOf_19 rfl rfl ?_
      obtain ⟨v6, e7, h⟩ := obn_e h
      refine ow_get (r := x0) hX dX3_valueOf_20 oF_RX3_21 (ovr_e e7) ?_
      refine os_iload_n hX dX3_valueOf_23 rfl rfl ?_
      refine os_iconst (v := 1) hX dX3_valueOf_24 (by decide) ?_
      refine os_iadd hX dX3_valueOf_25 ?_
      obtain ⟨v8, e9, h⟩ := obn_e h
      refine ow_aj (r := v6) (i := (x3 + 1)) hX dX3_valueOf_26 e9 ?_
      refine os_l2i hX dX3_valueOf_27 ?_
      refine os_istore_n hX dX3_valueOf_28 rfl (by decide) rfl ?_
      dsimp only [List.set]
      refine os_iinc (v := x4 + 1) hX dX3_valueOf_29 rfl rfl (by decide) rfl ?_
      dsimp only [List.set]
      refine os_goto (tgt := 13) hX dX3_valueOf_32 (by decide) ?_
      exact hk13 _ _ _ _ _ h
set_option maxHeartbeats 4000000 in
theorem qb_X3_valueOf {κ : oKv} {n : Nat} {call : oCl} {kc : Nat → List Value → oSt → Option Value × oSt → Prop} {v : Option Value × oSt} {X : Nat → zLv → List Value → oSt → Prop} (hX : oSem RX3 cX3_valueOf 5 0 (some .long) κ kc v X) (hc : ∀ j av s w, call j av s = some w → kc j av s w) {x0 : Option Nat} {x1 : Option Nat} {x2 : Int32} {σ : oSt} (h : ob_X3_valueOf n call κ x0 x1 x2 σ = some v) : X 0 [some (va_rf x0), some (va_rf x1), some (.int x2), none, none] [] σ := by
  rw [ob_X3_valueOf] at h
  refine os_aload_n (r := x0) hX dX3_valueOf_0 rfl rfl ?_
  obtain ⟨v1, e2, h⟩ := obn_e h
  refine ow_get (r := x0) hX dX3_valueOf_1 oF_RX3_97 (ovi_e e2) ?_
  refine os_istore_n hX dX3_valueOf_4 rfl (by decide) rfl ?_
  dsimp only [List.set]
  refine os_aload_n (r := x1) hX dX3_valueOf_5 rfl rfl ?_
  obtain ⟨v3, e4, h⟩ := obn_e h
  refine ow_get (r := x1) hX dX3_valueOf_6 oF_RX3_280 (ovi_e e4) ?_
  refine os_iconst (v := 1) hX dX3_valueOf_9 (by decide) ?_
  refine os_iadd hX dX3_valueOf_10 ?_
  refine os_istore hX dX3_valueOf_11 (by decide) rfl ?_
  dsimp only [List.set]
  refine os_weak hX (lw := [some (va_rf x0), none, some (.int x2), some (.int v1), some (.int (v3 + 1))]) ⟨rfl, rfl, rfl, rfl, trivial⟩ ?_
  exact ql_X3_valueOf_13 hX hc n _ _ _ _ _ h
theorem olk_X3_measure_5 {x : Int32} (h0 : ¬ x = 200) (h1 : ¬ x = 206) (h2 : ¬ x = 213) : Op.lookupswitch.offset (#[(200, 35), (206, 62), (213, 43)] : Array (Int × Int)).toList 64 x.toInt = 64 := by
  have a0 := z_ne h0 (k := 200) (by decide)
  have a1 := z_ne h1 (k := 206) (by decide)
  have a2 := z_ne h2 (k := 213) (by decide)
  simp [Op.lookupswitch.offset, a0, Ne.symm a0, a1, Ne.symm a1, a2, Ne.symm a2]
def ob_X3_measure (n : Nat) (call : oCl) (κ : oKv) (x0 : Option Nat) (x1 : Int64) (x3 : Int32) (σ : oSt) : oRs :=
  if x3 = 200 then
    obn (ovr (ofd σ x0 5 4)) fun v2 =>
    obn (oaj σ v2 x1.toInt32) fun v4 =>
    some (some (.long v4), σ)
  else
  if x3 = 206 then
    some (some (.long 0), σ)
  else
  if x3 = 213 then
    if x1.toInt32 = 0 then
      some (some (.long 0), σ)
    else
      obn (ovr (ofd σ x0 5 4)) fun v9 =>
      obn (oaj σ v9 (x1.toInt32 + 2)) fun v11 =>
      some (some (.long v11), σ)
  else
  some (some (.long x1), σ)
set_option maxHeartbeats 4000000 in
theorem qb_X3_measure {κ : oKv} {n : Nat} {call : oCl} {kc : Nat → List Value → oSt → Option Value × oSt → Prop} {v : Option Value × oSt} {X : Nat → zLv → List Value → oSt → Prop} (hX : oSem RX3 cX3_measure 5 0 (some .long) κ kc v X) (hc : ∀ j av s w, call j av s = some w → kc j av s w) {x0 : Option Nat} {x1 : Int64} {x3 : Int32} {σ : oSt} (h : ob_X3_measure n call κ x0 x1 x3 σ = some v) : X 0 [some (va_rf x0), some (.long x1), none, some (.int x3), none] [] σ := by
  rw [ob_X3_measure] at h
  refine os_lload_n hX dX3_measure_0 rfl rfl ?_
  refine os_l2i hX dX3_measure_1 ?_
  refine os_istore hX dX3_measure_2 (by decide) rfl ?_
  dsimp only [List.set]
  refine os_iload_n hX dX3_measure_4 rfl rfl ?_
  by_cases c1 : x3 = 200
  · rw [if_pos c1] at h
    refine os_lookup (tgt := 40) (off := 35) hX dX3_measure_5 (by decide) (by rw [c1]; rfl) (by decide) ?_
    refine os_aload_n (r := x0) hX dX3_measure_40 rfl rfl ?_
    obtain ⟨v2, e3, h⟩ := obn_e h
    refine ow_get (r := x0) hX dX3_measure_41 oF_RX3_21 (ovr_e e3) ?_
    refine os_iload hX dX3_measure_44 rfl ?_
    obtain ⟨v4, e5, h⟩ := obn_e h
    refine ow_aj (r := v2) (i := x1.toInt32) hX dX3_measure_46 e5 ?_
    exact os_lret hX dX3_measure_47 rfl (Option.some.inj h)
  rw [if_neg c1] at h
  by_cases c6 : x3 = 206
  · rw [if_pos c6] at h
    refine os_lookup (tgt := 67) (off := 62) hX dX3_measure_5 (by decide) (by rw [c6]; rfl) (by decide) ?_
    refine os_lconst (v := 0) hX dX3_measure_67 (by decide) ?_
    exact os_lret hX dX3_measure_68 rfl (Option.some.inj h)
  rw [if_neg c6] at h
  by_cases c7 : x3 = 213
  · rw [if_pos c7] at h
    refine os_lookup (tgt := 48) (off := 43) hX dX3_measure_5 (by decide) (by rw [c7]; rfl) (by decide) ?_
    refine os_iload hX dX3_measure_48 rfl ?_
    refine os_if_ne (tgt := 57) hX dX3_measure_50 (by decide) (fun c8 => ?_) (fun c8 => ?_)
    · rw [if_neg c8] at h
      refine os_aload_n (r := x0) hX dX3_measure_57 rfl rfl ?_
      obtain ⟨v9, e10, h⟩ := obn_e h
      refine ow_get (r := x0) hX dX3_measure_58 oF_RX3_21 (ovr_e e10) ?_
      refine os_iload hX dX3_measure_61 rfl ?_
      refine os_iconst (v := 2) hX dX3_measure_63 (by decide) ?_
      refine os_iadd hX dX3_measure_64 ?_
      obtain ⟨v11, e12, h⟩ := obn_e h
      refine ow_aj (r := v9) (i := (x1.toInt32 + 2)) hX dX3_measure_65 e12 ?_
      exact os_lret hX dX3_measure_66 rfl (Option.some.inj h)
    · rw [if_pos c8] at h
      refine os_lconst (v := 0) hX dX3_measure_53 (by decide) ?_
      refine os_goto (tgt := 66) hX dX3_measure_54 (by decide) ?_
      exact os_lret hX dX3_measure_66 rfl (Option.some.inj h)
  rw [if_neg c7] at h
  refine os_lookup (tgt := 69) (off := 64) hX dX3_measure_5 (by decide) (olk_X3_measure_5 c1 c6 c7) (by decide) ?_
  refine os_lload_n hX dX3_measure_69 rfl rfl ?_
  exact os_lret hX dX3_measure_70 rfl (Option.some.inj h)
def ol_X3_sum_11 (n : Nat) (call : oCl) (κ : oKv) : Nat → Option Nat → Option Nat → Int64 → Int32 → oSt → oRs
  | 0, _, _, _, _, _ => none
  | f + 1, x0, x1, x2, x4, σ =>
    obn (ovr (ofd σ x1 7 19)) fun v1 =>
    obn (ovi (ofd σ v1 11 2)) fun v3 =>
    if v3 ≤ x4 then
      if (lg_cmp ((if 0 < x2 then x2 else -x2)) 1099511627776) ≤ 0 then
        some (some (.long x2), σ)
      else
        obn (ovi (ofd σ x0 5 12)) fun v7 =>
        if v7 = 0 then
          obn (opf σ x0 5 12 (.int 2)) fun s10 =>
          some (some (.long x2), s10)
        else
          some (some (.long x2), σ)
    else
      obn (ovr (ofd σ x1 7 19)) fun v12 =>
      obn (ovr (ofd σ v12 11 0)) fun v14 =>
      obn (oar σ v14 x4) fun v16 =>
      obn (ovr (ofd σ x1 7 19)) fun v18 =>
      obn (ovr (ofd σ v18 11 1)) fun v20 =>
      obn (oai σ v20 .int x4) fun v22 =>
      obn (ovi (ofd σ x1 7 2)) fun v24 =>
      obn (oob σ x0 5) fun a26 =>
      oln' (call 83 [va_rf x0, va_rf v16, .int v24] σ) fun r30 s28 =>
      obn (ovi (ofd s28 v16 6 3)) fun v31 =>
      obn (oob s28 x0 5) fun a33 =>
      oln' (call 84 [va_rf x0, .long r30, .int v31] s28) fun r37 s35 =>
      ol_X3_sum_11 n call κ f x0 x1 (x2 + (v22.toInt64 * r37)) (x4 + 1) s35
def ob_X3_sum (n : Nat) (call : oCl) (κ : oKv) (x0 : Option Nat) (x1 : Option Nat) (σ : oSt) : oRs :=
  obn (ovr (ofd σ x1 7 19)) fun v1 =>
  obn (ovl (ofd σ v1 11 3)) fun v3 =>
  ol_X3_sum_11 n call κ n x0 x1 v3 0 σ
set_option maxHeartbeats 4000000 in
theorem ql_X3_sum_11 {κ : oKv} {n : Nat} {call : oCl} {kc : Nat → List Value → oSt → Option Value × oSt → Prop} {v : Option Value × oSt} {X : Nat → zLv → List Value → oSt → Prop} (hX : oSem RX3 cX3_sum 6 0 (some .long) κ kc v X) (hc : ∀ j av s w, call j av s = some w → kc j av s w) : ∀ (f : Nat) (x0 : Option Nat) (x1 : Option Nat) (x2 : Int64) (x4 : Int32) (σ : oSt), ol_X3_sum_11 n call κ f x0 x1 x2 x4 σ = some v → X 11 [some (va_rf x0), some (va_rf x1), some (.long x2), none, some (.int x4), none] [] σ := by
  intro f
  induction f with
  | zero => intro x0 x1 x2 x4 σ h; cases h
  | succ f hk11 =>
    intro x0 x1 x2 x4 σ h
    rw [ol_X3_sum_11] at h
    refine os_iload hX dX3_sum_11 rfl ?_
    refine os_aload_n (r := x1) hX dX3_sum_13 rfl rfl ?_
    obtain ⟨v1, e2, h⟩ := obn_e h
    refine ow_get (r := x1) hX dX3_sum_14 oF_RX3_263 (ovr_e e2) ?_
    obtain ⟨v3, e4, h⟩ := obn_e h
    refine ow_get (r := v1) hX dX3_sum_17 oF_RX3_271 (ovi_e e4) ?_
    refine os_icmp_ge (tgt := 75) hX dX3_sum_20 (by decide) (fun c5 => ?_) (fun c5 => ?_)
    · rw [if_pos c5] at h
      refine os_lload_n hX dX3_sum_75 rfl rfl ?_
      refine os_mabsL hX dX3_sum_76 omabsL_RX3_249 (Nat.le_of_ble_eq_true rfl) ?_
      refine os_ldc2 (x := 1099511627776) hX dX3_sum_79 oCL_RX3_254 ?_
      refine os_lcmp hX dX3_sum_82 ?_
      refine os_if_le (tgt := 98) hX dX3_sum_83 (by decide) (fun c6 => ?_) (fun c6 => ?_)
      · rw [if_pos c6] at h
        refine os_lload_n hX dX3_sum_98 rfl rfl ?_
        exact os_lret hX dX3_sum_99 rfl (Option.some.inj h)
      · rw [if_neg c6] at h
        refine os_aload_n (r := x0) hX dX3_sum_86 rfl rfl ?_
        obtain ⟨v7, e8, h⟩ := obn_e h
        refine ow_get (r := x0) hX dX3_sum_87 oF_RX3_60 (ovi_e e8) ?_
        refine os_if_ne (tgt := 98) hX dX3_sum_90 (by decide) (fun c9 => ?_) (fun c9 => ?_)
        · rw [if_neg c9] at h
          refine os_lload_n hX dX3_sum_98 rfl rfl ?_
          exact os_lret hX dX3_sum_99 rfl (Option.some.inj h)
        · rw [if_pos c9] at h
          refine os_aload_n (r := x0) hX dX3_sum_93 rfl rfl ?_
          refine os_iconst (v := 2) hX dX3_sum_94 (by decide) ?_
          obtain ⟨s10, e11, h⟩ := obn_e h
          refine ow_put (r := x0) (x := .int 2) hX dX3_sum_95 oF_RX3_60 (by decide) (opn_I oT_5_12) e11 ?_
          refine os_lload_n hX dX3_sum_98 rfl rfl ?_
          exact os_lret hX dX3_sum_99 rfl (Option.some.inj h)
    · rw [if_neg c5] at h
      refine os_aload_n (r := x1) hX dX3_sum_23 rfl rfl ?_
      obtain ⟨v12, e13, h⟩ := obn_e h
      refine ow_get (r := x1) hX dX3_sum_24 oF_RX3_263 (ovr_e e13) ?_
      obtain ⟨v14, e15, h⟩ := obn_e h
      refine ow_get (r := v12) hX dX3_sum_27 oF_RX3_274 (ovr_e e15) ?_
      refine os_iload hX dX3_sum_30 rfl ?_
      obtain ⟨v16, e17, h⟩ := obn_e h
      refine ow_ar (r := v14) (i := x4) hX dX3_sum_32 e17 ?_
      refine os_astore (r := v16) hX dX3_sum_33 (by decide) rfl ?_
      dsimp only [List.set]
      refine os_lload_n hX dX3_sum_35 rfl rfl ?_
      refine os_aload_n (r := x1) hX dX3_sum_36 rfl rfl ?_
      obtain ⟨v18, e19, h⟩ := obn_e h
      refine ow_get (r := x1) hX dX3_sum_37 oF_RX3_263 (ovr_e e19) ?_
      obtain ⟨v20, e21, h⟩ := obn_e h
      refine ow_get (r := v18) hX dX3_sum_40 oF_RX3_277 (ovr_e e21) ?_
      refine os_iload hX dX3_sum_43 rfl ?_
      obtain ⟨v22, e23, h⟩ := obn_e h
      refine ow_ai (r := v20) (i := x4) hX dX3_sum_45 e23 ?_
      refine os_i2l hX dX3_sum_46 ?_
      refine os_aload_n (r := x0) hX dX3_sum_47 rfl rfl ?_
      refine os_aload_n (r := x0) hX dX3_sum_48 rfl rfl ?_
      refine os_aload (r := v16) hX dX3_sum_49 rfl ?_
      refine os_aload_n (r := x1) hX dX3_sum_51 rfl rfl ?_
      obtain ⟨v24, e25, h⟩ := obn_e h
      refine ow_get (r := x1) hX dX3_sum_52 oF_RX3_202 (ovi_e e25) ?_
      obtain ⟨a26, e27, h⟩ := obn_e h
      obtain ⟨r30, s28, e29, h⟩ := oln'_e h
      refine oc_RX3_205 (rb := x0) (a1 := va_rf v16) (a2 := .int v24) hX dX3_sum_55 (by simp only [List.map_cons, List.map_nil, List.sum_cons, List.sum_nil, ocat]; exact Nat.le_of_ble_eq_true rfl) e27 (hc _ _ _ _ e29) ?_
      refine os_aload (r := v16) hX dX3_sum_58 rfl ?_
      obtain ⟨v31, e32, h⟩ := obn_e h
      refine ow_get (r := v16) hX dX3_sum_60 oF_RX3_121 (ovi_e e32) ?_
      obtain ⟨a33, e34, h⟩ := obn_e h
      obtain ⟨r37, s35, e36, h⟩ := oln'_e h
      refine oc_RX3_90 (rb := x0) (a1 := .long r30) (a2 := .int v31) hX dX3_sum_63 (Nat.le_of_ble_eq_true rfl) e34 (hc _ _ _ _ e36) ?_
      refine os_lmul hX dX3_sum_66 ?_
      refine os_ladd hX dX3_sum_67 ?_
      refine os_lstore_n hX dX3_sum_68 rfl (by decide) (ozlo (i := 1) (r := x1) rfl) ?_
      dsimp only [List.set]
      refine os_iinc (v := x4 + 1) hX dX3_sum_69 rfl rfl (by decide) rfl ?_
      dsimp only [List.set]
      refine os_goto (tgt := 11) hX dX3_sum_72 (by decide) ?_
      refine os_weak hX (lw := [some (va_rf x0), some (va_rf x1), some (.long (x2 + (v22.toInt64 * r37))), none, some (.int (x4 + 1)), none]) ⟨rfl, rfl, rfl, rfl, trivial⟩ ?_
      exact hk11 _ _ _ _ _ h
set_option maxHeartbeats 4000000 in
theorem qb_X3_sum {κ : oKv} {n : Nat} {call : oCl} {kc : Nat → List Value → oSt → Option Value × oSt → Prop} {v : Option Value × oSt} {X : Nat → zLv → List Value → oSt → Prop} (hX : oSem RX3 cX3_sum 6 0 (some .long) κ kc v X) (hc : ∀ j av s w, call j av s = some w → kc j av s w) {x0 : Option Nat} {x1 : Option Nat} {σ : oSt} (h : ob_X3_sum n call κ x0 x1 σ = some v) : X 0 [some (va_rf x0), some (va_rf x1), none, none, none, none] [] σ := by
  rw [ob_X3_sum] at h
  refine os_aload_n (r := x1) hX dX3_sum_0 rfl rfl ?_
  obtain ⟨v1, e2, h⟩ := obn_e h
  refine ow_get (r := x1) hX dX3_sum_1 oF_RX3_263 (ovr_e e2) ?_
  obtain ⟨v3, e4, h⟩ := obn_e h
  refine ow_get (r := v1) hX dX3_sum_4 oF_RX3_266 (ovl_e e4) ?_
  refine os_lstore_n hX dX3_sum_7 rfl (by decide) (ozlo (i := 1) (r := x1) rfl) ?_
  dsimp only [List.set]
  refine os_iconst (v := 0) hX dX3_sum_8 (by decide) ?_
  refine os_istore hX dX3_sum_9 (by decide) rfl ?_
  dsimp only [List.set]
  exact ql_X3_sum_11 hX hc n _ _ _ _ _ h
theorem olk_X3_stands_20 {x : Int32} (h0 : ¬ x = 60) (h1 : ¬ x = 62) (h2 : ¬ x = 300) (h3 : ¬ x = 301) : Op.lookupswitch.offset (#[(60, 44), (62, 70), (300, 57), (301, 83)] : Array (Int × Int)).toList 96 x.toInt = 96 := by
  have a0 := z_ne h0 (k := 60) (by decide)
  have a1 := z_ne h1 (k := 62) (by decide)
  have a2 := z_ne h2 (k := 300) (by decide)
  have a3 := z_ne h3 (k := 301) (by decide)
  simp [Op.lookupswitch.offset, a0, Ne.symm a0, a1, Ne.symm a1, a2, Ne.symm a2, a3, Ne.symm a3]
def oj_X3_stands_139 (n : Nat) (call : oCl) (κ : oKv) (t0 : Int32) (t1 : Int32) (σ : oSt) : oRs :=
  if t0 = t1 then
    some (some (.int 1), σ)
  else
    some (some (.int 0), σ)
def oj_X3_stands_128 (n : Nat) (call : oCl) (κ : oKv) (x3 : Int32) (t0 : Int32) (σ : oSt) : oRs :=
  if x3 = 61 then
    oj_X3_stands_139 n call κ t0 1 σ
  else
    oj_X3_stands_139 n call κ t0 0 σ
def oj_X3_stands_17 (n : Nat) (call : oCl) (κ : oKv) (x1 : Int64) (x3 : Int32) (t0 : Int64) (σ : oSt) : oRs :=
  if x3 = 60 then
    if 0 ≤ (lg_cmp x1 t0) then
      some (some (.int 0), σ)
    else
      some (some (.int 1), σ)
  else
  if x3 = 62 then
    if (lg_cmp x1 t0) ≤ 0 then
      some (some (.int 0), σ)
    else
      some (some (.int 1), σ)
  else
  if x3 = 300 then
    if 0 < (lg_cmp x1 t0) then
      some (some (.int 0), σ)
    else
      some (some (.int 1), σ)
  else
  if x3 = 301 then
    if (lg_cmp x1 t0) < 0 then
      some (some (.int 0), σ)
    else
      some (some (.int 1), σ)
  else
  if (lg_cmp x1 t0) = 0 then
    oj_X3_stands_128 n call κ x3 1 σ
  else
    oj_X3_stands_128 n call κ x3 0 σ
def ob_X3_stands (n : Nat) (call : oCl) (κ : oKv) (x0 : Option Nat) (x1 : Int64) (x3 : Int32) (x4 : Option Nat) (σ : oSt) : oRs :=
  obn (ovi (ofd σ x0 5 12)) fun v1 =>
  if v1 = 0 then
    obn (oob σ x0 5) fun a4 =>
    oln' (call 85 [va_rf x0, va_rf x4] σ) fun r8 s6 =>
    oj_X3_stands_17 n call κ x1 x3 r8 s6
  else
    oj_X3_stands_17 n call κ x1 x3 0 σ
set_option maxHeartbeats 4000000 in
theorem qj_X3_stands_139 {κ : oKv} {n : Nat} {call : oCl} {kc : Nat → List Value → oSt → Option Value × oSt → Prop} {v : Option Value × oSt} {X : Nat → zLv → List Value → oSt → Prop} (hX : oSem RX3 cX3_stands 7 0 (some .boolean) κ kc v X) (hc : ∀ j av s w, call j av s = some w → kc j av s w) {t0 : Int32} {t1 : Int32} {σ : oSt} (h : oj_X3_stands_139 n call κ t0 t1 σ = some v) : X 139 [none, none, none, none, none, none, none] [.int t1, .int t0] σ := by
  rw [oj_X3_stands_139] at h
  refine os_icmp_ne (tgt := 146) hX dX3_stands_139 (by decide) (fun c1 => ?_) (fun c1 => ?_)
  · rw [if_neg c1] at h
    refine os_iconst (v := 0) hX dX3_stands_146 (by decide) ?_
    exact os_nret (ty := .boolean) hX dX3_stands_147 rfl rfl (by decide) (Option.some.inj h)
  · rw [if_pos c1] at h
    refine os_iconst (v := 1) hX dX3_stands_142 (by decide) ?_
    refine os_goto (tgt := 147) hX dX3_stands_143 (by decide) ?_
    exact os_nret (ty := .boolean) hX dX3_stands_147 rfl rfl (by decide) (Option.some.inj h)
set_option maxHeartbeats 4000000 in
theorem qj_X3_stands_128 {κ : oKv} {n : Nat} {call : oCl} {kc : Nat → List Value → oSt → Option Value × oSt → Prop} {v : Option Value × oSt} {X : Nat → zLv → List Value → oSt → Prop} (hX : oSem RX3 cX3_stands 7 0 (some .boolean) κ kc v X) (hc : ∀ j av s w, call j av s = some w → kc j av s w) {x3 : Int32} {t0 : Int32} {σ : oSt} (h : oj_X3_stands_128 n call κ x3 t0 σ = some v) : X 128 [none, none, none, some (.int x3), none, none, none] [.int t0] σ := by
  rw [oj_X3_stands_128] at h
  refine os_iload_n hX dX3_stands_128 rfl rfl ?_
  refine os_bipush (v := 61) hX dX3_stands_129 (by decide) ?_
  refine os_icmp_ne (tgt := 138) hX dX3_stands_131 (by decide) (fun c1 => ?_) (fun c1 => ?_)
  · rw [if_neg c1] at h
    refine os_iconst (v := 0) hX dX3_stands_138 (by decide) ?_
    refine os_weak hX (lw := [none, none, none, none, none, none, none]) trivial ?_
    exact qj_X3_stands_139 hX hc h
  · rw [if_pos c1] at h
    refine os_iconst (v := 1) hX dX3_stands_134 (by decide) ?_
    refine os_goto (tgt := 139) hX dX3_stands_135 (by decide) ?_
    refine os_weak hX (lw := [none, none, none, none, none, none, none]) trivial ?_
    exact qj_X3_stands_139 hX hc h
set_option maxHeartbeats 4000000 in
theorem qj_X3_stands_17 {κ : oKv} {n : Nat} {call : oCl} {kc : Nat → List Value → oSt → Option Value × oSt → Prop} {v : Option Value × oSt} {X : Nat → zLv → List Value → oSt → Prop} (hX : oSem RX3 cX3_stands 7 0 (some .boolean) κ kc v X) (hc : ∀ j av s w, call j av s = some w → kc j av s w) {x1 : Int64} {x3 : Int32} {t0 : Int64} {σ : oSt} (h : oj_X3_stands_17 n call κ x1 x3 t0 σ = some v) : X 17 [none, some (.long x1), none, some (.int x3), none, none, none] [.long t0] σ := by
  rw [oj_X3_stands_17] at h
  refine os_lstore hX dX3_stands_17 (by decide) rfl ?_
  dsimp only [List.set]
  refine os_iload_n hX dX3_stands_19 rfl rfl ?_
  by_cases c1 : x3 = 60
  · rw [if_pos c1] at h
    refine os_lookup (tgt := 64) (off := 44) hX dX3_stands_20 (by decide) (by rw [c1]; rfl) (by decide) ?_
    refine os_lload_n hX dX3_stands_64 rfl rfl ?_
    refine os_lload hX dX3_stands_65 rfl ?_
    refine os_lcmp hX dX3_stands_67 ?_
    refine os_if_ge (tgt := 75) hX dX3_stands_68 (by decide) (fun c2 => ?_) (fun c2 => ?_)
    · rw [if_pos c2] at h
      refine os_iconst (v := 0) hX dX3_stands_75 (by decide) ?_
      exact os_nret (ty := .boolean) hX dX3_stands_76 rfl rfl (by decide) (Option.some.inj h)
    · rw [if_neg c2] at h
      refine os_iconst (v := 1) hX dX3_stands_71 (by decide) ?_
      refine os_goto (tgt := 76) hX dX3_stands_72 (by decide) ?_
      exact os_nret (ty := .boolean) hX dX3_stands_76 rfl rfl (by decide) (Option.some.inj h)
  rw [if_neg c1] at h
  by_cases c3 : x3 = 62
  · rw [if_pos c3] at h
    refine os_lookup (tgt := 90) (off := 70) hX dX3_stands_20 (by decide) (by rw [c3]; rfl) (by decide) ?_
    refine os_lload_n hX dX3_stands_90 rfl rfl ?_
    refine os_lload hX dX3_stands_91 rfl ?_
    refine os_lcmp hX dX3_stands_93 ?_
    refine os_if_le (tgt := 101) hX dX3_stands_94 (by decide) (fun c4 => ?_) (fun c4 => ?_)
    · rw [if_pos c4] at h
      refine os_iconst (v := 0) hX dX3_stands_101 (by decide) ?_
      exact os_nret (ty := .boolean) hX dX3_stands_102 rfl rfl (by decide) (Option.some.inj h)
    · rw [if_neg c4] at h
      refine os_iconst (v := 1) hX dX3_stands_97 (by decide) ?_
      refine os_goto (tgt := 102) hX dX3_stands_98 (by decide) ?_
      exact os_nret (ty := .boolean) hX dX3_stands_102 rfl rfl (by decide) (Option.some.inj h)
  rw [if_neg c3] at h
  by_cases c5 : x3 = 300
  · rw [if_pos c5] at h
    refine os_lookup (tgt := 77) (off := 57) hX dX3_stands_20 (by decide) (by rw [c5]; rfl) (by decide) ?_
    refine os_lload_n hX dX3_stands_77 rfl rfl ?_
    refine os_lload hX dX3_stands_78 rfl ?_
    refine os_lcmp hX dX3_stands_80 ?_
    refine os_if_gt (tgt := 88) hX dX3_stands_81 (by decide) (fun c6 => ?_) (fun c6 => ?_)
    · rw [if_pos c6] at h
      refine os_iconst (v := 0) hX dX3_stands_88 (by decide) ?_
      exact os_nret (ty := .boolean) hX dX3_stands_89 rfl rfl (by decide) (Option.some.inj h)
    · rw [if_neg c6] at h
      refine os_iconst (v := 1) hX dX3_stands_84 (by decide) ?_
      refine os_goto (tgt := 89) hX dX3_stands_85 (by decide) ?_
      exact os_nret (ty := .boolean) hX dX3_stands_89 rfl rfl (by decide) (Option.some.inj h)
  rw [if_neg c5] at h
  by_cases c7 : x3 = 301
  · rw [if_pos c7] at h
    refine os_lookup (tgt := 103) (off := 83) hX dX3_stands_20 (by decide) (by rw [c7]; rfl) (by decide) ?_
    refine os_lload_n hX dX3_stands_103 rfl rfl ?_
    refine os_lload hX dX3_stands_104 rfl ?_
    refine os_lcmp hX dX3_stands_106 ?_
    refine os_if_lt (tgt := 114) hX dX3_stands_107 (by decide) (fun c8 => ?_) (fun c8 => ?_)
    · rw [if_pos c8] at h
      refine os_iconst (v := 0) hX dX3_stands_114 (by decide) ?_
      exact os_nret (ty := .boolean) hX dX3_stands_115 rfl rfl (by decide) (Option.some.inj h)
    · rw [if_neg c8] at h
      refine os_iconst (v := 1) hX dX3_stands_110 (by decide) ?_
      refine os_goto (tgt := 115) hX dX3_stands_111 (by decide) ?_
      exact os_nret (ty := .boolean) hX dX3_stands_115 rfl rfl (by decide) (Option.some.inj h)
  rw [if_neg c7] at h
  refine os_lookup (tgt := 116) (off := 96) hX dX3_stands_20 (by decide) (olk_X3_stands_20 c1 c3 c5 c7) (by decide) ?_
  refine os_lload_n hX dX3_stands_116 rfl rfl ?_
  refine os_lload hX dX3_stands_117 rfl ?_
  refine os_lcmp hX dX3_stands_119 ?_
  refine os_if_ne (tgt := 127) hX dX3_stands_120 (by decide) (fun c9 => ?_) (fun c9 => ?_)
  · rw [if_neg c9] at h
    refine os_iconst (v := 0) hX dX3_stands_127 (by decide) ?_
    refine os_weak hX (lw := [none, none, none, some (.int x3), none, none, none]) ⟨rfl, trivial⟩ ?_
    exact qj_X3_stands_128 hX hc h
  · rw [if_pos c9] at h
    refine os_iconst (v := 1) hX dX3_stands_123 (by decide) ?_
    refine os_goto (tgt := 128) hX dX3_stands_124 (by decide) ?_
    refine os_weak hX (lw := [none, none, none, some (.int x3), none, none, none]) ⟨rfl, trivial⟩ ?_
    exact qj_X3_stands_128 hX hc h
set_option maxHeartbeats 4000000 in
theorem qb_X3_stands {κ : oKv} {n : Nat} {call : oCl} {kc : Nat → List Value → oSt → Option Value × oSt → Prop} {v : Option Value × oSt} {X : Nat → zLv → List Value → oSt → Prop} (hX : oSem RX3 cX3_stands 7 0 (some .boolean) κ kc v X) (hc : ∀ j av s w, call j av s = some w → kc j av s w) {x0 : Option Nat} {x1 : Int64} {x3 : Int32} {x4 : Option Nat} {σ : oSt} (h : ob_X3_stands n call κ x0 x1 x3 x4 σ = some v) : X 0 [some (va_rf x0), some (.long x1), none, some (.int x3), some (va_rf x4), none, none] [] σ := by
  rw [ob_X3_stands] at h
  refine os_aload_n (r := x0) hX dX3_stands_0 rfl rfl ?_
  obtain ⟨v1, e2, h⟩ := obn_e h
  refine ow_get (r := x0) hX dX3_stands_1 oF_RX3_60 (ovi_e e2) ?_
  refine os_if_ne (tgt := 16) hX dX3_stands_4 (by decide) (fun c3 => ?_) (fun c3 => ?_)
  · rw [if_neg c3] at h
    refine os_lconst (v := 0) hX dX3_stands_16 (by decide) ?_
    refine os_weak hX (lw := [none, some (.long x1), none, some (.int x3), none, none, none]) ⟨rfl, rfl, trivial⟩ ?_
    exact qj_X3_stands_17 hX hc h
  · rw [if_pos c3] at h
    refine os_aload_n (r := x0) hX dX3_stands_7 rfl rfl ?_
    refine os_aload (r := x4) hX dX3_stands_8 rfl ?_
    obtain ⟨a4, e5, h⟩ := obn_e h
    obtain ⟨r8, s6, e7, h⟩ := oln'_e h
    refine oc_RX3_212 (rb := x0) (a1 := va_rf x4) hX dX3_stands_10 (Nat.le_of_ble_eq_true rfl) e5 (hc _ _ _ _ e7) ?_
    refine os_goto (tgt := 17) hX dX3_stands_13 (by decide) ?_
    refine os_weak hX (lw := [none, some (.long x1), none, some (.int x3), none, none, none]) ⟨rfl, rfl, trivial⟩ ?_
    exact qj_X3_stands_17 hX hc h
theorem olk_X3_holds_4 {x : Int32} (h0 : ¬ x = 217) (h1 : ¬ x = 302) (h2 : ¬ x = 303) (h3 : ¬ x = 402) (h4 : ¬ x = 403) : Op.lookupswitch.offset (#[(217, 52), (302, 69), (303, 69), (402, 142), (403, 165)] : Array (Int × Int)).toList 186 x.toInt = 186 := by
  have a0 := z_ne h0 (k := 217) (by decide)
  have a1 := z_ne h1 (k := 302) (by decide)
  have a2 := z_ne h2 (k := 303) (by decide)
  have a3 := z_ne h3 (k := 402) (by decide)
  have a4 := z_ne h4 (k := 403) (by decide)
  simp [Op.lookupswitch.offset, a0, Ne.symm a0, a1, Ne.symm a1, a2, Ne.symm a2, a3, Ne.symm a3, a4, Ne.symm a4]
def ol_X3_holds_91 (n : Nat) (call : oCl) (κ : oKv) : Nat → Option Nat → Option Nat → Int32 → Int32 → oSt → oRs
  | 0, _, _, _, _, _ => none
  | f + 1, x0, x1, x2, x3, σ =>
    obn (ovr (ofd σ x1 7 18)) fun v1 =>
    obn (oob σ v1 1) fun a3 =>
    oin (call 236 [va_rf v1] σ) fun r7 s5 =>
    if r7 ≤ x3 then
      ogd (onar .boolean x2) (some (some (.int x2), s5))
    else
      obn (ovi (ofd s5 x0 5 12)) fun v10 =>
      if v10 = 0 then
        obn (ovr (ofd s5 x1 7 18)) fun v14 =>
        obn (oob s5 v14 1) fun a16 =>
        orn (call 234 [va_rf v14, .int x3] s5) fun r20 s18 =>
        ogd (ocs s18 r20 7) (
        obn (oob s18 x0 5) fun a22 =>
        oin (call 87 [va_rf x0, va_rf r20] s18) fun r26 s24 =>
        if r26 = x2 then
          ol_X3_holds_91 n call κ f x0 x1 x2 (x3 + 1) s24
        else
          if x2 = 0 then
            some (some (.int 1), s24)
          else
            some (some (.int 0), s24))
      else
        ogd (onar .boolean x2) (some (some (.int x2), s5))
def oj_X3_holds_88 (n : Nat) (call : oCl) (κ : oKv) (x0 : Option Nat) (x1 : Option Nat) (t0 : Int32) (σ : oSt) : oRs :=
  ol_X3_holds_91 n call κ n x0 x1 t0 0 σ
def ob_X3_holds (n : Nat) (call : oCl) (κ : oKv) (x0 : Option Nat) (x1 : Option Nat) (σ : oSt) : oRs :=
  obn (ovi (ofd σ x1 7 0)) fun v1 =>
  if v1 = 217 then
    obn (ovr (ofd σ x1 7 12)) fun v4 =>
    obn (oob σ x0 5) fun a6 =>
    oin (call 87 [va_rf x0, va_rf v4] σ) fun r10 s8 =>
    if r10 = 0 then
      some (some (.int 1), s8)
    else
      some (some (.int 0), s8)
  else
  if v1 = 302 then
    obn (ovi (ofd σ x1 7 0)) fun v13 =>
    if v13 = 302 then
      oj_X3_holds_88 n call κ x0 x1 1 σ
    else
      oj_X3_holds_88 n call κ x0 x1 0 σ
  else
  if v1 = 303 then
    obn (ovi (ofd σ x1 7 0)) fun v17 =>
    if v17 = 302 then
      oj_X3_holds_88 n call κ x0 x1 1 σ
    else
      oj_X3_holds_88 n call κ x0 x1 0 σ
  else
  if v1 = 402 then
    obn (ovr (ofd σ x1 7 9)) fun v21 =>
    obn (ovi (ofd σ x1 7 2)) fun v23 =>
    obn (oob σ x0 5) fun a25 =>
    oln' (call 83 [va_rf x0, va_rf v21, .int v23] σ) fun r29 s27 =>
    if (lg_cmp r29 0) = 0 then
      some (some (.int 0), s27)
    else
      some (some (.int 1), s27)
  else
  if v1 = 403 then
    obn (ovr (ofd σ x1 7 15)) fun v32 =>
    obn (oob σ x0 5) fun a34 =>
    oln' (call 85 [va_rf x0, va_rf v32] σ) fun r38 s36 =>
    obn (ovi (ofd s36 x1 7 5)) fun v39 =>
    obn (ovr (ofd s36 x1 7 16)) fun v41 =>
    obn (oob s36 x0 5) fun a43 =>
    oin (call 86 [va_rf x0, .long r38, .int v39, va_rf v41] s36) fun r47 s45 =>
    ogd (onar .boolean r47) (some (some (.int r47), s45))
  else
  obn (ovi (ofd σ x1 7 0)) fun v49 =>
  if v49 = 223 then
    some (some (.int 1), σ)
  else
    some (some (.int 0), σ)
set_option maxHeartbeats 4000000 in
theorem ql_X3_holds_91 {κ : oKv} {n : Nat} {call : oCl} {kc : Nat → List Value → oSt → Option Value × oSt → Prop} {v : Option Value × oSt} {X : Nat → zLv → List Value → oSt → Prop} (hX : oSem RX3 cX3_holds 4 0 (some .boolean) κ kc v X) (hc : ∀ j av s w, call j av s = some w → kc j av s w) : ∀ (f : Nat) (x0 : Option Nat) (x1 : Option Nat) (x2 : Int32) (x3 : Int32) (σ : oSt), ol_X3_holds_91 n call κ f x0 x1 x2 x3 σ = some v → X 91 [some (va_rf x0), some (va_rf x1), some (.int x2), some (.int x3)] [] σ := by
  intro f
  induction f with
  | zero => intro x0 x1 x2 x3 σ h; cases h
  | succ f hk91 =>
    intro x0 x1 x2 x3 σ h
    rw [ol_X3_holds_91] at h
    refine os_iload_n hX dX3_holds_91 rfl rfl ?_
    refine os_aload_n (r := x1) hX dX3_holds_92 rfl rfl ?_
    obtain ⟨v1, e2, h⟩ := obn_e h
    refine ow_get (r := x1) hX dX3_holds_93 oF_RX3_188 (ovr_e e2) ?_
    obtain ⟨a3, e4, h⟩ := obn_e h
    obtain ⟨r7, s5, e6, h⟩ := oin_e h
    refine oc_RX3_191 (rb := v1)  hX dX3_holds_96 (Nat.le_of_ble_eq_true rfl) e4 (hc _ _ _ _ e6) ?_
    refine os_icmp_ge (tgt := 144) hX dX3_holds_99 (by decide) (fun c8 => ?_) (fun c8 => ?_)
    · rw [if_pos c8] at h
      refine os_iload_n hX dX3_holds_144 rfl rfl ?_
      obtain ⟨b9, h⟩ := ogd_e h
      exact os_nret (ty := .boolean) hX dX3_holds_145 rfl rfl (znz_ok b9) (Option.some.inj h)
    · rw [if_neg c8] at h
      refine os_aload_n (r := x0) hX dX3_holds_102 rfl rfl ?_
      obtain ⟨v10, e11, h⟩ := obn_e h
      refine ow_get (r := x0) hX dX3_holds_103 oF_RX3_60 (ovi_e e11) ?_
      refine os_if_ne (tgt := 144) hX dX3_holds_106 (by decide) (fun c12 => ?_) (fun c12 => ?_)
      · rw [if_neg c12] at h
        refine os_iload_n hX dX3_holds_144 rfl rfl ?_
        obtain ⟨b13, h⟩ := ogd_e h
        exact os_nret (ty := .boolean) hX dX3_holds_145 rfl rfl (znz_ok b13) (Option.some.inj h)
      · rw [if_pos c12] at h
        refine os_aload_n (r := x0) hX dX3_holds_109 rfl rfl ?_
        refine os_aload_n (r := x1) hX dX3_holds_110 rfl rfl ?_
        obtain ⟨v14, e15, h⟩ := obn_e h
        refine ow_get (r := x1) hX dX3_holds_111 oF_RX3_188 (ovr_e e15) ?_
        refine os_iload_n hX dX3_holds_114 rfl rfl ?_
        obtain ⟨a16, e17, h⟩ := obn_e h
        obtain ⟨r20, s18, e19, h⟩ := orn_e h
        refine oc_RX3_113 (rb := v14) (a1 := .int x3) hX dX3_holds_115 (by simp only [List.map_cons, List.map_nil, List.sum_cons, List.sum_nil, ocat]; exact Nat.le_of_ble_eq_true rfl) e17 (hc _ _ _ _ e19) ?_
        obtain ⟨b21, h⟩ := ogd_e h
        refine ow_cs (r := r20) hX dX3_holds_118 oK_RX3_24 b21 ?_
        obtain ⟨a22, e23, h⟩ := obn_e h
        obtain ⟨r26, s24, e25, h⟩ := oin_e h
        refine oc_RX3_166 (rb := x0) (a1 := va_rf r20) hX dX3_holds_121 (Nat.le_of_ble_eq_true rfl) e23 (hc _ _ _ _ e25) ?_
        refine os_iload_n hX dX3_holds_124 rfl rfl ?_
        refine os_icmp_eq (tgt := 138) hX dX3_holds_125 (by decide) (fun c27 => ?_) (fun c27 => ?_)
        · rw [if_pos c27] at h
          refine os_iinc (v := x3 + 1) hX dX3_holds_138 rfl rfl (by decide) rfl ?_
          dsimp only [List.set]
          refine os_goto (tgt := 91) hX dX3_holds_141 (by decide) ?_
          exact hk91 _ _ _ _ _ h
        · rw [if_neg c27] at h
          refine os_iload_n hX dX3_holds_128 rfl rfl ?_
          refine os_if_ne (tgt := 136) hX dX3_holds_129 (by decide) (fun c28 => ?_) (fun c28 => ?_)
          · rw [if_neg c28] at h
            refine os_iconst (v := 0) hX dX3_holds_136 (by decide) ?_
            exact os_nret (ty := .boolean) hX dX3_holds_137 rfl rfl (by decide) (Option.some.inj h)
          · rw [if_pos c28] at h
            refine os_iconst (v := 1) hX dX3_holds_132 (by decide) ?_
            refine os_goto (tgt := 137) hX dX3_holds_133 (by decide) ?_
            exact os_nret (ty := .boolean) hX dX3_holds_137 rfl rfl (by decide) (Option.some.inj h)
set_option maxHeartbeats 4000000 in
theorem qj_X3_holds_88 {κ : oKv} {n : Nat} {call : oCl} {kc : Nat → List Value → oSt → Option Value × oSt → Prop} {v : Option Value × oSt} {X : Nat → zLv → List Value → oSt → Prop} (hX : oSem RX3 cX3_holds 4 0 (some .boolean) κ kc v X) (hc : ∀ j av s w, call j av s = some w → kc j av s w) {x0 : Option Nat} {x1 : Option Nat} {t0 : Int32} {σ : oSt} (h : oj_X3_holds_88 n call κ x0 x1 t0 σ = some v) : X 88 [some (va_rf x0), some (va_rf x1), none, none] [.int t0] σ := by
  rw [oj_X3_holds_88] at h
  refine os_istore_n hX dX3_holds_88 rfl (by decide) (ozlo (i := 1) (r := x1) rfl) ?_
  dsimp only [List.set]
  refine os_iconst (v := 0) hX dX3_holds_89 (by decide) ?_
  refine os_istore_n hX dX3_holds_90 rfl (by decide) rfl ?_
  dsimp only [List.set]
  exact ql_X3_holds_91 hX hc n _ _ _ _ _ h
set_option maxHeartbeats 4000000 in
theorem qb_X3_holds {κ : oKv} {n : Nat} {call : oCl} {kc : Nat → List Value → oSt → Option Value × oSt → Prop} {v : Option Value × oSt} {X : Nat → zLv → List Value → oSt → Prop} (hX : oSem RX3 cX3_holds 4 0 (some .boolean) κ kc v X) (hc : ∀ j av s w, call j av s = some w → kc j av s w) {x0 : Option Nat} {x1 : Option Nat} {σ : oSt} (h : ob_X3_holds n call κ x0 x1 σ = some v) : X 0 [some (va_rf x0), some (va_rf x1), none, none] [] σ := by
  rw [ob_X3_holds] at h
  refine os_aload_n (r := x1) hX dX3_holds_0 rfl rfl ?_
  obtain ⟨v1, e2, h⟩ := obn_e h
  refine ow_get (r := x1) hX dX3_holds_1 oF_RX3_143 (ovi_e e2) ?_
  by_cases c3 : v1 = 217
  · rw [if_pos c3] at h
    refine os_lookup (tgt := 56) (off := 52) hX dX3_holds_4 (by decide) (by rw [c3]; rfl) (by decide) ?_
    refine os_aload_n (r := x0) hX dX3_holds_56 rfl rfl ?_
    refine os_aload_n (r := x1) hX dX3_holds_57 rfl rfl ?_
    obtain ⟨v4, e5, h⟩ := obn_e h
    refine ow_get (r := x1) hX dX3_holds_58 oF_RX3_150 (ovr_e e5) ?_
    obtain ⟨a6, e7, h⟩ := obn_e h
    obtain ⟨r10, s8, e9, h⟩ := oin_e h
    refine oc_RX3_166 (rb := x0) (a1 := va_rf v4) hX dX3_holds_61 (Nat.le_of_ble_eq_true rfl) e7 (hc _ _ _ _ e9) ?_
    refine os_if_ne (tgt := 71) hX dX3_holds_64 (by decide) (fun c11 => ?_) (fun c11 => ?_)
    · rw [if_neg c11] at h
      refine os_iconst (v := 0) hX dX3_holds_71 (by decide) ?_
      exact os_nret (ty := .boolean) hX dX3_holds_72 rfl rfl (by decide) (Option.some.inj h)
    · rw [if_pos c11] at h
      refine os_iconst (v := 1) hX dX3_holds_67 (by decide) ?_
      refine os_goto (tgt := 72) hX dX3_holds_68 (by decide) ?_
      exact os_nret (ty := .boolean) hX dX3_holds_72 rfl rfl (by decide) (Option.some.inj h)
  rw [if_neg c3] at h
  by_cases c12 : v1 = 302
  · rw [if_pos c12] at h
    refine os_lookup (tgt := 73) (off := 69) hX dX3_holds_4 (by decide) (by rw [c12]; rfl) (by decide) ?_
    refine os_aload_n (r := x1) hX dX3_holds_73 rfl rfl ?_
    obtain ⟨v13, e14, h⟩ := obn_e h
    refine ow_get (r := x1) hX dX3_holds_74 oF_RX3_143 (ovi_e e14) ?_
    refine os_sipush (v := 302) hX dX3_holds_77 (by decide) ?_
    refine os_icmp_ne (tgt := 87) hX dX3_holds_80 (by decide) (fun c15 => ?_) (fun c15 => ?_)
    · rw [if_neg c15] at h
      refine os_iconst (v := 0) hX dX3_holds_87 (by decide) ?_
      exact qj_X3_holds_88 hX hc h
    · rw [if_pos c15] at h
      refine os_iconst (v := 1) hX dX3_holds_83 (by decide) ?_
      refine os_goto (tgt := 88) hX dX3_holds_84 (by decide) ?_
      exact qj_X3_holds_88 hX hc h
  rw [if_neg c12] at h
  by_cases c16 : v1 = 303
  · rw [if_pos c16] at h
    refine os_lookup (tgt := 73) (off := 69) hX dX3_holds_4 (by decide) (by rw [c16]; rfl) (by decide) ?_
    refine os_aload_n (r := x1) hX dX3_holds_73 rfl rfl ?_
    obtain ⟨v17, e18, h⟩ := obn_e h
    refine ow_get (r := x1) hX dX3_holds_74 oF_RX3_143 (ovi_e e18) ?_
    refine os_sipush (v := 302) hX dX3_holds_77 (by decide) ?_
    refine os_icmp_ne (tgt := 87) hX dX3_holds_80 (by decide) (fun c19 => ?_) (fun c19 => ?_)
    · rw [if_neg c19] at h
      refine os_iconst (v := 0) hX dX3_holds_87 (by decide) ?_
      exact qj_X3_holds_88 hX hc h
    · rw [if_pos c19] at h
      refine os_iconst (v := 1) hX dX3_holds_83 (by decide) ?_
      refine os_goto (tgt := 88) hX dX3_holds_84 (by decide) ?_
      exact qj_X3_holds_88 hX hc h
  rw [if_neg c16] at h
  by_cases c20 : v1 = 402
  · rw [if_pos c20] at h
    refine os_lookup (tgt := 146) (off := 142) hX dX3_holds_4 (by decide) (by rw [c20]; rfl) (by decide) ?_
    refine os_aload_n (r := x0) hX dX3_holds_146 rfl rfl ?_
    refine os_aload_n (r := x1) hX dX3_holds_147 rfl rfl ?_
    obtain ⟨v21, e22, h⟩ := obn_e h
    refine ow_get (r := x1) hX dX3_holds_148 oF_RX3_198 (ovr_e e22) ?_
    refine os_aload_n (r := x1) hX dX3_holds_151 rfl rfl ?_
    obtain ⟨v23, e24, h⟩ := obn_e h
    refine ow_get (r := x1) hX dX3_holds_152 oF_RX3_202 (ovi_e e24) ?_
    obtain ⟨a25, e26, h⟩ := obn_e h
    obtain ⟨r29, s27, e28, h⟩ := oln'_e h
    refine oc_RX3_205 (rb := x0) (a1 := va_rf v21) (a2 := .int v23) hX dX3_holds_155 (Nat.le_of_ble_eq_true rfl) e26 (hc _ _ _ _ e28) ?_
    refine os_lconst (v := 0) hX dX3_holds_158 (by decide) ?_
    refine os_lcmp hX dX3_holds_159 ?_
    refine os_if_eq (tgt := 167) hX dX3_holds_160 (by decide) (fun c30 => ?_) (fun c30 => ?_)
    · rw [if_pos c30] at h
      refine os_iconst (v := 0) hX dX3_holds_167 (by decide) ?_
      exact os_nret (ty := .boolean) hX dX3_holds_168 rfl rfl (by decide) (Option.some.inj h)
    · rw [if_neg c30] at h
      refine os_iconst (v := 1) hX dX3_holds_163 (by decide) ?_
      refine os_goto (tgt := 168) hX dX3_holds_164 (by decide) ?_
      exact os_nret (ty := .boolean) hX dX3_holds_168 rfl rfl (by decide) (Option.some.inj h)
  rw [if_neg c20] at h
  by_cases c31 : v1 = 403
  · rw [if_pos c31] at h
    refine os_lookup (tgt := 169) (off := 165) hX dX3_holds_4 (by decide) (by rw [c31]; rfl) (by decide) ?_
    refine os_aload_n (r := x0) hX dX3_holds_169 rfl rfl ?_
    refine os_aload_n (r := x0) hX dX3_holds_170 rfl rfl ?_
    refine os_aload_n (r := x1) hX dX3_holds_171 rfl rfl ?_
    obtain ⟨v32, e33, h⟩ := obn_e h
    refine ow_get (r := x1) hX dX3_holds_172 oF_RX3_228 (ovr_e e33) ?_
    obtain ⟨a34, e35, h⟩ := obn_e h
    obtain ⟨r38, s36, e37, h⟩ := oln'_e h
    refine oc_RX3_212 (rb := x0) (a1 := va_rf v32) hX dX3_holds_175 (by simp only [List.map_cons, List.map_nil, List.sum_cons, List.sum_nil, ocat]; exact Nat.le_of_ble_eq_true rfl) e35 (hc _ _ _ _ e37) ?_
    refine os_aload_n (r := x1) hX dX3_holds_178 rfl rfl ?_
    obtain ⟨v39, e40, h⟩ := obn_e h
    refine ow_get (r := x1) hX dX3_holds_179 oF_RX3_283 (ovi_e e40) ?_
    refine os_aload_n (r := x1) hX dX3_holds_182 rfl rfl ?_
    obtain ⟨v41, e42, h⟩ := obn_e h
    refine ow_get (r := x1) hX dX3_holds_183 oF_RX3_225 (ovr_e e42) ?_
    obtain ⟨a43, e44, h⟩ := obn_e h
    obtain ⟨r47, s45, e46, h⟩ := oin_e h
    refine oc_RX3_286 (rb := x0) (a1 := .long r38) (a2 := .int v39) (a3 := va_rf v41) hX dX3_holds_186 (Nat.le_of_ble_eq_true rfl) e44 (hc _ _ _ _ e46) ?_
    obtain ⟨b48, h⟩ := ogd_e h
    exact os_nret (ty := .boolean) hX dX3_holds_189 rfl rfl (znz_ok b48) (Option.some.inj h)
  rw [if_neg c31] at h
  refine os_lookup (tgt := 190) (off := 186) hX dX3_holds_4 (by decide) (olk_X3_holds_4 c3 c12 c16 c20 c31) (by decide) ?_
  refine os_aload_n (r := x1) hX dX3_holds_190 rfl rfl ?_
  obtain ⟨v49, e50, h⟩ := obn_e h
  refine ow_get (r := x1) hX dX3_holds_191 oF_RX3_143 (ovi_e e50) ?_
  refine os_sipush (v := 223) hX dX3_holds_194 (by decide) ?_
  refine os_icmp_ne (tgt := 204) hX dX3_holds_197 (by decide) (fun c51 => ?_) (fun c51 => ?_)
  · rw [if_neg c51] at h
    refine os_iconst (v := 0) hX dX3_holds_204 (by decide) ?_
    exact os_nret (ty := .boolean) hX dX3_holds_205 rfl rfl (by decide) (Option.some.inj h)
  · rw [if_pos c51] at h
    refine os_iconst (v := 1) hX dX3_holds_200 (by decide) ?_
    refine os_goto (tgt := 205) hX dX3_holds_201 (by decide) ?_
    exact os_nret (ty := .boolean) hX dX3_holds_205 rfl rfl (by decide) (Option.some.inj h)
def oj_X3_elementOf_52 (n : Nat) (call : oCl) (κ : oKv) (x0 : Option Nat) (x2 : Int32) (x3 : Int64) (σ : oSt) : oRs :=
  obn (ovi (ofd σ x0 5 12)) fun v1 =>
  if v1 = 0 then
    some (some (.int ((x2 + 1) + x3.toInt32)), σ)
  else
    some (some (.int 0), σ)
def oj_X3_elementOf_47 (n : Nat) (call : oCl) (κ : oKv) (x0 : Option Nat) (x2 : Int32) (x3 : Int64) (σ : oSt) : oRs :=
  obn (opf σ x0 5 12 (.int 5)) fun s1 =>
  oj_X3_elementOf_52 n call κ x0 x2 x3 s1
def ob_X3_elementOf (n : Nat) (call : oCl) (κ : oKv) (x0 : Option Nat) (x1 : Option Nat) (σ : oSt) : oRs :=
  obn (ovr (ofd σ x1 7 9)) fun v1 =>
  obn (ovi (ofd σ x1 7 2)) fun v3 =>
  obn (oob σ x0 5) fun a5 =>
  oln' (call 83 [va_rf x0, va_rf v1, .int v3] σ) fun r9 s7 =>
  obn (ovr (ofd s7 x1 7 15)) fun v10 =>
  obn (oob s7 x0 5) fun a12 =>
  oln' (call 85 [va_rf x0, va_rf v10] s7) fun r16 s14 =>
  obn (ovi (ofd s14 x0 5 12)) fun v17 =>
  if v17 = 0 then
    if (lg_cmp r16 0) < 0 then
      oj_X3_elementOf_47 n call κ x0 r9.toInt32 r16 s14
    else
      obn (ovr (ofd s14 x0 5 4)) fun v21 =>
      obn (oaj s14 v21 r9.toInt32) fun v23 =>
      if (lg_cmp r16 v23) < 0 then
        oj_X3_elementOf_52 n call κ x0 r9.toInt32 r16 s14
      else
        oj_X3_elementOf_47 n call κ x0 r9.toInt32 r16 s14
  else
    oj_X3_elementOf_52 n call κ x0 r9.toInt32 r16 s14
set_option maxHeartbeats 4000000 in
theorem qj_X3_elementOf_52 {κ : oKv} {n : Nat} {call : oCl} {kc : Nat → List Value → oSt → Option Value × oSt → Prop} {v : Option Value × oSt} {X : Nat → zLv → List Value → oSt → Prop} (hX : oSem RX3 cX3_elementOf 5 0 (some .int) κ kc v X) (hc : ∀ j av s w, call j av s = some w → kc j av s w) {x0 : Option Nat} {x2 : Int32} {x3 : Int64} {σ : oSt} (h : oj_X3_elementOf_52 n call κ x0 x2 x3 σ = some v) : X 52 [some (va_rf x0), none, some (.int x2), some (.long x3), none] [] σ := by
  rw [oj_X3_elementOf_52] at h
  refine os_aload_n (r := x0) hX dX3_elementOf_52 rfl rfl ?_
  obtain ⟨v1, e2, h⟩ := obn_e h
  refine ow_get (r := x0) hX dX3_elementOf_53 oF_RX3_60 (ovi_e e2) ?_
  refine os_if_ne (tgt := 68) hX dX3_elementOf_56 (by decide) (fun c3 => ?_) (fun c3 => ?_)
  · rw [if_neg c3] at h
    refine os_iconst (v := 0) hX dX3_elementOf_68 (by decide) ?_
    exact os_iret hX dX3_elementOf_69 rfl (Option.some.inj h)
  · rw [if_pos c3] at h
    refine os_iload_n hX dX3_elementOf_59 rfl rfl ?_
    refine os_iconst (v := 1) hX dX3_elementOf_60 (by decide) ?_
    refine os_iadd hX dX3_elementOf_61 ?_
    refine os_lload_n hX dX3_elementOf_62 rfl rfl ?_
    refine os_l2i hX dX3_elementOf_63 ?_
    refine os_iadd hX dX3_elementOf_64 ?_
    refine os_goto (tgt := 69) hX dX3_elementOf_65 (by decide) ?_
    exact os_iret hX dX3_elementOf_69 rfl (Option.some.inj h)
set_option maxHeartbeats 4000000 in
theorem qj_X3_elementOf_47 {κ : oKv} {n : Nat} {call : oCl} {kc : Nat → List Value → oSt → Option Value × oSt → Prop} {v : Option Value × oSt} {X : Nat → zLv → List Value → oSt → Prop} (hX : oSem RX3 cX3_elementOf 5 0 (some .int) κ kc v X) (hc : ∀ j av s w, call j av s = some w → kc j av s w) {x0 : Option Nat} {x2 : Int32} {x3 : Int64} {σ : oSt} (h : oj_X3_elementOf_47 n call κ x0 x2 x3 σ = some v) : X 47 [some (va_rf x0), none, some (.int x2), some (.long x3), none] [] σ := by
  rw [oj_X3_elementOf_47] at h
  refine os_aload_n (r := x0) hX dX3_elementOf_47 rfl rfl ?_
  refine os_iconst (v := 5) hX dX3_elementOf_48 (by decide) ?_
  obtain ⟨s1, e2, h⟩ := obn_e h
  refine ow_put (r := x0) (x := .int 5) hX dX3_elementOf_49 oF_RX3_60 (by decide) (opn_I oT_5_12) e2 ?_
  exact qj_X3_elementOf_52 hX hc h
set_option maxHeartbeats 4000000 in
theorem qb_X3_elementOf {κ : oKv} {n : Nat} {call : oCl} {kc : Nat → List Value → oSt → Option Value × oSt → Prop} {v : Option Value × oSt} {X : Nat → zLv → List Value → oSt → Prop} (hX : oSem RX3 cX3_elementOf 5 0 (some .int) κ kc v X) (hc : ∀ j av s w, call j av s = some w → kc j av s w) {x0 : Option Nat} {x1 : Option Nat} {σ : oSt} (h : ob_X3_elementOf n call κ x0 x1 σ = some v) : X 0 [some (va_rf x0), some (va_rf x1), none, none, none] [] σ := by
  rw [ob_X3_elementOf] at h
  refine os_aload_n (r := x0) hX dX3_elementOf_0 rfl rfl ?_
  refine os_aload_n (r := x1) hX dX3_elementOf_1 rfl rfl ?_
  obtain ⟨v1, e2, h⟩ := obn_e h
  refine ow_get (r := x1) hX dX3_elementOf_2 oF_RX3_198 (ovr_e e2) ?_
  refine os_aload_n (r := x1) hX dX3_elementOf_5 rfl rfl ?_
  obtain ⟨v3, e4, h⟩ := obn_e h
  refine ow_get (r := x1) hX dX3_elementOf_6 oF_RX3_202 (ovi_e e4) ?_
  obtain ⟨a5, e6, h⟩ := obn_e h
  obtain ⟨r9, s7, e8, h⟩ := oln'_e h
  refine oc_RX3_205 (rb := x0) (a1 := va_rf v1) (a2 := .int v3) hX dX3_elementOf_9 (Nat.le_of_ble_eq_true rfl) e6 (hc _ _ _ _ e8) ?_
  refine os_l2i hX dX3_elementOf_12 ?_
  refine os_istore_n hX dX3_elementOf_13 rfl (by decide) (ozlo (i := 1) (r := x1) rfl) ?_
  dsimp only [List.set]
  refine os_aload_n (r := x0) hX dX3_elementOf_14 rfl rfl ?_
  refine os_aload_n (r := x1) hX dX3_elementOf_15 rfl rfl ?_
  obtain ⟨v10, e11, h⟩ := obn_e h
  refine ow_get (r := x1) hX dX3_elementOf_16 oF_RX3_228 (ovr_e e11) ?_
  obtain ⟨a12, e13, h⟩ := obn_e h
  obtain ⟨r16, s14, e15, h⟩ := oln'_e h
  refine oc_RX3_212 (rb := x0) (a1 := va_rf v10) hX dX3_elementOf_19 (Nat.le_of_ble_eq_true rfl) e13 (hc _ _ _ _ e15) ?_
  refine os_lstore_n hX dX3_elementOf_22 rfl (by decide) rfl ?_
  dsimp only [List.set]
  refine os_aload_n (r := x0) hX dX3_elementOf_23 rfl rfl ?_
  obtain ⟨v17, e18, h⟩ := obn_e h
  refine ow_get (r := x0) hX dX3_elementOf_24 oF_RX3_60 (ovi_e e18) ?_
  refine os_if_ne (tgt := 52) hX dX3_elementOf_27 (by decide) (fun c19 => ?_) (fun c19 => ?_)
  · rw [if_neg c19] at h
    refine os_weak hX (lw := [some (va_rf x0), none, some (.int r9.toInt32), some (.long r16), none]) ⟨rfl, rfl, rfl, trivial⟩ ?_
    exact qj_X3_elementOf_52 hX hc h
  · rw [if_pos c19] at h
    refine os_lload_n hX dX3_elementOf_30 rfl rfl ?_
    refine os_lconst (v := 0) hX dX3_elementOf_31 (by decide) ?_
    refine os_lcmp hX dX3_elementOf_32 ?_
    refine os_if_lt (tgt := 47) hX dX3_elementOf_33 (by decide) (fun c20 => ?_) (fun c20 => ?_)
    · rw [if_pos c20] at h
      refine os_weak hX (lw := [some (va_rf x0), none, some (.int r9.toInt32), some (.long r16), none]) ⟨rfl, rfl, rfl, trivial⟩ ?_
      exact qj_X3_elementOf_47 hX hc h
    · rw [if_neg c20] at h
      refine os_lload_n hX dX3_elementOf_36 rfl rfl ?_
      refine os_aload_n (r := x0) hX dX3_elementOf_37 rfl rfl ?_
      obtain ⟨v21, e22, h⟩ := obn_e h
      refine ow_get (r := x0) hX dX3_elementOf_38 oF_RX3_21 (ovr_e e22) ?_
      refine os_iload_n hX dX3_elementOf_41 rfl rfl ?_
      obtain ⟨v23, e24, h⟩ := obn_e h
      refine ow_aj (r := v21) (i := r9.toInt32) hX dX3_elementOf_42 e24 ?_
      refine os_lcmp hX dX3_elementOf_43 ?_
      refine os_if_lt (tgt := 52) hX dX3_elementOf_44 (by decide) (fun c25 => ?_) (fun c25 => ?_)
      · rw [if_pos c25] at h
        refine os_weak hX (lw := [some (va_rf x0), none, some (.int r9.toInt32), some (.long r16), none]) ⟨rfl, rfl, rfl, trivial⟩ ?_
        exact qj_X3_elementOf_52 hX hc h
      · rw [if_neg c25] at h
        refine os_weak hX (lw := [some (va_rf x0), none, some (.int r9.toInt32), some (.long r16), none]) ⟨rfl, rfl, rfl, trivial⟩ ?_
        exact qj_X3_elementOf_47 hX hc h
def oj_X3_change_25 (n : Nat) (call : oCl) (κ : oKv) (x0 : Option Nat) (x2 : Int32) (t0 : Int64) (σ : oSt) : oRs :=
  obn (ovi (ofd σ x0 5 12)) fun v1 =>
  if v1 = 0 then
    obn (ovr (ofd σ x0 5 4)) fun v4 =>
    obn (osj σ v4 x2 t0) fun s6 =>
    some (none, s6)
  else
    some (none, σ)
def ob_X3_change (n : Nat) (call : oCl) (κ : oKv) (x0 : Option Nat) (x1 : Option Nat) (σ : oSt) : oRs :=
  obn (oob σ x0 5) fun a1 =>
  oin (call 88 [va_rf x0, va_rf x1] σ) fun r5 s3 =>
  obn (ovi (ofd s3 x0 5 12)) fun v6 =>
  if v6 = 0 then
    obn (ovr (ofd s3 x1 7 16)) fun v9 =>
    obn (oob s3 x0 5) fun a11 =>
    oln' (call 85 [va_rf x0, va_rf v9] s3) fun r15 s13 =>
    oj_X3_change_25 n call κ x0 r5 r15 s13
  else
    oj_X3_change_25 n call κ x0 r5 0 s3
set_option maxHeartbeats 4000000 in
theorem qj_X3_change_25 {κ : oKv} {n : Nat} {call : oCl} {kc : Nat → List Value → oSt → Option Value × oSt → Prop} {v : Option Value × oSt} {X : Nat → zLv → List Value → oSt → Prop} (hX : oSem RX3 cX3_change 5 0 none κ kc v X) (hc : ∀ j av s w, call j av s = some w → kc j av s w) {x0 : Option Nat} {x2 : Int32} {t0 : Int64} {σ : oSt} (h : oj_X3_change_25 n call κ x0 x2 t0 σ = some v) : X 25 [some (va_rf x0), none, some (.int x2), none, none] [.long t0] σ := by
  rw [oj_X3_change_25] at h
  refine os_lstore_n hX dX3_change_25 rfl (by decide) rfl ?_
  dsimp only [List.set]
  refine os_aload_n (r := x0) hX dX3_change_26 rfl rfl ?_
  obtain ⟨v1, e2, h⟩ := obn_e h
  refine ow_get (r := x0) hX dX3_change_27 oF_RX3_60 (ovi_e e2) ?_
  refine os_if_ne (tgt := 40) hX dX3_change_30 (by decide) (fun c3 => ?_) (fun c3 => ?_)
  · rw [if_neg c3] at h
    exact os_vret hX dX3_change_40 rfl (Option.some.inj h)
  · rw [if_pos c3] at h
    refine os_aload_n (r := x0) hX dX3_change_33 rfl rfl ?_
    obtain ⟨v4, e5, h⟩ := obn_e h
    refine ow_get (r := x0) hX dX3_change_34 oF_RX3_21 (ovr_e e5) ?_
    refine os_iload_n hX dX3_change_37 rfl rfl ?_
    refine os_lload_n hX dX3_change_38 rfl rfl ?_
    obtain ⟨s6, e7, h⟩ := obn_e h
    refine ow_sj (r := v4) (i := x2) (x := t0) hX dX3_change_39 e7 ?_
    exact os_vret hX dX3_change_40 rfl (Option.some.inj h)
set_option maxHeartbeats 4000000 in
theorem qb_X3_change {κ : oKv} {n : Nat} {call : oCl} {kc : Nat → List Value → oSt → Option Value × oSt → Prop} {v : Option Value × oSt} {X : Nat → zLv → List Value → oSt → Prop} (hX : oSem RX3 cX3_change 5 0 none κ kc v X) (hc : ∀ j av s w, call j av s = some w → kc j av s w) {x0 : Option Nat} {x1 : Option Nat} {σ : oSt} (h : ob_X3_change n call κ x0 x1 σ = some v) : X 0 [some (va_rf x0), some (va_rf x1), none, none, none] [] σ := by
  rw [ob_X3_change] at h
  refine os_aload_n (r := x0) hX dX3_change_0 rfl rfl ?_
  refine os_aload_n (r := x1) hX dX3_change_1 rfl rfl ?_
  obtain ⟨a1, e2, h⟩ := obn_e h
  obtain ⟨r5, s3, e4, h⟩ := oin_e h
  refine oc_RX3_221 (rb := x0) (a1 := va_rf x1) hX dX3_change_2 (Nat.le_of_ble_eq_true rfl) e2 (hc _ _ _ _ e4) ?_
  refine os_istore_n hX dX3_change_5 rfl (by decide) (ozlo (i := 1) (r := x1) rfl) ?_
  dsimp only [List.set]
  refine os_aload_n (r := x0) hX dX3_change_6 rfl rfl ?_
  obtain ⟨v6, e7, h⟩ := obn_e h
  refine ow_get (r := x0) hX dX3_change_7 oF_RX3_60 (ovi_e e7) ?_
  refine os_if_ne (tgt := 24) hX dX3_change_10 (by decide) (fun c8 => ?_) (fun c8 => ?_)
  · rw [if_neg c8] at h
    refine os_lconst (v := 0) hX dX3_change_24 (by decide) ?_
    refine os_weak hX (lw := [some (va_rf x0), none, some (.int r5), none, none]) ⟨rfl, rfl, trivial⟩ ?_
    exact qj_X3_change_25 hX hc h
  · rw [if_pos c8] at h
    refine os_aload_n (r := x0) hX dX3_change_13 rfl rfl ?_
    refine os_aload_n (r := x1) hX dX3_change_14 rfl rfl ?_
    obtain ⟨v9, e10, h⟩ := obn_e h
    refine ow_get (r := x1) hX dX3_change_15 oF_RX3_225 (ovr_e e10) ?_
    obtain ⟨a11, e12, h⟩ := obn_e h
    obtain ⟨r15, s13, e14, h⟩ := oln'_e h
    refine oc_RX3_212 (rb := x0) (a1 := va_rf v9) hX dX3_change_18 (Nat.le_of_ble_eq_true rfl) e12 (hc _ _ _ _ e14) ?_
    refine os_goto (tgt := 25) hX dX3_change_21 (by decide) ?_
    refine os_weak hX (lw := [some (va_rf x0), none, some (.int r5), none, none]) ⟨rfl, rfl, trivial⟩ ?_
    exact qj_X3_change_25 hX hc h
def ob_X3_match (n : Nat) (call : oCl) (κ : oKv) (x0 : Option Nat) (x1 : Option Nat) (σ : oSt) : oRs :=
  obn (ovr (ofd σ x1 7 9)) fun v1 =>
  obn (ovi (ofd σ x1 7 2)) fun v3 =>
  obn (oob σ x0 5) fun a5 =>
  oln' (call 83 [va_rf x0, va_rf v1, .int v3] σ) fun r9 s7 =>
  if r9.toInt32 = 0 then
    obn (ovr (ofd s7 x1 7 12)) fun v39 =>
    some (some (va_rf v39), s7)
  else
    obn (ovr (ofd s7 x0 5 4)) fun v11 =>
    obn (oaj s7 v11 r9.toInt32) fun v13 =>
    obn (ovi (ofd s7 x0 5 10)) fun v15 =>
    obn (oob s7 x0 5) fun a17 =>
    oin (call 79 [va_rf x0, .long v13, .int v15] s7) fun r21 s19 =>
    obn (opf s19 x0 5 10 (.int r21)) fun s22 =>
    obn (ovr (ofd s22 x0 5 4)) fun v24 =>
    obn (oaj s22 v24 (r9.toInt32 + 1)) fun v26 =>
    obn (ovi (ofd s22 x0 5 10)) fun v28 =>
    obn (oob s22 x0 5) fun a30 =>
    oin (call 79 [va_rf x0, .long v26, .int v28] s22) fun r34 s32 =>
    obn (opf s32 x0 5 10 (.int r34)) fun s35 =>
    obn (ovr (ofd s35 x1 7 13)) fun v37 =>
    some (some (va_rf v37), s35)
set_option maxHeartbeats 4000000 in
theorem qb_X3_match {κ : oKv} {n : Nat} {call : oCl} {kc : Nat → List Value → oSt → Option Value × oSt → Prop} {v : Option Value × oSt} {X : Nat → zLv → List Value → oSt → Prop} (hX : oSem RX3 cX3_match 3 0 (some (.object "LiquidTongue$Node")) κ kc v X) (hc : ∀ j av s w, call j av s = some w → kc j av s w) {x0 : Option Nat} {x1 : Option Nat} {σ : oSt} (h : ob_X3_match n call κ x0 x1 σ = some v) : X 0 [some (va_rf x0), some (va_rf x1), none] [] σ := by
  rw [ob_X3_match] at h
  refine os_aload_n (r := x0) hX dX3_match_0 rfl rfl ?_
  refine os_aload_n (r := x1) hX dX3_match_1 rfl rfl ?_
  obtain ⟨v1, e2, h⟩ := obn_e h
  refine ow_get (r := x1) hX dX3_match_2 oF_RX3_198 (ovr_e e2) ?_
  refine os_aload_n (r := x1) hX dX3_match_5 rfl rfl ?_
  obtain ⟨v3, e4, h⟩ := obn_e h
  refine ow_get (r := x1) hX dX3_match_6 oF_RX3_202 (ovi_e e4) ?_
  obtain ⟨a5, e6, h⟩ := obn_e h
  obtain ⟨r9, s7, e8, h⟩ := oln'_e h
  refine oc_RX3_205 (rb := x0) (a1 := va_rf v1) (a2 := .int v3) hX dX3_match_9 (Nat.le_of_ble_eq_true rfl) e6 (hc _ _ _ _ e8) ?_
  refine os_l2i hX dX3_match_12 ?_
  refine os_istore_n hX dX3_match_13 rfl (by decide) (ozlo (i := 1) (r := x1) rfl) ?_
  dsimp only [List.set]
  refine os_iload_n hX dX3_match_14 rfl rfl ?_
  refine os_if_ne (tgt := 23) hX dX3_match_15 (by decide) (fun c10 => ?_) (fun c10 => ?_)
  · rw [if_neg c10] at h
    refine os_aload_n (r := x0) hX dX3_match_23 rfl rfl ?_
    refine os_aload_n (r := x0) hX dX3_match_24 rfl rfl ?_
    refine os_aload_n (r := x0) hX dX3_match_25 rfl rfl ?_
    obtain ⟨v11, e12, h⟩ := obn_e h
    refine ow_get (r := x0) hX dX3_match_26 oF_RX3_21 (ovr_e e12) ?_
    refine os_iload_n hX dX3_match_29 rfl rfl ?_
    obtain ⟨v13, e14, h⟩ := obn_e h
    refine ow_aj (r := v11) (i := r9.toInt32) hX dX3_match_30 e14 ?_
    refine os_aload_n (r := x0) hX dX3_match_31 rfl rfl ?_
    obtain ⟨v15, e16, h⟩ := obn_e h
    refine ow_get (r := x0) hX dX3_match_32 oF_RX3_97 (ovi_e e16) ?_
    obtain ⟨a17, e18, h⟩ := obn_e h
    obtain ⟨r21, s19, e20, h⟩ := oin_e h
    refine oc_RX3_128 (rb := x0) (a1 := .long v13) (a2 := .int v15) hX dX3_match_35 (by simp only [List.map_cons, List.map_nil, List.sum_cons, List.sum_nil, ocat]; exact Nat.le_of_ble_eq_true rfl) e18 (hc _ _ _ _ e20) ?_
    obtain ⟨s22, e23, h⟩ := obn_e h
    refine ow_put (r := x0) (x := .int r21) hX dX3_match_38 oF_RX3_97 (by decide) (opn_I oT_5_10) e23 ?_
    refine os_aload_n (r := x0) hX dX3_match_41 rfl rfl ?_
    refine os_aload_n (r := x0) hX dX3_match_42 rfl rfl ?_
    refine os_aload_n (r := x0) hX dX3_match_43 rfl rfl ?_
    obtain ⟨v24, e25, h⟩ := obn_e h
    refine ow_get (r := x0) hX dX3_match_44 oF_RX3_21 (ovr_e e25) ?_
    refine os_iload_n hX dX3_match_47 rfl rfl ?_
    refine os_iconst (v := 1) hX dX3_match_48 (by decide) ?_
    refine os_iadd hX dX3_match_49 ?_
    obtain ⟨v26, e27, h⟩ := obn_e h
    refine ow_aj (r := v24) (i := (r9.toInt32 + 1)) hX dX3_match_50 e27 ?_
    refine os_aload_n (r := x0) hX dX3_match_51 rfl rfl ?_
    obtain ⟨v28, e29, h⟩ := obn_e h
    refine ow_get (r := x0) hX dX3_match_52 oF_RX3_97 (ovi_e e29) ?_
    obtain ⟨a30, e31, h⟩ := obn_e h
    obtain ⟨r34, s32, e33, h⟩ := oin_e h
    refine oc_RX3_128 (rb := x0) (a1 := .long v26) (a2 := .int v28) hX dX3_match_55 (by simp only [List.map_cons, List.map_nil, List.sum_cons, List.sum_nil, ocat]; exact Nat.le_of_ble_eq_true rfl) e31 (hc _ _ _ _ e33) ?_
    obtain ⟨s35, e36, h⟩ := obn_e h
    refine ow_put (r := x0) (x := .int r34) hX dX3_match_58 oF_RX3_97 (by decide) (opn_I oT_5_10) e36 ?_
    refine os_aload_n (r := x1) hX dX3_match_61 rfl rfl ?_
    obtain ⟨v37, e38, h⟩ := obn_e h
    refine ow_get (r := x1) hX dX3_match_62 oF_RX3_160 (ovr_e e38) ?_
    exact os_aret (r := v37) hX dX3_match_65 rfl (Option.some.inj h)
  · rw [if_pos c10] at h
    refine os_aload_n (r := x1) hX dX3_match_18 rfl rfl ?_
    obtain ⟨v39, e40, h⟩ := obn_e h
    refine ow_get (r := x1) hX dX3_match_19 oF_RX3_150 (ovr_e e40) ?_
    exact os_aret (r := v39) hX dX3_match_22 rfl (Option.some.inj h)
def ob_X3_argument (n : Nat) (call : oCl) (κ : oKv) (x0 : Option Nat) (x1 : Option Nat) (σ : oSt) : oRs :=
  obn (ovi (ofd σ x1 7 0)) fun v1 =>
  if v1 = 400 then
    obn (ovi (ofd σ x1 7 6)) fun v28 =>
    if v28 = 1 then
      obn (ovr (ofd σ x1 7 9)) fun v36 =>
      obn (ovi (ofd σ x1 7 2)) fun v38 =>
      obn (oob σ x0 5) fun a40 =>
      oln' (call 83 [va_rf x0, va_rf v36, .int v38] σ) fun r44 s42 =>
      some (some (.long r44), s42)
    else
      obn (oob σ x0 5) fun a31 =>
      oln' (call 85 [va_rf x0, va_rf x1] σ) fun r35 s33 =>
      some (some (.long r35), s33)
  else
    obn (ovi (ofd σ x1 7 0)) fun v4 =>
    if v4 = 206 then
      obn (ovi (ofd σ x0 5 11)) fun v7 =>
      if v7 = 0 then
        obn (opf σ x0 5 12 (.int 1)) fun s23 =>
        some (some (.long 0), s23)
      else
        obn (ovi (ofd σ x0 5 11)) fun v10 =>
        obn (opf σ x0 5 11 (.int (v10 - 1))) fun s12 =>
        obn (ovi (ofd s12 x1 7 7)) fun v14 =>
        obn (ovi (ofd s12 x0 5 10)) fun v16 =>
        obn (oob s12 x0 5) fun a18 =>
        oin (call 82 [va_rf x0, .long v14.toInt64, .long v16.toInt64, .long 0] s12) fun r22 s20 =>
        some (some (.long r22.toInt64), s20)
    else
      obn (ovi (ofd σ x1 7 0)) fun v25 =>
      if v25 = 223 then
        some (some (.long 1), σ)
      else
        some (some (.long 0), σ)
set_option maxHeartbeats 4000000 in
theorem qb_X3_argument {κ : oKv} {n : Nat} {call : oCl} {kc : Nat → List Value → oSt → Option Value × oSt → Prop} {v : Option Value × oSt} {X : Nat → zLv → List Value → oSt → Prop} (hX : oSem RX3 cX3_argument 2 0 (some .long) κ kc v X) (hc : ∀ j av s w, call j av s = some w → kc j av s w) {x0 : Option Nat} {x1 : Option Nat} {σ : oSt} (h : ob_X3_argument n call κ x0 x1 σ = some v) : X 0 [some (va_rf x0), some (va_rf x1)] [] σ := by
  rw [ob_X3_argument] at h
  refine os_aload_n (r := x1) hX dX3_argument_0 rfl rfl ?_
  obtain ⟨v1, e2, h⟩ := obn_e h
  refine ow_get (r := x1) hX dX3_argument_1 oF_RX3_143 (ovi_e e2) ?_
  refine os_sipush (v := 400) hX dX3_argument_4 (by decide) ?_
  refine os_icmp_ne (tgt := 39) hX dX3_argument_7 (by decide) (fun c3 => ?_) (fun c3 => ?_)
  · rw [if_neg c3] at h
    refine os_aload_n (r := x1) hX dX3_argument_39 rfl rfl ?_
    obtain ⟨v4, e5, h⟩ := obn_e h
    refine ow_get (r := x1) hX dX3_argument_40 oF_RX3_143 (ovi_e e5) ?_
    refine os_sipush (v := 206) hX dX3_argument_43 (by decide) ?_
    refine os_icmp_eq (tgt := 65) hX dX3_argument_46 (by decide) (fun c6 => ?_) (fun c6 => ?_)
    · rw [if_pos c6] at h
      refine os_aload_n (r := x0) hX dX3_argument_65 rfl rfl ?_
      obtain ⟨v7, e8, h⟩ := obn_e h
      refine ow_get (r := x0) hX dX3_argument_66 oF_RX3_57 (ovi_e e8) ?_
      refine os_if_ne (tgt := 79) hX dX3_argument_69 (by decide) (fun c9 => ?_) (fun c9 => ?_)
      · rw [if_neg c9] at h
        refine os_aload_n (r := x0) hX dX3_argument_79 rfl rfl ?_
        refine os_dup hX dX3_argument_80 (ocat x0) ?_
        obtain ⟨v10, e11, h⟩ := obn_e h
        refine ow_get (r := x0) hX dX3_argument_81 oF_RX3_57 (ovi_e e11) ?_
        refine os_iconst (v := 1) hX dX3_argument_84 (by decide) ?_
        refine os_isub hX dX3_argument_85 ?_
        obtain ⟨s12, e13, h⟩ := obn_e h
        refine ow_put (r := x0) (x := .int (v10 - 1)) hX dX3_argument_86 oF_RX3_57 (by decide) (opn_I oT_5_11) e13 ?_
        refine os_aload_n (r := x0) hX dX3_argument_89 rfl rfl ?_
        refine os_aload_n (r := x1) hX dX3_argument_90 rfl rfl ?_
        obtain ⟨v14, e15, h⟩ := obn_e h
        refine ow_get (r := x1) hX dX3_argument_91 oF_RX3_153 (ovi_e e15) ?_
        refine os_i2l hX dX3_argument_94 ?_
        refine os_aload_n (r := x0) hX dX3_argument_95 rfl rfl ?_
        obtain ⟨v16, e17, h⟩ := obn_e h
        refine ow_get (r := x0) hX dX3_argument_96 oF_RX3_97 (ovi_e e17) ?_
        refine os_i2l hX dX3_argument_99 ?_
        refine os_lconst (v := 0) hX dX3_argument_100 (by decide) ?_
        obtain ⟨a18, e19, h⟩ := obn_e h
        obtain ⟨r22, s20, e21, h⟩ := oin_e h
        refine oc_RX3_156 (rb := x0) (a1 := .long v14.toInt64) (a2 := .long v16.toInt64) (a3 := .long 0) hX dX3_argument_101 (Nat.le_of_ble_eq_true rfl) e19 (hc _ _ _ _ e21) ?_
        refine os_i2l hX dX3_argument_104 ?_
        exact os_lret hX dX3_argument_105 rfl (Option.some.inj h)
      · rw [if_pos c9] at h
        refine os_aload_n (r := x0) hX dX3_argument_72 rfl rfl ?_
        refine os_iconst (v := 1) hX dX3_argument_73 (by decide) ?_
        obtain ⟨s23, e24, h⟩ := obn_e h
        refine ow_put (r := x0) (x := .int 1) hX dX3_argument_74 oF_RX3_60 (by decide) (opn_I oT_5_12) e24 ?_
        refine os_lconst (v := 0) hX dX3_argument_77 (by decide) ?_
        exact os_lret hX dX3_argument_78 rfl (Option.some.inj h)
    · rw [if_neg c6] at h
      refine os_aload_n (r := x1) hX dX3_argument_49 rfl rfl ?_
      obtain ⟨v25, e26, h⟩ := obn_e h
      refine ow_get (r := x1) hX dX3_argument_50 oF_RX3_143 (ovi_e e26) ?_
      refine os_sipush (v := 223) hX dX3_argument_53 (by decide) ?_
      refine os_icmp_ne (tgt := 63) hX dX3_argument_56 (by decide) (fun c27 => ?_) (fun c27 => ?_)
      · rw [if_neg c27] at h
        refine os_lconst (v := 0) hX dX3_argument_63 (by decide) ?_
        exact os_lret hX dX3_argument_64 rfl (Option.some.inj h)
      · rw [if_pos c27] at h
        refine os_lconst (v := 1) hX dX3_argument_59 (by decide) ?_
        refine os_goto (tgt := 64) hX dX3_argument_60 (by decide) ?_
        exact os_lret hX dX3_argument_64 rfl (Option.some.inj h)
  · rw [if_pos c3] at h
    refine os_aload_n (r := x1) hX dX3_argument_10 rfl rfl ?_
    obtain ⟨v28, e29, h⟩ := obn_e h
    refine ow_get (r := x1) hX dX3_argument_11 oF_RX3_209 (ovi_e e29) ?_
    refine os_iconst (v := 1) hX dX3_argument_14 (by decide) ?_
    refine os_icmp_ne (tgt := 33) hX dX3_argument_15 (by decide) (fun c30 => ?_) (fun c30 => ?_)
    · rw [if_neg c30] at h
      refine os_aload_n (r := x0) hX dX3_argument_33 rfl rfl ?_
      refine os_aload_n (r := x1) hX dX3_argument_34 rfl rfl ?_
      obtain ⟨a31, e32, h⟩ := obn_e h
      obtain ⟨r35, s33, e34, h⟩ := oln'_e h
      refine oc_RX3_212 (rb := x0) (a1 := va_rf x1) hX dX3_argument_35 (Nat.le_of_ble_eq_true rfl) e32 (hc _ _ _ _ e34) ?_
      exact os_lret hX dX3_argument_38 rfl (Option.some.inj h)
    · rw [if_pos c30] at h
      refine os_aload_n (r := x0) hX dX3_argument_18 rfl rfl ?_
      refine os_aload_n (r := x1) hX dX3_argument_19 rfl rfl ?_
      obtain ⟨v36, e37, h⟩ := obn_e h
      refine ow_get (r := x1) hX dX3_argument_20 oF_RX3_198 (ovr_e e37) ?_
      refine os_aload_n (r := x1) hX dX3_argument_23 rfl rfl ?_
      obtain ⟨v38, e39, h⟩ := obn_e h
      refine ow_get (r := x1) hX dX3_argument_24 oF_RX3_202 (ovi_e e39) ?_
      obtain ⟨a40, e41, h⟩ := obn_e h
      obtain ⟨r44, s42, e43, h⟩ := oln'_e h
      refine oc_RX3_205 (rb := x0) (a1 := va_rf v36) (a2 := .int v38) hX dX3_argument_27 (Nat.le_of_ble_eq_true rfl) e41 (hc _ _ _ _ e43) ?_
      refine os_goto (tgt := 38) hX dX3_argument_30 (by decide) ?_
      exact os_lret hX dX3_argument_38 rfl (Option.some.inj h)
def oj_X3_apply_96 (n : Nat) (call : oCl) (κ : oKv) (x0 : Option Nat) (x3 : Option Nat) (x4 : Int32) (x5 : Int32) (x6 : Int32) (σ : oSt) : oRs :=
  obn (ovr (ofd σ x3 7 11)) fun v1 =>
  obn (oob σ v1 1) fun a3 =>
  oin (call 236 [va_rf v1] σ) fun r7 s5 =>
  if r7 ≤ x5 then
    obn (ovi (ofd s5 x0 5 13)) fun v9 =>
    if v9 = 50 then
      obn (opf s5 x0 5 12 (.int 2)) fun s25 =>
      some (some (va_rf none), s25)
    else
      obn (ovi (ofd s5 x0 5 13)) fun v12 =>
      obn (opf s5 x0 5 13 (.int (v12 + 1))) fun s14 =>
      obn (oob s14 x0 5) fun a16 =>
      ocv (call 81 [va_rf x0, va_rf none, .int 0, .int x6] s14) fun s18 =>
      obn (opf s18 x0 5 10 (.int x4)) fun s21 =>
      obn (ovr (ofd s21 x3 7 12)) fun v23 =>
      some (some (va_rf v23), s21)
  else
    obn (ovi (ofd s5 x3 7 7)) fun v27 =>
    obn (oob s5 x0 5) fun a29 =>
    oin (call 82 [va_rf x0, .long v27.toInt64, .long x4.toInt64, .long x5.toInt64] s5) fun r33 s31 =>
    obn (opf s31 x0 5 15 (.long r33.toInt64)) fun s34 =>
    some (some (va_rf none), s34)
def ol_X3_apply_46 (n : Nat) (call : oCl) (κ : oKv) : Nat → Option Nat → Option Nat → Int32 → Int32 → Int32 → oSt → oRs
  | 0, _, _, _, _, _, _ => none
  | f + 1, x0, x3, x4, x5, x6, σ =>
    obn (ovr (ofd σ x3 7 11)) fun v1 =>
    obn (oob σ v1 1) fun a3 =>
    oin (call 236 [va_rf v1] σ) fun r7 s5 =>
    if r7 ≤ x5 then
      oj_X3_apply_96 n call κ x0 x3 x4 x5 x6 s5
    else
      if x6 = 0 then
        oj_X3_apply_96 n call κ x0 x3 x4 x5 x6 s5
      else
        obn (ovr (ofd s5 x0 5 4)) fun v10 =>
        obn (oaj s5 v10 x6) fun v12 =>
        obn (oob s5 x0 5) fun a14 =>
        oin (call 79 [va_rf x0, .long v12, .int x4] s5) fun r18 s16 =>
        obn (ovr (ofd s16 x0 5 4)) fun v19 =>
        obn (oaj s16 v19 (x6 + 1)) fun v21 =>
        ol_X3_apply_46 n call κ f x0 x3 r18 (x5 + 1) v21.toInt32 s16
def ob_X3_apply (n : Nat) (call : oCl) (κ : oKv) (x0 : Option Nat) (x1 : Int32) (x2 : Int32) (σ : oSt) : oRs :=
  obn (ovr (ofd σ x0 5 0)) fun v1 =>
  obn (ovr (ofd σ v1 9 3)) fun v3 =>
  obn (ovr (ofd σ x0 5 4)) fun v5 =>
  obn (oaj σ v5 x1) fun v7 =>
  obn (oob σ v3 1) fun a9 =>
  orn (call 234 [va_rf v3, .int v7.toInt32] σ) fun r13 s11 =>
  ogd (ocs s11 r13 7) (
  obn (ovr (ofd s11 x0 5 4)) fun v15 =>
  obn (oaj s11 v15 (x1 + 1)) fun v17 =>
  obn (ovr (ofd s11 x0 5 4)) fun v19 =>
  obn (oaj s11 v19 (x1 + 2)) fun v21 =>
  ol_X3_apply_46 n call κ n x0 r13 v17.toInt32 v21.toInt32 x2 s11)
set_option maxHeartbeats 4000000 in
theorem qj_X3_apply_96 {κ : oKv} {n : Nat} {call : oCl} {kc : Nat → List Value → oSt → Option Value × oSt → Prop} {v : Option Value × oSt} {X : Nat → zLv → List Value → oSt → Prop} (hX : oSem RX3 cX3_apply 7 0 (some (.object "LiquidTongue$Node")) κ kc v X) (hc : ∀ j av s w, call j av s = some w → kc j av s w) {x0 : Option Nat} {x3 : Option Nat} {x4 : Int32} {x5 : Int32} {x6 : Int32} {σ : oSt} (h : oj_X3_apply_96 n call κ x0 x3 x4 x5 x6 σ = some v) : X 96 [some (va_rf x0), none, none, some (va_rf x3), some (.int x4), some (.int x5), some (.int x6)] [] σ := by
  rw [oj_X3_apply_96] at h
  refine os_iload hX dX3_apply_96 rfl ?_
  refine os_aload_n (r := x3) hX dX3_apply_98 rfl rfl ?_
  obtain ⟨v1, e2, h⟩ := obn_e h
  refine ow_get (r := x3) hX dX3_apply_99 oF_RX3_218 (ovr_e e2) ?_
  obtain ⟨a3, e4, h⟩ := obn_e h
  obtain ⟨r7, s5, e6, h⟩ := oin_e h
  refine oc_RX3_191 (rb := v1)  hX dX3_apply_102 (Nat.le_of_ble_eq_true rfl) e4 (hc _ _ _ _ e6) ?_
  refine os_icmp_ge (tgt := 130) hX dX3_apply_105 (by decide) (fun c8 => ?_) (fun c8 => ?_)
  · rw [if_pos c8] at h
    refine os_aload_n (r := x0) hX dX3_apply_130 rfl rfl ?_
    obtain ⟨v9, e10, h⟩ := obn_e h
    refine ow_get (r := x0) hX dX3_apply_131 oF_RX3_100 (ovi_e e10) ?_
    refine os_bipush (v := 50) hX dX3_apply_134 (by decide) ?_
    refine os_icmp_ne (tgt := 146) hX dX3_apply_136 (by decide) (fun c11 => ?_) (fun c11 => ?_)
    · rw [if_neg c11] at h
      refine os_aload_n (r := x0) hX dX3_apply_146 rfl rfl ?_
      refine os_dup hX dX3_apply_147 (ocat x0) ?_
      obtain ⟨v12, e13, h⟩ := obn_e h
      refine ow_get (r := x0) hX dX3_apply_148 oF_RX3_100 (ovi_e e13) ?_
      refine os_iconst (v := 1) hX dX3_apply_151 (by decide) ?_
      refine os_iadd hX dX3_apply_152 ?_
      obtain ⟨s14, e15, h⟩ := obn_e h
      refine ow_put (r := x0) (x := .int (v12 + 1)) hX dX3_apply_153 oF_RX3_100 (by decide) (opn_I oT_5_13) e15 ?_
      refine os_aload_n (r := x0) hX dX3_apply_156 rfl rfl ?_
      refine os_null hX dX3_apply_157 ?_
      refine os_iconst (v := 0) hX dX3_apply_158 (by decide) ?_
      refine os_iload hX dX3_apply_159 rfl ?_
      obtain ⟨a16, e17, h⟩ := obn_e h
      obtain ⟨s18, e19, h⟩ := ocv_e h
      refine oc_RX3_146 (rb := x0) (a1 := va_rf none) (a2 := .int 0) (a3 := .int x6) hX dX3_apply_161 (Nat.le_of_ble_eq_true rfl) e17 (hc _ _ _ _ e19) ?_
      refine os_aload_n (r := x0) hX dX3_apply_164 rfl rfl ?_
      refine os_iload hX dX3_apply_165 rfl ?_
      obtain ⟨s21, e22, h⟩ := obn_e h
      refine ow_put (r := x0) (x := .int x4) hX dX3_apply_167 oF_RX3_97 (by decide) (opn_I oT_5_10) e22 ?_
      refine os_aload_n (r := x3) hX dX3_apply_170 rfl rfl ?_
      obtain ⟨v23, e24, h⟩ := obn_e h
      refine ow_get (r := x3) hX dX3_apply_171 oF_RX3_150 (ovr_e e24) ?_
      exact os_aret (r := v23) hX dX3_apply_174 rfl (Option.some.inj h)
    · rw [if_pos c11] at h
      refine os_aload_n (r := x0) hX dX3_apply_139 rfl rfl ?_
      refine os_iconst (v := 2) hX dX3_apply_140 (by decide) ?_
      obtain ⟨s25, e26, h⟩ := obn_e h
      refine ow_put (r := x0) (x := .int 2) hX dX3_apply_141 oF_RX3_60 (by decide) (opn_I oT_5_12) e26 ?_
      refine os_null hX dX3_apply_144 ?_
      exact os_aret (r := none) hX dX3_apply_145 rfl (Option.some.inj h)
  · rw [if_neg c8] at h
    refine os_aload_n (r := x0) hX dX3_apply_108 rfl rfl ?_
    refine os_aload_n (r := x0) hX dX3_apply_109 rfl rfl ?_
    refine os_aload_n (r := x3) hX dX3_apply_110 rfl rfl ?_
    obtain ⟨v27, e28, h⟩ := obn_e h
    refine ow_get (r := x3) hX dX3_apply_111 oF_RX3_153 (ovi_e e28) ?_
    refine os_i2l hX dX3_apply_114 ?_
    refine os_iload hX dX3_apply_115 rfl ?_
    refine os_i2l hX dX3_apply_117 ?_
    refine os_iload hX dX3_apply_118 rfl ?_
    refine os_i2l hX dX3_apply_120 ?_
    obtain ⟨a29, e30, h⟩ := obn_e h
    obtain ⟨r33, s31, e32, h⟩ := oin_e h
    refine oc_RX3_156 (rb := x0) (a1 := .long v27.toInt64) (a2 := .long x4.toInt64) (a3 := .long x5.toInt64) hX dX3_apply_121 (by simp only [List.map_cons, List.map_nil, List.sum_cons, List.sum_nil, ocat]; exact Nat.le_of_ble_eq_true rfl) e30 (hc _ _ _ _ e32) ?_
    refine os_i2l hX dX3_apply_124 ?_
    obtain ⟨s34, e35, h⟩ := obn_e h
    refine ow_put (r := x0) (x := .long r33.toInt64) hX dX3_apply_125 oF_RX3_87 (by decide) (opn_J oT_5_15) e35 ?_
    refine os_null hX dX3_apply_128 ?_
    exact os_aret (r := none) hX dX3_apply_129 rfl (Option.some.inj h)
set_option maxHeartbeats 4000000 in
theorem ql_X3_apply_46 {κ : oKv} {n : Nat} {call : oCl} {kc : Nat → List Value → oSt → Option Value × oSt → Prop} {v : Option Value × oSt} {X : Nat → zLv → List Value → oSt → Prop} (hX : oSem RX3 cX3_apply 7 0 (some (.object "LiquidTongue$Node")) κ kc v X) (hc : ∀ j av s w, call j av s = some w → kc j av s w) : ∀ (f : Nat) (x0 : Option Nat) (x3 : Option Nat) (x4 : Int32) (x5 : Int32) (x6 : Int32) (σ : oSt), ol_X3_apply_46 n call κ f x0 x3 x4 x5 x6 σ = some v → X 46 [some (va_rf x0), none, none, some (va_rf x3), some (.int x4), some (.int x5), some (.int x6)] [] σ := by
  intro f
  induction f with
  | zero => intro x0 x3 x4 x5 x6 σ h; cases h
  | succ f hk46 =>
    intro x0 x3 x4 x5 x6 σ h
    rw [ol_X3_apply_46] at h
    refine os_iload hX dX3_apply_46 rfl ?_
    refine os_aload_n (r := x3) hX dX3_apply_48 rfl rfl ?_
    obtain ⟨v1, e2, h⟩ := obn_e h
    refine ow_get (r := x3) hX dX3_apply_49 oF_RX3_218 (ovr_e e2) ?_
    obtain ⟨a3, e4, h⟩ := obn_e h
    obtain ⟨r7, s5, e6, h⟩ := oin_e h
    refine oc_RX3_191 (rb := v1)  hX dX3_apply_52 (Nat.le_of_ble_eq_true rfl) e4 (hc _ _ _ _ e6) ?_
    refine os_icmp_ge (tgt := 96) hX dX3_apply_55 (by decide) (fun c8 => ?_) (fun c8 => ?_)
    · rw [if_pos c8] at h
      exact qj_X3_apply_96 hX hc h
    · rw [if_neg c8] at h
      refine os_iload hX dX3_apply_58 rfl ?_
      refine os_if_eq (tgt := 96) hX dX3_apply_60 (by decide) (fun c9 => ?_) (fun c9 => ?_)
      · rw [if_pos c9] at h
        exact qj_X3_apply_96 hX hc h
      · rw [if_neg c9] at h
        refine os_aload_n (r := x0) hX dX3_apply_63 rfl rfl ?_
        refine os_aload_n (r := x0) hX dX3_apply_64 rfl rfl ?_
        obtain ⟨v10, e11, h⟩ := obn_e h
        refine ow_get (r := x0) hX dX3_apply_65 oF_RX3_21 (ovr_e e11) ?_
        refine os_iload hX dX3_apply_68 rfl ?_
        obtain ⟨v12, e13, h⟩ := obn_e h
        refine ow_aj (r := v10) (i := x6) hX dX3_apply_70 e13 ?_
        refine os_iload hX dX3_apply_71 rfl ?_
        obtain ⟨a14, e15, h⟩ := obn_e h
        obtain ⟨r18, s16, e17, h⟩ := oin_e h
        refine oc_RX3_128 (rb := x0) (a1 := .long v12) (a2 := .int x4) hX dX3_apply_73 (Nat.le_of_ble_eq_true rfl) e15 (hc _ _ _ _ e17) ?_
        refine os_istore hX dX3_apply_76 (by decide) (ozlo (i := 3) (r := x3) rfl) ?_
        dsimp only [List.set]
        refine os_aload_n (r := x0) hX dX3_apply_78 rfl rfl ?_
        obtain ⟨v19, e20, h⟩ := obn_e h
        refine ow_get (r := x0) hX dX3_apply_79 oF_RX3_21 (ovr_e e20) ?_
        refine os_iload hX dX3_apply_82 rfl ?_
        refine os_iconst (v := 1) hX dX3_apply_84 (by decide) ?_
        refine os_iadd hX dX3_apply_85 ?_
        obtain ⟨v21, e22, h⟩ := obn_e h
        refine ow_aj (r := v19) (i := (x6 + 1)) hX dX3_apply_86 e22 ?_
        refine os_l2i hX dX3_apply_87 ?_
        refine os_istore hX dX3_apply_88 (by decide) rfl ?_
        dsimp only [List.set]
        refine os_iinc (v := x5 + 1) hX dX3_apply_90 rfl rfl (by decide) rfl ?_
        dsimp only [List.set]
        refine os_goto (tgt := 46) hX dX3_apply_93 (by decide) ?_
        exact hk46 _ _ _ _ _ _ h
set_option maxHeartbeats 4000000 in
theorem qb_X3_apply {κ : oKv} {n : Nat} {call : oCl} {kc : Nat → List Value → oSt → Option Value × oSt → Prop} {v : Option Value × oSt} {X : Nat → zLv → List Value → oSt → Prop} (hX : oSem RX3 cX3_apply 7 0 (some (.object "LiquidTongue$Node")) κ kc v X) (hc : ∀ j av s w, call j av s = some w → kc j av s w) {x0 : Option Nat} {x1 : Int32} {x2 : Int32} {σ : oSt} (h : ob_X3_apply n call κ x0 x1 x2 σ = some v) : X 0 [some (va_rf x0), some (.int x1), some (.int x2), none, none, none, none] [] σ := by
  rw [ob_X3_apply] at h
  refine os_aload_n (r := x0) hX dX3_apply_0 rfl rfl ?_
  obtain ⟨v1, e2, h⟩ := obn_e h
  refine ow_get (r := x0) hX dX3_apply_1 oF_RX3_36 (ovr_e e2) ?_
  obtain ⟨v3, e4, h⟩ := obn_e h
  refine ow_get (r := v1) hX dX3_apply_4 oF_RX3_215 (ovr_e e4) ?_
  refine os_aload_n (r := x0) hX dX3_apply_7 rfl rfl ?_
  obtain ⟨v5, e6, h⟩ := obn_e h
  refine ow_get (r := x0) hX dX3_apply_8 oF_RX3_21 (ovr_e e6) ?_
  refine os_iload_n hX dX3_apply_11 rfl rfl ?_
  obtain ⟨v7, e8, h⟩ := obn_e h
  refine ow_aj (r := v5) (i := x1) hX dX3_apply_12 e8 ?_
  refine os_l2i hX dX3_apply_13 ?_
  obtain ⟨a9, e10, h⟩ := obn_e h
  obtain ⟨r13, s11, e12, h⟩ := orn_e h
  refine oc_RX3_113 (rb := v3) (a1 := .int v7.toInt32) hX dX3_apply_14 (Nat.le_of_ble_eq_true rfl) e10 (hc _ _ _ _ e12) ?_
  obtain ⟨b14, h⟩ := ogd_e h
  refine ow_cs (r := r13) hX dX3_apply_17 oK_RX3_24 b14 ?_
  refine os_astore_n (r := r13) hX dX3_apply_20 rfl (by decide) rfl ?_
  dsimp only [List.set]
  refine os_aload_n (r := x0) hX dX3_apply_21 rfl rfl ?_
  obtain ⟨v15, e16, h⟩ := obn_e h
  refine ow_get (r := x0) hX dX3_apply_22 oF_RX3_21 (ovr_e e16) ?_
  refine os_iload_n hX dX3_apply_25 rfl rfl ?_
  refine os_iconst (v := 1) hX dX3_apply_26 (by decide) ?_
  refine os_iadd hX dX3_apply_27 ?_
  obtain ⟨v17, e18, h⟩ := obn_e h
  refine ow_aj (r := v15) (i := (x1 + 1)) hX dX3_apply_28 e18 ?_
  refine os_l2i hX dX3_apply_29 ?_
  refine os_istore hX dX3_apply_30 (by decide) (ozlo (i := 3) (r := r13) rfl) ?_
  dsimp only [List.set]
  refine os_aload_n (r := x0) hX dX3_apply_32 rfl rfl ?_
  obtain ⟨v19, e20, h⟩ := obn_e h
  refine ow_get (r := x0) hX dX3_apply_33 oF_RX3_21 (ovr_e e20) ?_
  refine os_iload_n hX dX3_apply_36 rfl rfl ?_
  refine os_iconst (v := 2) hX dX3_apply_37 (by decide) ?_
  refine os_iadd hX dX3_apply_38 ?_
  obtain ⟨v21, e22, h⟩ := obn_e h
  refine ow_aj (r := v19) (i := (x1 + 2)) hX dX3_apply_39 e22 ?_
  refine os_l2i hX dX3_apply_40 ?_
  refine os_istore hX dX3_apply_41 (by decide) rfl ?_
  dsimp only [List.set]
  refine os_iload_n hX dX3_apply_43 rfl rfl ?_
  refine os_istore hX dX3_apply_44 (by decide) rfl ?_
  dsimp only [List.set]
  refine os_weak hX (lw := [some (va_rf x0), none, none, some (va_rf r13), some (.int v17.toInt32), some (.int v21.toInt32), some (.int x2)]) ⟨rfl, rfl, rfl, rfl, rfl, trivial⟩ ?_
  exact ql_X3_apply_46 hX hc n _ _ _ _ _ _ h
