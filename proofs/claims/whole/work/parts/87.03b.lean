/-! the methods of the class as plain functions (47 to 58) -/
def ob_X1_side (n : Nat) (call : oCl) (κ : oKv) (x0 : Option Nat) (x1 : Int32) (σ : oSt) : oRs :=
  obn (ovi (ofd σ x0 6 6)) fun v1 =>
  if x1 ≤ 0 then
    some (some (.int ((2 * v1) + 1)), σ)
  else
    some (some (.int ((2 * v1) + 0)), σ)
set_option maxHeartbeats 4000000 in
theorem qb_X1_side {κ : oKv} {n : Nat} {call : oCl} {kc : Nat → List Value → oSt → Option Value × oSt → Prop} {v : Option Value × oSt} {X : Nat → zLv → List Value → oSt → Prop} (hX : oSem RX1 cX1_side 2 1 (some .int) κ kc v X) (hc : ∀ j av s w, call j av s = some w → kc j av s w) {x0 : Option Nat} {x1 : Int32} {σ : oSt} (h : ob_X1_side n call κ x0 x1 σ = some v) : X 0 [some (va_rf x0), some (.int x1)] [] σ := by
  rw [ob_X1_side] at h
  refine os_iconst (v := 2) hX dX1_side_0 (by decide) ?_
  refine os_aload_n (r := x0) hX dX1_side_1 rfl rfl ?_
  obtain ⟨v1, e2, h⟩ := obn_e h
  refine ow_get (r := x0) hX dX1_side_2 oF_RX1_118 (ovi_e e2) ?_
  refine os_imul hX dX1_side_5 ?_
  refine os_iload_n hX dX1_side_6 rfl rfl ?_
  refine os_if_le (tgt := 14) hX dX1_side_7 (by decide) (fun c3 => ?_) (fun c3 => ?_)
  · rw [if_pos c3] at h
    refine os_iconst (v := 1) hX dX1_side_14 (by decide) ?_
    refine os_iadd hX dX1_side_15 ?_
    exact os_iret hX dX1_side_16 rfl (Option.some.inj h)
  · rw [if_neg c3] at h
    refine os_iconst (v := 0) hX dX1_side_10 (by decide) ?_
    refine os_goto (tgt := 15) hX dX1_side_11 (by decide) ?_
    refine os_iadd hX dX1_side_15 ?_
    exact os_iret hX dX1_side_16 rfl (Option.some.inj h)
def ob_X6_isLimited (n : Nat) (call : oCl) (κ : oKv) (x0 : Option Nat) (x1 : Int32) (x2 : Int32) (x3 : Int64) (σ : oSt) : oRs :=
  if x1 = (x2 ^^^ 1) then
    if (lg_cmp x3 0) < 0 then
      some (some (.int 0), σ)
    else
      some (some (.int 1), σ)
  else
    obn (ovr (ofd σ x0 8 0)) fun v2 =>
    obn (ovi (ofd σ x0 8 2)) fun v4 =>
    obn (ovi (ofd σ x0 8 1)) fun v6 =>
    obn (oaj σ v2 ((v4 + ((x2 ^^^ 1) * v6)) + x1)) fun v8 =>
    if 0 < (lg_cmp v8 x3) then
      some (some (.int 0), σ)
    else
      some (some (.int 1), σ)
set_option maxHeartbeats 4000000 in
theorem qb_X6_isLimited {κ : oKv} {n : Nat} {call : oCl} {kc : Nat → List Value → oSt → Option Value × oSt → Prop} {v : Option Value × oSt} {X : Nat → zLv → List Value → oSt → Prop} (hX : oSem RX6 cX6_isLimited 5 0 (some .boolean) κ kc v X) (hc : ∀ j av s w, call j av s = some w → kc j av s w) {x0 : Option Nat} {x1 : Int32} {x2 : Int32} {x3 : Int64} {σ : oSt} (h : ob_X6_isLimited n call κ x0 x1 x2 x3 σ = some v) : X 0 [some (va_rf x0), some (.int x1), some (.int x2), some (.long x3), none] [] σ := by
  rw [ob_X6_isLimited] at h
  refine os_iload_n hX dX6_isLimited_0 rfl rfl ?_
  refine os_iload_n hX dX6_isLimited_1 rfl rfl ?_
  refine os_iconst (v := 1) hX dX6_isLimited_2 (by decide) ?_
  refine os_ixor hX dX6_isLimited_3 ?_
  refine os_icmp_ne (tgt := 21) hX dX6_isLimited_4 (by decide) (fun c1 => ?_) (fun c1 => ?_)
  · rw [if_neg c1] at h
    refine os_aload_n (r := x0) hX dX6_isLimited_21 rfl rfl ?_
    obtain ⟨v2, e3, h⟩ := obn_e h
    refine ow_get (r := x0) hX dX6_isLimited_22 oF_RX6_7 (ovr_e e3) ?_
    refine os_aload_n (r := x0) hX dX6_isLimited_25 rfl rfl ?_
    obtain ⟨v4, e5, h⟩ := obn_e h
    refine ow_get (r := x0) hX dX6_isLimited_26 oF_RX6_17 (ovi_e e5) ?_
    refine os_iload_n hX dX6_isLimited_29 rfl rfl ?_
    refine os_iconst (v := 1) hX dX6_isLimited_30 (by decide) ?_
    refine os_ixor hX dX6_isLimited_31 ?_
    refine os_aload_n (r := x0) hX dX6_isLimited_32 rfl rfl ?_
    obtain ⟨v6, e7, h⟩ := obn_e h
    refine ow_get (r := x0) hX dX6_isLimited_33 oF_RX6_13 (ovi_e e7) ?_
    refine os_imul hX dX6_isLimited_36 ?_
    refine os_iadd hX dX6_isLimited_37 ?_
    refine os_iload_n hX dX6_isLimited_38 rfl rfl ?_
    refine os_iadd hX dX6_isLimited_39 ?_
    obtain ⟨v8, e9, h⟩ := obn_e h
    refine ow_aj (r := v2) (i := ((v4 + ((x2 ^^^ 1) * v6)) + x1)) hX dX6_isLimited_40 e9 ?_
    refine os_lload_n hX dX6_isLimited_41 rfl rfl ?_
    refine os_lcmp hX dX6_isLimited_42 ?_
    refine os_if_gt (tgt := 50) hX dX6_isLimited_43 (by decide) (fun c10 => ?_) (fun c10 => ?_)
    · rw [if_pos c10] at h
      refine os_iconst (v := 0) hX dX6_isLimited_50 (by decide) ?_
      exact os_nret (ty := .boolean) hX dX6_isLimited_51 rfl rfl (by decide) (Option.some.inj h)
    · rw [if_neg c10] at h
      refine os_iconst (v := 1) hX dX6_isLimited_46 (by decide) ?_
      refine os_goto (tgt := 51) hX dX6_isLimited_47 (by decide) ?_
      exact os_nret (ty := .boolean) hX dX6_isLimited_51 rfl rfl (by decide) (Option.some.inj h)
  · rw [if_pos c1] at h
    refine os_lload_n hX dX6_isLimited_7 rfl rfl ?_
    refine os_lconst (v := 0) hX dX6_isLimited_8 (by decide) ?_
    refine os_lcmp hX dX6_isLimited_9 ?_
    refine os_if_lt (tgt := 17) hX dX6_isLimited_10 (by decide) (fun c11 => ?_) (fun c11 => ?_)
    · rw [if_pos c11] at h
      refine os_iconst (v := 0) hX dX6_isLimited_17 (by decide) ?_
      refine os_goto (tgt := 51) hX dX6_isLimited_18 (by decide) ?_
      exact os_nret (ty := .boolean) hX dX6_isLimited_51 rfl rfl (by decide) (Option.some.inj h)
    · rw [if_neg c11] at h
      refine os_iconst (v := 1) hX dX6_isLimited_13 (by decide) ?_
      refine os_goto (tgt := 51) hX dX6_isLimited_14 (by decide) ?_
      exact os_nret (ty := .boolean) hX dX6_isLimited_51 rfl rfl (by decide) (Option.some.inj h)
def oj_X1_meet_248 (n : Nat) (call : oCl) (κ : oKv) (k62 : Option Nat → Option Nat → Int32 → Int32 → Int32 → Int32 → Int32 → oSt → oRs) (x0 : Option Nat) (x1 : Option Nat) (x2 : Int32) (x3 : Int32) (x4 : Int32) (x5 : Int32) (x6 : Int32) (σ : oSt) : oRs :=
  k62 x0 x1 x2 x3 x4 x5 (x6 + (-2)) σ
def oj_X1_meet_230 (n : Nat) (call : oCl) (κ : oKv) (k62 : Option Nat → Option Nat → Int32 → Int32 → Int32 → Int32 → Int32 → oSt → oRs) (x0 : Option Nat) (x1 : Option Nat) (x2 : Int32) (x3 : Int32) (x4 : Int32) (x5 : Int32) (x6 : Int32) (x7 : Int64) (x9 : Int32) (x10 : Int32) (x11 : Int32) (σ : oSt) : oRs :=
  if x11 = 0 then
    oj_X1_meet_248 n call κ k62 x0 x1 x2 x3 x4 x5 x6 σ
  else
    obn (ovr (ofd σ x0 3 0)) fun v2 =>
    obn (oob σ v2 8) fun a4 =>
    ocv (call 44 [va_rf v2, .int x9, .int x10, .long x7] σ) fun s6 =>
    oj_X1_meet_248 n call κ k62 x0 x1 x2 x3 x4 x5 x6 s6
def oj_X1_meet_225 (n : Nat) (call : oCl) (κ : oKv) (k62 : Option Nat → Option Nat → Int32 → Int32 → Int32 → Int32 → Int32 → oSt → oRs) (x0 : Option Nat) (x1 : Option Nat) (x2 : Int32) (x3 : Int32) (x5 : Int32) (x6 : Int32) (t0 : Int32) (σ : oSt) : oRs :=
  oj_X1_meet_248 n call κ k62 x0 x1 x2 x3 t0 x5 x6 σ
def oj_X1_meet_224 (n : Nat) (call : oCl) (κ : oKv) (k62 : Option Nat → Option Nat → Int32 → Int32 → Int32 → Int32 → Int32 → oSt → oRs) (x0 : Option Nat) (x1 : Option Nat) (x2 : Int32) (x3 : Int32) (x5 : Int32) (x6 : Int32) (σ : oSt) : oRs :=
  oj_X1_meet_225 n call κ k62 x0 x1 x2 x3 x5 x6 0 σ
def oj_X1_meet_188 (n : Nat) (call : oCl) (κ : oKv) (k62 : Option Nat → Option Nat → Int32 → Int32 → Int32 → Int32 → Int32 → oSt → oRs) (x0 : Option Nat) (x1 : Option Nat) (x2 : Int32) (x3 : Int32) (x4 : Int32) (x5 : Int32) (x6 : Int32) (x7 : Int64) (x9 : Int32) (x10 : Int32) (t0 : Int32) (σ : oSt) : oRs :=
  if t0 = 0 then
    oj_X1_meet_230 n call κ k62 x0 x1 x2 x3 x4 x5 x6 x7 x9 x10 t0 σ
  else
    if x3 = 0 then
      oj_X1_meet_230 n call κ k62 x0 x1 x2 x3 x4 x5 x6 x7 x9 x10 t0 σ
    else
      if x4 = 0 then
        oj_X1_meet_224 n call κ k62 x0 x1 x2 x3 x5 x6 σ
      else
        obn (ovr (ofd σ x0 3 0)) fun v4 =>
        obn (oob σ v4 8) fun a6 =>
        oin (call 48 [va_rf v4, .int x9, .int x10, .long x7] σ) fun r10 s8 =>
        if r10 = 0 then
          oj_X1_meet_224 n call κ k62 x0 x1 x2 x3 x5 x6 s8
        else
          oj_X1_meet_225 n call κ k62 x0 x1 x2 x3 x5 x6 1 s8
def oj_X1_meet_183 (n : Nat) (call : oCl) (κ : oKv) (k62 : Option Nat → Option Nat → Int32 → Int32 → Int32 → Int32 → Int32 → oSt → oRs) (x0 : Option Nat) (x1 : Option Nat) (x2 : Int32) (x3 : Int32) (x4 : Int32) (x5 : Int32) (x6 : Int32) (x7 : Int64) (x9 : Int32) (x10 : Int32) (σ : oSt) : oRs :=
  oj_X1_meet_188 n call κ k62 x0 x1 x2 x3 x4 x5 x6 x7 x9 x10 1 σ
def oj_X1_meet_180 (n : Nat) (call : oCl) (κ : oKv) (k62 : Option Nat → Option Nat → Int32 → Int32 → Int32 → Int32 → Int32 → oSt → oRs) (x0 : Option Nat) (x1 : Option Nat) (x2 : Int32) (x3 : Int32) (x4 : Int32) (x5 : Int32) (x6 : Int32) (x7 : Int64) (x9 : Int32) (x10 : Int32) (t0 : Int32) (t1 : Int32) (σ : oSt) : oRs :=
  if t0 = t1 then
    oj_X1_meet_183 n call κ k62 x0 x1 x2 x3 x4 x5 x6 x7 x9 x10 σ
  else
    oj_X1_meet_188 n call κ k62 x0 x1 x2 x3 x4 x5 x6 x7 x9 x10 0 σ
def oj_X1_meet_170 (n : Nat) (call : oCl) (κ : oKv) (k62 : Option Nat → Option Nat → Int32 → Int32 → Int32 → Int32 → Int32 → oSt → oRs) (x0 : Option Nat) (x1 : Option Nat) (x2 : Int32) (x3 : Int32) (x4 : Int32) (x5 : Int32) (x6 : Int32) (x7 : Int64) (x9 : Int32) (x10 : Int32) (t0 : Int32) (σ : oSt) : oRs :=
  if x6 ≤ 0 then
    oj_X1_meet_180 n call κ k62 x0 x1 x2 x3 x4 x5 x6 x7 x9 x10 t0 0 σ
  else
    oj_X1_meet_180 n call κ k62 x0 x1 x2 x3 x4 x5 x6 x7 x9 x10 t0 1 σ
def oj_X1_meet_165 (n : Nat) (call : oCl) (κ : oKv) (k62 : Option Nat → Option Nat → Int32 → Int32 → Int32 → Int32 → Int32 → oSt → oRs) (x0 : Option Nat) (x1 : Option Nat) (x2 : Int32) (x3 : Int32) (x4 : Int32) (x5 : Int32) (x6 : Int32) (x7 : Int64) (x9 : Int32) (x10 : Int32) (σ : oSt) : oRs :=
  oj_X1_meet_170 n call κ k62 x0 x1 x2 x3 x4 x5 x6 x7 x9 x10 1 σ
def oj_X1_meet_137 (n : Nat) (call : oCl) (κ : oKv) (k62 : Option Nat → Option Nat → Int32 → Int32 → Int32 → Int32 → Int32 → oSt → oRs) (x0 : Option Nat) (x1 : Option Nat) (x2 : Int32) (x3 : Int32) (x4 : Int32) (x5 : Int32) (x6 : Int32) (x7 : Int64) (x9 : Int32) (x10 : Int32) (σ : oSt) : oRs :=
  obn (ovi (ofd σ x1 4 11)) fun v1 =>
  if v1 = 61 then
    oj_X1_meet_183 n call κ k62 x0 x1 x2 x3 x4 x5 x6 x7 x9 x10 σ
  else
    obn (ovi (ofd σ x1 4 11)) fun v4 =>
    if v4 = 60 then
      oj_X1_meet_165 n call κ k62 x0 x1 x2 x3 x4 x5 x6 x7 x9 x10 σ
    else
      obn (ovi (ofd σ x1 4 11)) fun v7 =>
      if v7 = 300 then
        oj_X1_meet_165 n call κ k62 x0 x1 x2 x3 x4 x5 x6 x7 x9 x10 σ
      else
        oj_X1_meet_170 n call κ k62 x0 x1 x2 x3 x4 x5 x6 x7 x9 x10 0 σ
def oj_X1_meet_95 (n : Nat) (call : oCl) (κ : oKv) (k62 : Option Nat → Option Nat → Int32 → Int32 → Int32 → Int32 → Int32 → oSt → oRs) (x0 : Option Nat) (x1 : Option Nat) (x2 : Int32) (x3 : Int32) (x4 : Int32) (x5 : Int32) (x6 : Int32) (x7 : Int64) (t0 : Int32) (t1 : Int32) (σ : oSt) : oRs :=
  obn (ovr (ofd σ x1 4 13)) fun v1 =>
  if v1 = none then
    oj_X1_meet_137 n call κ k62 x0 x1 x2 x3 x4 x5 x6 (x7 * 2) (t0 + t1) (t0 + t1) σ
  else
    obn (ovr (ofd σ x1 4 13)) fun v4 =>
    obn (ovi (ofd σ x1 4 12)) fun v6 =>
    oin (call 47 [va_rf v4, .int ((-x6) * v6)] σ) fun r10 s8 =>
    oj_X1_meet_137 n call κ k62 x0 x1 x2 x3 x4 x5 x6 x7 (t0 + t1) r10 s8
def ol_X1_meet_62 (n : Nat) (call : oCl) (κ : oKv) : Nat → Option Nat → Option Nat → Int32 → Int32 → Int32 → Int32 → Int32 → oSt → oRs
  | 0, _, _, _, _, _, _, _, _ => none
  | f + 1, x0, x1, x2, x3, x4, x5, x6, σ =>
    if x6 < (-1) then
      ogd (onar .boolean x4) (some (some (.int x4), σ))
    else
      obn (ovl (ofd σ x1 4 14)) fun v3 =>
      if x6 ≤ 0 then
        oj_X1_meet_95 n call κ (ol_X1_meet_62 n call κ f) x0 x1 x2 x3 x4 x5 x6 ((x6.toInt64 * v3) - x5.toInt64) (2 * x2) 1 σ
      else
        oj_X1_meet_95 n call κ (ol_X1_meet_62 n call κ f) x0 x1 x2 x3 x4 x5 x6 ((x6.toInt64 * v3) - x5.toInt64) (2 * x2) 0 σ
def oj_X1_meet_57 (n : Nat) (call : oCl) (κ : oKv) (x0 : Option Nat) (x1 : Option Nat) (x2 : Int32) (x3 : Int32) (x4 : Int32) (t0 : Int32) (σ : oSt) : oRs :=
  ol_X1_meet_62 n call κ n x0 x1 x2 x3 x4 t0 1 σ
def oj_X1_meet_52 (n : Nat) (call : oCl) (κ : oKv) (x0 : Option Nat) (x1 : Option Nat) (x2 : Int32) (x3 : Int32) (x4 : Int32) (σ : oSt) : oRs :=
  oj_X1_meet_57 n call κ x0 x1 x2 x3 x4 1 σ
def oj_X1_meet_31 (n : Nat) (call : oCl) (κ : oKv) (x0 : Option Nat) (x1 : Option Nat) (x2 : Int32) (x3 : Int32) (σ : oSt) : oRs :=
  obn (ovi (ofd σ x1 4 11)) fun v1 =>
  if v1 = 60 then
    oj_X1_meet_52 n call κ x0 x1 x2 x3 1 σ
  else
    obn (ovi (ofd σ x1 4 11)) fun v4 =>
    if v4 = 62 then
      oj_X1_meet_52 n call κ x0 x1 x2 x3 1 σ
    else
      oj_X1_meet_57 n call κ x0 x1 x2 x3 1 0 σ
def ob_X1_meet (n : Nat) (call : oCl) (κ : oKv) (x0 : Option Nat) (x1 : Option Nat) (x2 : Int32) (x3 : Int32) (σ : oSt) : oRs :=
  obn (ovr (ofd σ x1 4 13)) fun v1 =>
  if v1 = none then
    oj_X1_meet_31 n call κ x0 x1 x2 x3 σ
  else
    obn (ovr (ofd σ x1 4 13)) fun v4 =>
    obn (ovi (ofd σ v4 6 7)) fun v6 =>
    obn (ovi (ofd σ x0 3 7)) fun v8 =>
    if v6 = v8 then
      oj_X1_meet_31 n call κ x0 x1 x2 x3 σ
    else
      if x3 = 0 then
        some (some (.int 1), σ)
      else
        some (some (.int 0), σ)
set_option maxHeartbeats 4000000 in
theorem qj_X1_meet_248 {κ : oKv} {n : Nat} {call : oCl} {kc : Nat → List Value → oSt → Option Value × oSt → Prop} {v : Option Value × oSt} {X : Nat → zLv → List Value → oSt → Prop} (hX : oSem RX1 cX1_meet 12 0 (some .boolean) κ kc v X) (hc : ∀ j av s w, call j av s = some w → kc j av s w) {k62 : Option Nat → Option Nat → Int32 → Int32 → Int32 → Int32 → Int32 → oSt → oRs} (hk62 : ∀ (x0 : Option Nat) (x1 : Option Nat) (x2 : Int32) (x3 : Int32) (x4 : Int32) (x5 : Int32) (x6 : Int32) (s : oSt), k62 x0 x1 x2 x3 x4 x5 x6 s = some v → X 62 [some (va_rf x0), some (va_rf x1), some (.int x2), some (.int x3), some (.int x4), some (.int x5), some (.int x6), none, none, none, none, none] [] s) {x0 : Option Nat} {x1 : Option Nat} {x2 : Int32} {x3 : Int32} {x4 : Int32} {x5 : Int32} {x6 : Int32} {σ : oSt} (h : oj_X1_meet_248 n call κ k62 x0 x1 x2 x3 x4 x5 x6 σ = some v) : X 248 [some (va_rf x0), some (va_rf x1), some (.int x2), some (.int x3), some (.int x4), some (.int x5), some (.int x6), none, none, none, none, none] [] σ := by
  rw [oj_X1_meet_248] at h
  refine os_iinc (v := x6 + (-2)) hX dX1_meet_248 rfl rfl (by decide) rfl ?_
  dsimp only [List.set]
  refine os_goto (tgt := 62) hX dX1_meet_251 (by decide) ?_
  exact hk62 _ _ _ _ _ _ _ _ h
set_option maxHeartbeats 4000000 in
theorem qj_X1_meet_230 {κ : oKv} {n : Nat} {call : oCl} {kc : Nat → List Value → oSt → Option Value × oSt → Prop} {v : Option Value × oSt} {X : Nat → zLv → List Value → oSt → Prop} (hX : oSem RX1 cX1_meet 12 0 (some .boolean) κ kc v X) (hc : ∀ j av s w, call j av s = some w → kc j av s w) {k62 : Option Nat → Option Nat → Int32 → Int32 → Int32 → Int32 → Int32 → oSt → oRs} (hk62 : ∀ (x0 : Option Nat) (x1 : Option Nat) (x2 : Int32) (x3 : Int32) (x4 : Int32) (x5 : Int32) (x6 : Int32) (s : oSt), k62 x0 x1 x2 x3 x4 x5 x6 s = some v → X 62 [some (va_rf x0), some (va_rf x1), some (.int x2), some (.int x3), some (.int x4), some (.int x5), some (.int x6), none, none, none, none, none] [] s) {x0 : Option Nat} {x1 : Option Nat} {x2 : Int32} {x3 : Int32} {x4 : Int32} {x5 : Int32} {x6 : Int32} {x7 : Int64} {x9 : Int32} {x10 : Int32} {x11 : Int32} {σ : oSt} (h : oj_X1_meet_230 n call κ k62 x0 x1 x2 x3 x4 x5 x6 x7 x9 x10 x11 σ = some v) : X 230 [some (va_rf x0), some (va_rf x1), some (.int x2), some (.int x3), some (.int x4), some (.int x5), some (.int x6), some (.long x7), none, some (.int x9), some (.int x10), some (.int x11)] [] σ := by
  rw [oj_X1_meet_230] at h
  refine os_iload hX dX1_meet_230 rfl ?_
  refine os_if_eq (tgt := 248) hX dX1_meet_232 (by decide) (fun c1 => ?_) (fun c1 => ?_)
  · rw [if_pos c1] at h
    refine os_weak hX (lw := [some (va_rf x0), some (va_rf x1), some (.int x2), some (.int x3), some (.int x4), some (.int x5), some (.int x6), none, none, none, none, none]) ⟨rfl, rfl, rfl, rfl, rfl, rfl, rfl, trivial⟩ ?_
    exact qj_X1_meet_248 hX hc hk62 h
  · rw [if_neg c1] at h
    refine os_aload_n (r := x0) hX dX1_meet_235 rfl rfl ?_
    obtain ⟨v2, e3, h⟩ := obn_e h
    refine ow_get (r := x0) hX dX1_meet_236 oF_RX1_12 (ovr_e e3) ?_
    refine os_iload hX dX1_meet_239 rfl ?_
    refine os_iload hX dX1_meet_241 rfl ?_
    refine os_lload hX dX1_meet_243 rfl ?_
    obtain ⟨a4, e5, h⟩ := obn_e h
    obtain ⟨s6, e7, h⟩ := ocv_e h
    refine oc_RX1_144 (rb := v2) (a1 := .int x9) (a2 := .int x10) (a3 := .long x7) hX dX1_meet_245 (Nat.le_of_ble_eq_true rfl) e5 (hc _ _ _ _ e7) ?_
    refine os_weak hX (lw := [some (va_rf x0), some (va_rf x1), some (.int x2), some (.int x3), some (.int x4), some (.int x5), some (.int x6), none, none, none, none, none]) ⟨rfl, rfl, rfl, rfl, rfl, rfl, rfl, trivial⟩ ?_
    exact qj_X1_meet_248 hX hc hk62 h
set_option maxHeartbeats 4000000 in
theorem qj_X1_meet_225 {κ : oKv} {n : Nat} {call : oCl} {kc : Nat → List Value → oSt → Option Value × oSt → Prop} {v : Option Value × oSt} {X : Nat → zLv → List Value → oSt → Prop} (hX : oSem RX1 cX1_meet 12 0 (some .boolean) κ kc v X) (hc : ∀ j av s w, call j av s = some w → kc j av s w) {k62 : Option Nat → Option Nat → Int32 → Int32 → Int32 → Int32 → Int32 → oSt → oRs} (hk62 : ∀ (x0 : Option Nat) (x1 : Option Nat) (x2 : Int32) (x3 : Int32) (x4 : Int32) (x5 : Int32) (x6 : Int32) (s : oSt), k62 x0 x1 x2 x3 x4 x5 x6 s = some v → X 62 [some (va_rf x0), some (va_rf x1), some (.int x2), some (.int x3), some (.int x4), some (.int x5), some (.int x6), none, none, none, none, none] [] s) {x0 : Option Nat} {x1 : Option Nat} {x2 : Int32} {x3 : Int32} {x5 : Int32} {x6 : Int32} {t0 : Int32} {σ : oSt} (h : oj_X1_meet_225 n call κ k62 x0 x1 x2 x3 x5 x6 t0 σ = some v) : X 225 [some (va_rf x0), some (va_rf x1), some (.int x2), some (.int x3), none, some (.int x5), some (.int x6), none, none, none, none, none] [.int t0] σ := by
  rw [oj_X1_meet_225] at h
  refine os_istore hX dX1_meet_225 (by decide) rfl ?_
  dsimp only [List.set]
  refine os_goto (tgt := 248) hX dX1_meet_227 (by decide) ?_
  exact qj_X1_meet_248 hX hc hk62 h
set_option maxHeartbeats 4000000 in
theorem qj_X1_meet_224 {κ : oKv} {n : Nat} {call : oCl} {kc : Nat → List Value → oSt → Option Value × oSt → Prop} {v : Option Value × oSt} {X : Nat → zLv → List Value → oSt → Prop} (hX : oSem RX1 cX1_meet 12 0 (some .boolean) κ kc v X) (hc : ∀ j av s w, call j av s = some w → kc j av s w) {k62 : Option Nat → Option Nat → Int32 → Int32 → Int32 → Int32 → Int32 → oSt → oRs} (hk62 : ∀ (x0 : Option Nat) (x1 : Option Nat) (x2 : Int32) (x3 : Int32) (x4 : Int32) (x5 : Int32) (x6 : Int32) (s : oSt), k62 x0 x1 x2 x3 x4 x5 x6 s = some v → X 62 [some (va_rf x0), some (va_rf x1), some (.int x2), some (.int x3), some (.int x4), some (.int x5), some (.int x6), none, none, none, none, none] [] s) {x0 : Option Nat} {x1 : Option Nat} {x2 : Int32} {x3 : Int32} {x5 : Int32} {x6 : Int32} {σ : oSt} (h : oj_X1_meet_224 n call κ k62 x0 x1 x2 x3 x5 x6 σ = some v) : X 224 [some (va_rf x0), some (va_rf x1), some (.int x2), some (.int x3), none, some (.int x5), some (.int x6), none, none, none, none, none] [] σ := by
  rw [oj_X1_meet_224] at h
  refine os_iconst (v := 0) hX dX1_meet_224 (by decide) ?_
  exact qj_X1_meet_225 hX hc hk62 h
set_option maxHeartbeats 4000000 in
theorem qj_X1_meet_188 {κ : oKv} {n : Nat} {call : oCl} {kc : Nat → List Value → oSt → Option Value × oSt → Prop} {v : Option Value × oSt} {X : Nat → zLv → List Value → oSt → Prop} (hX : oSem RX1 cX1_meet 12 0 (some .boolean) κ kc v X) (hc : ∀ j av s w, call j av s = some w → kc j av s w) {k62 : Option Nat → Option Nat → Int32 → Int32 → Int32 → Int32 → Int32 → oSt → oRs} (hk62 : ∀ (x0 : Option Nat) (x1 : Option Nat) (x2 : Int32) (x3 : Int32) (x4 : Int32) (x5 : Int32) (x6 : Int32) (s : oSt), k62 x0 x1 x2 x3 x4 x5 x6 s = some v → X 62 [some (va_rf x0), some (va_rf x1), some (.int x2), some (.int x3), some (.int x4), some (.int x5), some (.int x6), none, none, none, none, none] [] s) {x0 : Option Nat} {x1 : Option Nat} {x2 : Int32} {x3 : Int32} {x4 : Int32} {x5 : Int32} {x6 : Int32} {x7 : Int64} {x9 : Int32} {x10 : Int32} {t0 : Int32} {σ : oSt} (h : oj_X1_meet_188 n call κ k62 x0 x1 x2 x3 x4 x5 x6 x7 x9 x10 t0 σ = some v) : X 188 [some (va_rf x0), some (va_rf x1), some (.int x2), some (.int x3), some (.int x4), some (.int x5), some (.int x6), some (.long x7), none, some (.int x9), some (.int x10), none] [.int t0] σ := by
  rw [oj_X1_meet_188] at h
  refine os_istore hX dX1_meet_188 (by decide) rfl ?_
  dsimp only [List.set]
  refine os_iload hX dX1_meet_190 rfl ?_
  refine os_if_eq (tgt := 230) hX dX1_meet_192 (by decide) (fun c1 => ?_) (fun c1 => ?_)
  · rw [if_pos c1] at h
    exact qj_X1_meet_230 hX hc hk62 h
  · rw [if_neg c1] at h
    refine os_iload_n hX dX1_meet_195 rfl rfl ?_
    refine os_if_eq (tgt := 230) hX dX1_meet_196 (by decide) (fun c2 => ?_) (fun c2 => ?_)
    · rw [if_pos c2] at h
      exact qj_X1_meet_230 hX hc hk62 h
    · rw [if_neg c2] at h
      refine os_iload hX dX1_meet_199 rfl ?_
      refine os_if_eq (tgt := 224) hX dX1_meet_201 (by decide) (fun c3 => ?_) (fun c3 => ?_)
      · rw [if_pos c3] at h
        refine os_weak hX (lw := [some (va_rf x0), some (va_rf x1), some (.int x2), some (.int x3), none, some (.int x5), some (.int x6), none, none, none, none, none]) ⟨rfl, rfl, rfl, rfl, rfl, rfl, trivial⟩ ?_
        exact qj_X1_meet_224 hX hc hk62 h
      · rw [if_neg c3] at h
        refine os_aload_n (r := x0) hX dX1_meet_204 rfl rfl ?_
        obtain ⟨v4, e5, h⟩ := obn_e h
        refine ow_get (r := x0) hX dX1_meet_205 oF_RX1_12 (ovr_e e5) ?_
        refine os_iload hX dX1_meet_208 rfl ?_
        refine os_iload hX dX1_meet_210 rfl ?_
        refine os_lload hX dX1_meet_212 rfl ?_
        obtain ⟨a6, e7, h⟩ := obn_e h
        obtain ⟨r10, s8, e9, h⟩ := oin_e h
        refine oc_RX1_172 (rb := v4) (a1 := .int x9) (a2 := .int x10) (a3 := .long x7) hX dX1_meet_214 (Nat.le_of_ble_eq_true rfl) e7 (hc _ _ _ _ e9) ?_
        refine os_if_eq (tgt := 224) hX dX1_meet_217 (by decide) (fun c11 => ?_) (fun c11 => ?_)
        · rw [if_pos c11] at h
          refine os_weak hX (lw := [some (va_rf x0), some (va_rf x1), some (.int x2), some (.int x3), none, some (.int x5), some (.int x6), none, none, none, none, none]) ⟨rfl, rfl, rfl, rfl, rfl, rfl, trivial⟩ ?_
          exact qj_X1_meet_224 hX hc hk62 h
        · rw [if_neg c11] at h
          refine os_iconst (v := 1) hX dX1_meet_220 (by decide) ?_
          refine os_goto (tgt := 225) hX dX1_meet_221 (by decide) ?_
          refine os_weak hX (lw := [some (va_rf x0), some (va_rf x1), some (.int x2), some (.int x3), none, some (.int x5), some (.int x6), none, none, none, none, none]) ⟨rfl, rfl, rfl, rfl, rfl, rfl, trivial⟩ ?_
          exact qj_X1_meet_225 hX hc hk62 h
set_option maxHeartbeats 4000000 in
theorem qj_X1_meet_183 {κ : oKv} {n : Nat} {call : oCl} {kc : Nat → List Value → oSt → Option Value × oSt → Prop} {v : Option Value × oSt} {X : Nat → zLv → List Value → oSt → Prop} (hX : oSem RX1 cX1_meet 12 0 (some .boolean) κ kc v X) (hc : ∀ j av s w, call j av s = some w → kc j av s w) {k62 : Option Nat → Option Nat → Int32 → Int32 → Int32 → Int32 → Int32 → oSt → oRs} (hk62 : ∀ (x0 : Option Nat) (x1 : Option Nat) (x2 : Int32) (x3 : Int32) (x4 : Int32) (x5 : Int32) (x6 : Int32) (s : oSt), k62 x0 x1 x2 x3 x4 x5 x6 s = some v → X 62 [some (va_rf x0), some (va_rf x1), some (.int x2), some (.int x3), some (.int x4), some (.int x5), some (.int x6), none, none, none, none, none] [] s) {x0 : Option Nat} {x1 : Option Nat} {x2 : Int32} {x3 : Int32} {x4 : Int32} {x5 : Int32} {x6 : Int32} {x7 : Int64} {x9 : Int32} {x10 : Int32} {σ : oSt} (h : oj_X1_meet_183 n call κ k62 x0 x1 x2 x3 x4 x5 x6 x7 x9 x10 σ = some v) : X 183 [some (va_rf x0), some (va_rf x1), some (.int x2), some (.int x3), some (.int x4), some (.int x5), some (.int x6), some (.long x7), none, some (.int x9), some (.int x10), none] [] σ := by
  rw [oj_X1_meet_183] at h
  refine os_iconst (v := 1) hX dX1_meet_183 (by decide) ?_
  refine os_goto (tgt := 188) hX dX1_meet_184 (by decide) ?_
  exact qj_X1_meet_188 hX hc hk62 h
set_option maxHeartbeats 4000000 in
theorem qj_X1_meet_180 {κ : oKv} {n : Nat} {call : oCl} {kc : Nat → List Value → oSt → Option Value × oSt → Prop} {v : Option Value × oSt} {X : Nat → zLv → List Value → oSt → Prop} (hX : oSem RX1 cX1_meet 12 0 (some .boolean) κ kc v X) (hc : ∀ j av s w, call j av s = some w → kc j av s w) {k62 : Option Nat → Option Nat → Int32 → Int32 → Int32 → Int32 → Int32 → oSt → oRs} (hk62 : ∀ (x0 : Option Nat) (x1 : Option Nat) (x2 : Int32) (x3 : Int32) (x4 : Int32) (x5 : Int32) (x6 : Int32) (s : oSt), k62 x0 x1 x2 x3 x4 x5 x6 s = some v → X 62 [some (va_rf x0), some (va_rf x1), some (.int x2), some (.int x3), some (.int x4), some (.int x5), some (.int x6), none, none, none, none, none] [] s) {x0 : Option Nat} {x1 : Option Nat} {x2 : Int32} {x3 : Int32} {x4 : Int32} {x5 : Int32} {x6 : Int32} {x7 : Int64} {x9 : Int32} {x10 : Int32} {t0 : Int32} {t1 : Int32} {σ : oSt} (h : oj_X1_meet_180 n call κ k62 x0 x1 x2 x3 x4 x5 x6 x7 x9 x10 t0 t1 σ = some v) : X 180 [some (va_rf x0), some (va_rf x1), some (.int x2), some (.int x3), some (.int x4), some (.int x5), some (.int x6), some (.long x7), none, some (.int x9), some (.int x10), none] [.int t1, .int t0] σ := by
  rw [oj_X1_meet_180] at h
  refine os_icmp_ne (tgt := 187) hX dX1_meet_180 (by decide) (fun c1 => ?_) (fun c1 => ?_)
  · rw [if_neg c1] at h
    refine os_iconst (v := 0) hX dX1_meet_187 (by decide) ?_
    exact qj_X1_meet_188 hX hc hk62 h
  · rw [if_pos c1] at h
    exact qj_X1_meet_183 hX hc hk62 h
set_option maxHeartbeats 4000000 in
theorem qj_X1_meet_170 {κ : oKv} {n : Nat} {call : oCl} {kc : Nat → List Value → oSt → Option Value × oSt → Prop} {v : Option Value × oSt} {X : Nat → zLv → List Value → oSt → Prop} (hX : oSem RX1 cX1_meet 12 0 (some .boolean) κ kc v X) (hc : ∀ j av s w, call j av s = some w → kc j av s w) {k62 : Option Nat → Option Nat → Int32 → Int32 → Int32 → Int32 → Int32 → oSt → oRs} (hk62 : ∀ (x0 : Option Nat) (x1 : Option Nat) (x2 : Int32) (x3 : Int32) (x4 : Int32) (x5 : Int32) (x6 : Int32) (s : oSt), k62 x0 x1 x2 x3 x4 x5 x6 s = some v → X 62 [some (va_rf x0), some (va_rf x1), some (.int x2), some (.int x3), some (.int x4), some (.int x5), some (.int x6), none, none, none, none, none] [] s) {x0 : Option Nat} {x1 : Option Nat} {x2 : Int32} {x3 : Int32} {x4 : Int32} {x5 : Int32} {x6 : Int32} {x7 : Int64} {x9 : Int32} {x10 : Int32} {t0 : Int32} {σ : oSt} (h : oj_X1_meet_170 n call κ k62 x0 x1 x2 x3 x4 x5 x6 x7 x9 x10 t0 σ = some v) : X 170 [some (va_rf x0), some (va_rf x1), some (.int x2), some (.int x3), some (.int x4), some (.int x5), some (.int x6), some (.long x7), none, some (.int x9), some (.int x10), none] [.int t0] σ := by
  rw [oj_X1_meet_170] at h
  refine os_iload hX dX1_meet_170 rfl ?_
  refine os_if_le (tgt := 179) hX dX1_meet_172 (by decide) (fun c1 => ?_) (fun c1 => ?_)
  · rw [if_pos c1] at h
    refine os_iconst (v := 0) hX dX1_meet_179 (by decide) ?_
    exact qj_X1_meet_180 hX hc hk62 h
  · rw [if_neg c1] at h
    refine os_iconst (v := 1) hX dX1_meet_175 (by decide) ?_
    refine os_goto (tgt := 180) hX dX1_meet_176 (by decide) ?_
    exact qj_X1_meet_180 hX hc hk62 h
set_option maxHeartbeats 4000000 in
theorem qj_X1_meet_165 {κ : oKv} {n : Nat} {call : oCl} {kc : Nat → List Value → oSt → Option Value × oSt → Prop} {v : Option Value × oSt} {X : Nat → zLv → List Value → oSt → Prop} (hX : oSem RX1 cX1_meet 12 0 (some .boolean) κ kc v X) (hc : ∀ j av s w, call j av s = some w → kc j av s w) {k62 : Option Nat → Option Nat → Int32 → Int32 → Int32 → Int32 → Int32 → oSt → oRs} (hk62 : ∀ (x0 : Option Nat) (x1 : Option Nat) (x2 : Int32) (x3 : Int32) (x4 : Int32) (x5 : Int32) (x6 : Int32) (s : oSt), k62 x0 x1 x2 x3 x4 x5 x6 s = some v → X 62 [some (va_rf x0), some (va_rf x1), some (.int x2), some (.int x3), some (.int x4), some (.int x5), some (.int x6), none, none, none, none, none] [] s) {x0 : Option Nat} {x1 : Option Nat} {x2 : Int32} {x3 : Int32} {x4 : Int32} {x5 : Int32} {x6 : Int32} {x7 : Int64} {x9 : Int32} {x10 : Int32} {σ : oSt} (h : oj_X1_meet_165 n call κ k62 x0 x1 x2 x3 x4 x5 x6 x7 x9 x10 σ = some v) : X 165 [some (va_rf x0), some (va_rf x1), some (.int x2), some (.int x3), some (.int x4), some (.int x5), some (.int x6), some (.long x7), none, some (.int x9), some (.int x10), none] [] σ := by
  rw [oj_X1_meet_165] at h
  refine os_iconst (v := 1) hX dX1_meet_165 (by decide) ?_
  refine os_goto (tgt := 170) hX dX1_meet_166 (by decide) ?_
  exact qj_X1_meet_170 hX hc hk62 h
set_option maxHeartbeats 4000000 in
theorem qj_X1_meet_137 {κ : oKv} {n : Nat} {call : oCl} {kc : Nat → List Value → oSt → Option Value × oSt → Prop} {v : Option Value × oSt} {X : Nat → zLv → List Value → oSt → Prop} (hX : oSem RX1 cX1_meet 12 0 (some .boolean) κ kc v X) (hc : ∀ j av s w, call j av s = some w → kc j av s w) {k62 : Option Nat → Option Nat → Int32 → Int32 → Int32 → Int32 → Int32 → oSt → oRs} (hk62 : ∀ (x0 : Option Nat) (x1 : Option Nat) (x2 : Int32) (x3 : Int32) (x4 : Int32) (x5 : Int32) (x6 : Int32) (s : oSt), k62 x0 x1 x2 x3 x4 x5 x6 s = some v → X 62 [some (va_rf x0), some (va_rf x1), some (.int x2), some (.int x3), some (.int x4), some (.int x5), some (.int x6), none, none, none, none, none] [] s) {x0 : Option Nat} {x1 : Option Nat} {x2 : Int32} {x3 : Int32} {x4 : Int32} {x5 : Int32} {x6 : Int32} {x7 : Int64} {x9 : Int32} {x10 : Int32} {σ : oSt} (h : oj_X1_meet_137 n call κ k62 x0 x1 x2 x3 x4 x5 x6 x7 x9 x10 σ = some v) : X 137 [some (va_rf x0), some (va_rf x1), some (.int x2), some (.int x3), some (.int x4), some (.int x5), some (.int x6), some (.long x7), none, some (.int x9), some (.int x10), none] [] σ := by
  rw [oj_X1_meet_137] at h
  refine os_aload_n (r := x1) hX dX1_meet_137 rfl rfl ?_
  obtain ⟨v1, e2, h⟩ := obn_e h
  refine ow_get (r := x1) hX dX1_meet_138 oF_RX1_156 (ovi_e e2) ?_
  refine os_bipush (v := 61) hX dX1_meet_141 (by decide) ?_
  refine os_icmp_eq (tgt := 183) hX dX1_meet_143 (by decide) (fun c3 => ?_) (fun c3 => ?_)
  · rw [if_pos c3] at h
    exact qj_X1_meet_183 hX hc hk62 h
  · rw [if_neg c3] at h
    refine os_aload_n (r := x1) hX dX1_meet_146 rfl rfl ?_
    obtain ⟨v4, e5, h⟩ := obn_e h
    refine ow_get (r := x1) hX dX1_meet_147 oF_RX1_156 (ovi_e e5) ?_
    refine os_bipush (v := 60) hX dX1_meet_150 (by decide) ?_
    refine os_icmp_eq (tgt := 165) hX dX1_meet_152 (by decide) (fun c6 => ?_) (fun c6 => ?_)
    · rw [if_pos c6] at h
      exact qj_X1_meet_165 hX hc hk62 h
    · rw [if_neg c6] at h
      refine os_aload_n (r := x1) hX dX1_meet_155 rfl rfl ?_
      obtain ⟨v7, e8, h⟩ := obn_e h
      refine ow_get (r := x1) hX dX1_meet_156 oF_RX1_156 (ovi_e e8) ?_
      refine os_sipush (v := 300) hX dX1_meet_159 (by decide) ?_
      refine os_icmp_ne (tgt := 169) hX dX1_meet_162 (by decide) (fun c9 => ?_) (fun c9 => ?_)
      · rw [if_neg c9] at h
        refine os_iconst (v := 0) hX dX1_meet_169 (by decide) ?_
        exact qj_X1_meet_170 hX hc hk62 h
      · rw [if_pos c9] at h
        exact qj_X1_meet_165 hX hc hk62 h
set_option maxHeartbeats 4000000 in
theorem qj_X1_meet_95 {κ : oKv} {n : Nat} {call : oCl} {kc : Nat → List Value → oSt → Option Value × oSt → Prop} {v : Option Value × oSt} {X : Nat → zLv → List Value → oSt → Prop} (hX : oSem RX1 cX1_meet 12 0 (some .boolean) κ kc v X) (hc : ∀ j av s w, call j av s = some w → kc j av s w) {k62 : Option Nat → Option Nat → Int32 → Int32 → Int32 → Int32 → Int32 → oSt → oRs} (hk62 : ∀ (x0 : Option Nat) (x1 : Option Nat) (x2 : Int32) (x3 : Int32) (x4 : Int32) (x5 : Int32) (x6 : Int32) (s : oSt), k62 x0 x1 x2 x3 x4 x5 x6 s = some v → X 62 [some (va_rf x0), some (va_rf x1), some (.int x2), some (.int x3), some (.int x4), some (.int x5), some (.int x6), none, none, none, none, none] [] s) {x0 : Option Nat} {x1 : Option Nat} {x2 : Int32} {x3 : Int32} {x4 : Int32} {x5 : Int32} {x6 : Int32} {x7 : Int64} {t0 : Int32} {t1 : Int32} {σ : oSt} (h : oj_X1_meet_95 n call κ k62 x0 x1 x2 x3 x4 x5 x6 x7 t0 t1 σ = some v) : X 95 [some (va_rf x0), some (va_rf x1), some (.int x2), some (.int x3), some (.int x4), some (.int x5), some (.int x6), some (.long x7), none, none, none, none] [.int t1, .int t0] σ := by
  rw [oj_X1_meet_95] at h
  refine os_iadd hX dX1_meet_95 ?_
  refine os_istore hX dX1_meet_96 (by decide) rfl ?_
  dsimp only [List.set]
  refine os_iload hX dX1_meet_98 rfl ?_
  refine os_istore hX dX1_meet_100 (by decide) rfl ?_
  dsimp only [List.set]
  refine os_aload_n (r := x1) hX dX1_meet_102 rfl rfl ?_
  obtain ⟨v1, e2, h⟩ := obn_e h
  refine ow_get (r := x1) hX dX1_meet_103 oF_RX1_155 (ovr_e e2) ?_
  refine os_ifnonnull (r := v1) (tgt := 120) hX dX1_meet_106 (by decide) (fun c3 => ?_) (fun c3 => ?_)
  · rw [if_neg c3] at h
    refine os_aload_n (r := x1) hX dX1_meet_120 rfl rfl ?_
    obtain ⟨v4, e5, h⟩ := obn_e h
    refine ow_get (r := x1) hX dX1_meet_121 oF_RX1_155 (ovr_e e5) ?_
    refine os_iload hX dX1_meet_124 rfl ?_
    refine os_ineg hX dX1_meet_126 ?_
    refine os_aload_n (r := x1) hX dX1_meet_127 rfl rfl ?_
    obtain ⟨v6, e7, h⟩ := obn_e h
    refine ow_get (r := x1) hX dX1_meet_128 oF_RX1_165 (ovi_e e7) ?_
    refine os_imul hX dX1_meet_131 ?_
    obtain ⟨r10, s8, e9, h⟩ := oin_e h
    refine oc_RX1_168 (a1 := va_rf v4) (a2 := .int ((-x6) * v6)) hX dX1_meet_132 (Nat.le_of_ble_eq_true rfl) (hc _ _ _ _ e9) ?_
    refine os_istore hX dX1_meet_135 (by decide) rfl ?_
    dsimp only [List.set]
    exact qj_X1_meet_137 hX hc hk62 h
  · rw [if_pos c3] at h
    refine os_lload hX dX1_meet_109 rfl ?_
    refine os_ldc2 (x := 2) hX dX1_meet_111 oCL_RX1_163 ?_
    refine os_lmul hX dX1_meet_114 ?_
    refine os_lstore hX dX1_meet_115 (by decide) rfl ?_
    dsimp only [List.set]
    refine os_goto (tgt := 137) hX dX1_meet_117 (by decide) ?_
    exact qj_X1_meet_137 hX hc hk62 h
set_option maxHeartbeats 4000000 in
theorem ql_X1_meet_62 {κ : oKv} {n : Nat} {call : oCl} {kc : Nat → List Value → oSt → Option Value × oSt → Prop} {v : Option Value × oSt} {X : Nat → zLv → List Value → oSt → Prop} (hX : oSem RX1 cX1_meet 12 0 (some .boolean) κ kc v X) (hc : ∀ j av s w, call j av s = some w → kc j av s w) : ∀ (f : Nat) (x0 : Option Nat) (x1 : Option Nat) (x2 : Int32) (x3 : Int32) (x4 : Int32) (x5 : Int32) (x6 : Int32) (σ : oSt), ol_X1_meet_62 n call κ f x0 x1 x2 x3 x4 x5 x6 σ = some v → X 62 [some (va_rf x0), some (va_rf x1), some (.int x2), some (.int x3), some (.int x4), some (.int x5), some (.int x6), none, none, none, none, none] [] σ := by
  intro f
  induction f with
  | zero => intro x0 x1 x2 x3 x4 x5 x6 σ h; cases h
  | succ f hk62 =>
    intro x0 x1 x2 x3 x4 x5 x6 σ h
    rw [ol_X1_meet_62] at h
    refine os_iload hX dX1_meet_62 rfl ?_
    refine os_iconst (v := (-1)) hX dX1_meet_64 (by decide) ?_
    refine os_icmp_lt (tgt := 254) hX dX1_meet_65 (by decide) (fun c1 => ?_) (fun c1 => ?_)
    · rw [if_pos c1] at h
      refine os_iload hX dX1_meet_254 rfl ?_
      obtain ⟨b2, h⟩ := ogd_e h
      exact os_nret (ty := .boolean) hX dX1_meet_256 rfl rfl (znz_ok b2) (Option.some.inj h)
    · rw [if_neg c1] at h
      refine os_iload hX dX1_meet_68 rfl ?_
      refine os_i2l hX dX1_meet_70 ?_
      refine os_aload_n (r := x1) hX dX1_meet_71 rfl rfl ?_
      obtain ⟨v3, e4, h⟩ := obn_e h
      refine ow_get (r := x1) hX dX1_meet_72 oF_RX1_159 (ovl_e e4) ?_
      refine os_lmul hX dX1_meet_75 ?_
      refine os_iload hX dX1_meet_76 rfl ?_
      refine os_i2l hX dX1_meet_78 ?_
      refine os_lsub hX dX1_meet_79 ?_
      refine os_lstore hX dX1_meet_80 (by decide) rfl ?_
      dsimp only [List.set]
      refine os_iconst (v := 2) hX dX1_meet_82 (by decide) ?_
      refine os_iload_n hX dX1_meet_83 rfl rfl ?_
      refine os_imul hX dX1_meet_84 ?_
      refine os_iload hX dX1_meet_85 rfl ?_
      refine os_if_le (tgt := 94) hX dX1_meet_87 (by decide) (fun c5 => ?_) (fun c5 => ?_)
      · rw [if_pos c5] at h
        refine os_iconst (v := 1) hX dX1_meet_94 (by decide) ?_
        exact qj_X1_meet_95 hX hc hk62 h
      · rw [if_neg c5] at h
        refine os_iconst (v := 0) hX dX1_meet_90 (by decide) ?_
        refine os_goto (tgt := 95) hX dX1_meet_91 (by decide) ?_
        exact qj_X1_meet_95 hX hc hk62 h
set_option maxHeartbeats 4000000 in
theorem qj_X1_meet_57 {κ : oKv} {n : Nat} {call : oCl} {kc : Nat → List Value → oSt → Option Value × oSt → Prop} {v : Option Value × oSt} {X : Nat → zLv → List Value → oSt → Prop} (hX : oSem RX1 cX1_meet 12 0 (some .boolean) κ kc v X) (hc : ∀ j av s w, call j av s = some w → kc j av s w) {x0 : Option Nat} {x1 : Option Nat} {x2 : Int32} {x3 : Int32} {x4 : Int32} {t0 : Int32} {σ : oSt} (h : oj_X1_meet_57 n call κ x0 x1 x2 x3 x4 t0 σ = some v) : X 57 [some (va_rf x0), some (va_rf x1), some (.int x2), some (.int x3), some (.int x4), none, none, none, none, none, none, none] [.int t0] σ := by
  rw [oj_X1_meet_57] at h
  refine os_istore hX dX1_meet_57 (by decide) rfl ?_
  dsimp only [List.set]
  refine os_iconst (v := 1) hX dX1_meet_59 (by decide) ?_
  refine os_istore hX dX1_meet_60 (by decide) rfl ?_
  dsimp only [List.set]
  exact ql_X1_meet_62 hX hc n _ _ _ _ _ _ _ _ h
set_option maxHeartbeats 4000000 in
theorem qj_X1_meet_52 {κ : oKv} {n : Nat} {call : oCl} {kc : Nat → List Value → oSt → Option Value × oSt → Prop} {v : Option Value × oSt} {X : Nat → zLv → List Value → oSt → Prop} (hX : oSem RX1 cX1_meet 12 0 (some .boolean) κ kc v X) (hc : ∀ j av s w, call j av s = some w → kc j av s w) {x0 : Option Nat} {x1 : Option Nat} {x2 : Int32} {x3 : Int32} {x4 : Int32} {σ : oSt} (h : oj_X1_meet_52 n call κ x0 x1 x2 x3 x4 σ = some v) : X 52 [some (va_rf x0), some (va_rf x1), some (.int x2), some (.int x3), some (.int x4), none, none, none, none, none, none, none] [] σ := by
  rw [oj_X1_meet_52] at h
  refine os_iconst (v := 1) hX dX1_meet_52 (by decide) ?_
  refine os_goto (tgt := 57) hX dX1_meet_53 (by decide) ?_
  exact qj_X1_meet_57 hX hc h
set_option maxHeartbeats 4000000 in
theorem qj_X1_meet_31 {κ : oKv} {n : Nat} {call : oCl} {kc : Nat → List Value → oSt → Option Value × oSt → Prop} {v : Option Value × oSt} {X : Nat → zLv → List Value → oSt → Prop} (hX : oSem RX1 cX1_meet 12 0 (some .boolean) κ kc v X) (hc : ∀ j av s w, call j av s = some w → kc j av s w) {x0 : Option Nat} {x1 : Option Nat} {x2 : Int32} {x3 : Int32} {σ : oSt} (h : oj_X1_meet_31 n call κ x0 x1 x2 x3 σ = some v) : X 31 [some (va_rf x0), some (va_rf x1), some (.int x2), some (.int x3), none, none, none, none, none, none, none, none] [] σ := by
  rw [oj_X1_meet_31] at h
  refine os_iconst (v := 1) hX dX1_meet_31 (by decide) ?_
  refine os_istore hX dX1_meet_32 (by decide) rfl ?_
  dsimp only [List.set]
  refine os_aload_n (r := x1) hX dX1_meet_34 rfl rfl ?_
  obtain ⟨v1, e2, h⟩ := obn_e h
  refine ow_get (r := x1) hX dX1_meet_35 oF_RX1_156 (ovi_e e2) ?_
  refine os_bipush (v := 60) hX dX1_meet_38 (by decide) ?_
  refine os_icmp_eq (tgt := 52) hX dX1_meet_40 (by decide) (fun c3 => ?_) (fun c3 => ?_)
  · rw [if_pos c3] at h
    exact qj_X1_meet_52 hX hc h
  · rw [if_neg c3] at h
    refine os_aload_n (r := x1) hX dX1_meet_43 rfl rfl ?_
    obtain ⟨v4, e5, h⟩ := obn_e h
    refine ow_get (r := x1) hX dX1_meet_44 oF_RX1_156 (ovi_e e5) ?_
    refine os_bipush (v := 62) hX dX1_meet_47 (by decide) ?_
    refine os_icmp_ne (tgt := 56) hX dX1_meet_49 (by decide) (fun c6 => ?_) (fun c6 => ?_)
    · rw [if_neg c6] at h
      refine os_iconst (v := 0) hX dX1_meet_56 (by decide) ?_
      exact qj_X1_meet_57 hX hc h
    · rw [if_pos c6] at h
      exact qj_X1_meet_52 hX hc h
set_option maxHeartbeats 4000000 in
theorem qb_X1_meet {κ : oKv} {n : Nat} {call : oCl} {kc : Nat → List Value → oSt → Option Value × oSt → Prop} {v : Option Value × oSt} {X : Nat → zLv → List Value → oSt → Prop} (hX : oSem RX1 cX1_meet 12 0 (some .boolean) κ kc v X) (hc : ∀ j av s w, call j av s = some w → kc j av s w) {x0 : Option Nat} {x1 : Option Nat} {x2 : Int32} {x3 : Int32} {σ : oSt} (h : ob_X1_meet n call κ x0 x1 x2 x3 σ = some v) : X 0 [some (va_rf x0), some (va_rf x1), some (.int x2), some (.int x3), none, none, none, none, none, none, none, none] [] σ := by
  rw [ob_X1_meet] at h
  refine os_aload_n (r := x1) hX dX1_meet_0 rfl rfl ?_
  obtain ⟨v1, e2, h⟩ := obn_e h
  refine ow_get (r := x1) hX dX1_meet_1 oF_RX1_155 (ovr_e e2) ?_
  refine os_ifnull (r := v1) (tgt := 31) hX dX1_meet_4 (by decide) (fun c3 => ?_) (fun c3 => ?_)
  · rw [if_pos c3] at h
    exact qj_X1_meet_31 hX hc h
  · rw [if_neg c3] at h
    refine os_aload_n (r := x1) hX dX1_meet_7 rfl rfl ?_
    obtain ⟨v4, e5, h⟩ := obn_e h
    refine ow_get (r := x1) hX dX1_meet_8 oF_RX1_155 (ovr_e e5) ?_
    obtain ⟨v6, e7, h⟩ := obn_e h
    refine ow_get (r := v4) hX dX1_meet_11 oF_RX1_121 (ovi_e e7) ?_
    refine os_aload_n (r := x0) hX dX1_meet_14 rfl rfl ?_
    obtain ⟨v8, e9, h⟩ := obn_e h
    refine ow_get (r := x0) hX dX1_meet_15 oF_RX1_100 (ovi_e e9) ?_
    refine os_icmp_eq (tgt := 31) hX dX1_meet_18 (by decide) (fun c10 => ?_) (fun c10 => ?_)
    · rw [if_pos c10] at h
      exact qj_X1_meet_31 hX hc h
    · rw [if_neg c10] at h
      refine os_iload_n hX dX1_meet_21 rfl rfl ?_
      refine os_if_ne (tgt := 29) hX dX1_meet_22 (by decide) (fun c11 => ?_) (fun c11 => ?_)
      · rw [if_neg c11] at h
        refine os_iconst (v := 0) hX dX1_meet_29 (by decide) ?_
        exact os_nret (ty := .boolean) hX dX1_meet_30 rfl rfl (by decide) (Option.some.inj h)
      · rw [if_pos c11] at h
        refine os_iconst (v := 1) hX dX1_meet_25 (by decide) ?_
        refine os_goto (tgt := 30) hX dX1_meet_26 (by decide) ?_
        exact os_nret (ty := .boolean) hX dX1_meet_30 rfl rfl (by decide) (Option.some.inj h)
def ol_X1_learn_30 (n : Nat) (call : oCl) (κ : oKv) : Nat → Option Nat → Option Nat → Int32 → Int32 → oSt → oRs
  | 0, _, _, _, _, _ => none
  | f + 1, x0, x1, x2, x3, σ =>
    obn (ovr (ofd σ x1 4 1)) fun v1 =>
    obn (ovi (ofd σ v1 4 7)) fun v3 =>
    if v3 ≤ x3 then
      some (none, σ)
    else
      obn (oob σ x1 4) fun a6 =>
      ocv (call 46 [va_rf x1, .int x3] σ) fun s8 =>
      obn (oob s8 x0 3) fun a11 =>
      oin (call 49 [va_rf x0, va_rf x1, .int x2, .int 0] s8) fun r15 s13 =>
      ol_X1_learn_30 n call κ f x0 x1 x2 (x3 + 1) s13
def oj_X1_learn_28 (n : Nat) (call : oCl) (κ : oKv) (x0 : Option Nat) (x1 : Option Nat) (x2 : Int32) (σ : oSt) : oRs :=
  ol_X1_learn_30 n call κ n x0 x1 x2 0 σ
def ob_X1_learn (n : Nat) (call : oCl) (κ : oKv) (x0 : Option Nat) (x1 : Option Nat) (x2 : Int32) (σ : oSt) : oRs :=
  obn (ovi (ofd σ x1 4 0)) fun v1 =>
  if v1 = 210 then
    oj_X1_learn_28 n call κ x0 x1 x2 σ
  else
    obn (ovr (ofd σ x0 3 0)) fun v4 =>
    obn (oob σ v4 8) fun a6 =>
    ocv (call 44 [va_rf v4, .int ((2 * x2) + 1), .int ((2 * x2) + 1), .long 0] σ) fun s8 =>
    oj_X1_learn_28 n call κ x0 x1 x2 s8
set_option maxHeartbeats 4000000 in
theorem ql_X1_learn_30 {κ : oKv} {n : Nat} {call : oCl} {kc : Nat → List Value → oSt → Option Value × oSt → Prop} {v : Option Value × oSt} {X : Nat → zLv → List Value → oSt → Prop} (hX : oSem RX1 cX1_learn 4 0 none κ kc v X) (hc : ∀ j av s w, call j av s = some w → kc j av s w) : ∀ (f : Nat) (x0 : Option Nat) (x1 : Option Nat) (x2 : Int32) (x3 : Int32) (σ : oSt), ol_X1_learn_30 n call κ f x0 x1 x2 x3 σ = some v → X 30 [some (va_rf x0), some (va_rf x1), some (.int x2), some (.int x3)] [] σ := by
  intro f
  induction f with
  | zero => intro x0 x1 x2 x3 σ h; cases h
  | succ f hk30 =>
    intro x0 x1 x2 x3 σ h
    rw [ol_X1_learn_30] at h
    refine os_iload_n hX dX1_learn_30 rfl rfl ?_
    refine os_aload_n (r := x1) hX dX1_learn_31 rfl rfl ?_
    obtain ⟨v1, e2, h⟩ := obn_e h
    refine ow_get (r := x1) hX dX1_learn_32 oF_RX1_37 (ovr_e e2) ?_
    obtain ⟨v3, e4, h⟩ := obn_e h
    refine ow_get (r := v1) hX dX1_learn_35 oF_RX1_43 (ovi_e e4) ?_
    refine os_icmp_ge (tgt := 60) hX dX1_learn_38 (by decide) (fun c5 => ?_) (fun c5 => ?_)
    · rw [if_pos c5] at h
      exact os_vret hX dX1_learn_60 rfl (Option.some.inj h)
    · rw [if_neg c5] at h
      refine os_aload_n (r := x1) hX dX1_learn_41 rfl rfl ?_
      refine os_iload_n hX dX1_learn_42 rfl rfl ?_
      obtain ⟨a6, e7, h⟩ := obn_e h
      obtain ⟨s8, e9, h⟩ := ocv_e h
      refine oc_RX1_148 (rb := x1) (a1 := .int x3) hX dX1_learn_43 (Nat.le_of_ble_eq_true rfl) e7 (hc _ _ _ _ e9) ?_
      refine os_aload_n (r := x0) hX dX1_learn_46 rfl rfl ?_
      refine os_aload_n (r := x1) hX dX1_learn_47 rfl rfl ?_
      refine os_iload_n hX dX1_learn_48 rfl rfl ?_
      refine os_iconst (v := 0) hX dX1_learn_49 (by decide) ?_
      obtain ⟨a11, e12, h⟩ := obn_e h
      obtain ⟨r15, s13, e14, h⟩ := oin_e h
      refine oc_RX1_151 (rb := x0) (a1 := va_rf x1) (a2 := .int x2) (a3 := .int 0) hX dX1_learn_50 (Nat.le_of_ble_eq_true rfl) e12 (hc _ _ _ _ e14) ?_
      refine os_pop hX dX1_learn_53 rfl ?_
      refine os_iinc (v := x3 + 1) hX dX1_learn_54 rfl rfl (by decide) rfl ?_
      dsimp only [List.set]
      refine os_goto (tgt := 30) hX dX1_learn_57 (by decide) ?_
      exact hk30 _ _ _ _ _ h
set_option maxHeartbeats 4000000 in
theorem qj_X1_learn_28 {κ : oKv} {n : Nat} {call : oCl} {kc : Nat → List Value → oSt → Option Value × oSt → Prop} {v : Option Value × oSt} {X : Nat → zLv → List Value → oSt → Prop} (hX : oSem RX1 cX1_learn 4 0 none κ kc v X) (hc : ∀ j av s w, call j av s = some w → kc j av s w) {x0 : Option Nat} {x1 : Option Nat} {x2 : Int32} {σ : oSt} (h : oj_X1_learn_28 n call κ x0 x1 x2 σ = some v) : X 28 [some (va_rf x0), some (va_rf x1), some (.int x2), none] [] σ := by
  rw [oj_X1_learn_28] at h
  refine os_iconst (v := 0) hX dX1_learn_28 (by decide) ?_
  refine os_istore_n hX dX1_learn_29 rfl (by decide) rfl ?_
  dsimp only [List.set]
  exact ql_X1_learn_30 hX hc n _ _ _ _ _ h
set_option maxHeartbeats 4000000 in
theorem qb_X1_learn {κ : oKv} {n : Nat} {call : oCl} {kc : Nat → List Value → oSt → Option Value × oSt → Prop} {v : Option Value × oSt} {X : Nat → zLv → List Value → oSt → Prop} (hX : oSem RX1 cX1_learn 4 0 none κ kc v X) (hc : ∀ j av s w, call j av s = some w → kc j av s w) {x0 : Option Nat} {x1 : Option Nat} {x2 : Int32} {σ : oSt} (h : ob_X1_learn n call κ x0 x1 x2 σ = some v) : X 0 [some (va_rf x0), some (va_rf x1), some (.int x2), none] [] σ := by
  rw [ob_X1_learn] at h
  refine os_aload_n (r := x1) hX dX1_learn_0 rfl rfl ?_
  obtain ⟨v1, e2, h⟩ := obn_e h
  refine ow_get (r := x1) hX dX1_learn_1 oF_RX1_143 (ovi_e e2) ?_
  refine os_sipush (v := 210) hX dX1_learn_4 (by decide) ?_
  refine os_icmp_eq (tgt := 28) hX dX1_learn_7 (by decide) (fun c3 => ?_) (fun c3 => ?_)
  · rw [if_pos c3] at h
    exact qj_X1_learn_28 hX hc h
  · rw [if_neg c3] at h
    refine os_aload_n (r := x0) hX dX1_learn_10 rfl rfl ?_
    obtain ⟨v4, e5, h⟩ := obn_e h
    refine ow_get (r := x0) hX dX1_learn_11 oF_RX1_12 (ovr_e e5) ?_
    refine os_iconst (v := 2) hX dX1_learn_14 (by decide) ?_
    refine os_iload_n hX dX1_learn_15 rfl rfl ?_
    refine os_imul hX dX1_learn_16 ?_
    refine os_iconst (v := 1) hX dX1_learn_17 (by decide) ?_
    refine os_iadd hX dX1_learn_18 ?_
    refine os_iconst (v := 2) hX dX1_learn_19 (by decide) ?_
    refine os_iload_n hX dX1_learn_20 rfl rfl ?_
    refine os_imul hX dX1_learn_21 ?_
    refine os_iconst (v := 1) hX dX1_learn_22 (by decide) ?_
    refine os_iadd hX dX1_learn_23 ?_
    refine os_lconst (v := 0) hX dX1_learn_24 (by decide) ?_
    obtain ⟨a6, e7, h⟩ := obn_e h
    obtain ⟨s8, e9, h⟩ := ocv_e h
    refine oc_RX1_144 (rb := v4) (a1 := .int ((2 * x2) + 1)) (a2 := .int ((2 * x2) + 1)) (a3 := .long 0) hX dX1_learn_25 (Nat.le_of_ble_eq_true rfl) e7 (hc _ _ _ _ e9) ?_
    exact qj_X1_learn_28 hX hc h
def ob_X1_postpone (n : Nat) (call : oCl) (κ : oKv) (x0 : Option Nat) (x1 : Option Nat) (x2 : Int32) (σ : oSt) : oRs :=
  obn (ovi (ofd σ x0 3 3)) fun v1 =>
  if 40 ≤ v1 then
    some (none, σ)
  else
    obn (ovr (ofd σ x0 3 1)) fun v4 =>
    obn (ovi (ofd σ x0 3 3)) fun v6 =>
    obn (osr σ v4 v6 x1) fun s8 =>
    obn (ovr (ofd s8 x0 3 2)) fun v10 =>
    obn (ovi (ofd s8 x0 3 3)) fun v12 =>
    obn (osi s8 v10 .boolean v12 (vp_nar .boolean x2)) fun s14 =>
    obn (ovi (ofd s14 x0 3 3)) fun v16 =>
    obn (opf s14 x0 3 3 (.int (v16 + 1))) fun s18 =>
    some (none, s18)
set_option maxHeartbeats 4000000 in
theorem qb_X1_postpone {κ : oKv} {n : Nat} {call : oCl} {kc : Nat → List Value → oSt → Option Value × oSt → Prop} {v : Option Value × oSt} {X : Nat → zLv → List Value → oSt → Prop} (hX : oSem RX1 cX1_postpone 3 0 none κ kc v X) (hc : ∀ j av s w, call j av s = some w → kc j av s w) {x0 : Option Nat} {x1 : Option Nat} {x2 : Int32} {σ : oSt} (h : ob_X1_postpone n call κ x0 x1 x2 σ = some v) : X 0 [some (va_rf x0), some (va_rf x1), some (.int x2)] [] σ := by
  rw [ob_X1_postpone] at h
  refine os_aload_n (r := x0) hX dX1_postpone_0 rfl rfl ?_
  obtain ⟨v1, e2, h⟩ := obn_e h
  refine ow_get (r := x0) hX dX1_postpone_1 oF_RX1_103 (ovi_e e2) ?_
  refine os_bipush (v := 40) hX dX1_postpone_4 (by decide) ?_
  refine os_icmp_ge (tgt := 39) hX dX1_postpone_6 (by decide) (fun c3 => ?_) (fun c3 => ?_)
  · rw [if_pos c3] at h
    exact os_vret hX dX1_postpone_39 rfl (Option.some.inj h)
  · rw [if_neg c3] at h
    refine os_aload_n (r := x0) hX dX1_postpone_9 rfl rfl ?_
    obtain ⟨v4, e5, h⟩ := obn_e h
    refine ow_get (r := x0) hX dX1_postpone_10 oF_RX1_20 (ovr_e e5) ?_
    refine os_aload_n (r := x0) hX dX1_postpone_13 rfl rfl ?_
    obtain ⟨v6, e7, h⟩ := obn_e h
    refine ow_get (r := x0) hX dX1_postpone_14 oF_RX1_103 (ovi_e e7) ?_
    refine os_aload_n (r := x1) hX dX1_postpone_17 rfl rfl ?_
    obtain ⟨s8, e9, h⟩ := obn_e h
    refine ow_sr (r := v4) (i := v6) (y := x1) hX dX1_postpone_18 e9 ?_
    refine os_aload_n (r := x0) hX dX1_postpone_19 rfl rfl ?_
    obtain ⟨v10, e11, h⟩ := obn_e h
    refine ow_get (r := x0) hX dX1_postpone_20 oF_RX1_24 (ovr_e e11) ?_
    refine os_aload_n (r := x0) hX dX1_postpone_23 rfl rfl ?_
    obtain ⟨v12, e13, h⟩ := obn_e h
    refine ow_get (r := x0) hX dX1_postpone_24 oF_RX1_103 (ovi_e e13) ?_
    refine os_iload_n hX dX1_postpone_27 rfl rfl ?_
    obtain ⟨s14, e15, h⟩ := obn_e h
    refine ow_sz (r := v10) (i := v12) (x := x2) hX dX1_postpone_28 e15 ?_
    refine os_aload_n (r := x0) hX dX1_postpone_29 rfl rfl ?_
    refine os_dup hX dX1_postpone_30 (ocat x0) ?_
    obtain ⟨v16, e17, h⟩ := obn_e h
    refine ow_get (r := x0) hX dX1_postpone_31 oF_RX1_103 (ovi_e e17) ?_
    refine os_iconst (v := 1) hX dX1_postpone_34 (by decide) ?_
    refine os_iadd hX dX1_postpone_35 ?_
    obtain ⟨s18, e19, h⟩ := obn_e h
    refine ow_put (r := x0) (x := .int (v16 + 1)) hX dX1_postpone_36 oF_RX1_103 (by decide) (opn_I oT_3_3) e19 ?_
    exact os_vret hX dX1_postpone_39 rfl (Option.some.inj h)
def oj_X1_choose_38 (n : Nat) (call : oCl) (κ : oKv) (k2 : Option Nat → Option Nat → Int32 → Int32 → oSt → oRs) (x0 : Option Nat) (x1 : Option Nat) (x2 : Int32) (x3 : Int32) (σ : oSt) : oRs :=
  k2 x0 x1 x2 (x3 + 1) σ
def ol_X1_choose_2 (n : Nat) (call : oCl) (κ : oKv) : Nat → Option Nat → Option Nat → Int32 → Int32 → oSt → oRs
  | 0, _, _, _, _, _ => none
  | f + 1, x0, x1, x2, x3, σ =>
    obn (ovi (ofd σ x0 3 6)) fun v1 =>
    if v1 ≤ x3 then
      obn (ovi (ofd σ x0 3 6)) fun v4 =>
      if 40 ≤ v4 then
        some (none, σ)
      else
        obn (ovr (ofd σ x0 3 4)) fun v7 =>
        obn (ovi (ofd σ x0 3 6)) fun v9 =>
        obn (osr σ v7 v9 x1) fun s11 =>
        obn (ovr (ofd s11 x0 3 5)) fun v13 =>
        obn (ovi (ofd s11 x0 3 6)) fun v15 =>
        obn (osi s11 v13 .boolean v15 (vp_nar .boolean x2)) fun s17 =>
        obn (ovi (ofd s17 x0 3 6)) fun v19 =>
        obn (opf s17 x0 3 6 (.int (v19 + 1))) fun s21 =>
        some (none, s21)
    else
      obn (ovr (ofd σ x0 3 4)) fun v23 =>
      obn (oar σ v23 x3) fun v25 =>
      if v25 = x1 then
        obn (ovr (ofd σ x0 3 5)) fun v28 =>
        obn (oai σ v28 .boolean x3) fun v30 =>
        if v30 = x2 then
          oj_X1_choose_38 n call κ (ol_X1_choose_2 n call κ f) x0 x1 x2 x3 σ
        else
          obn (ovr (ofd σ x0 3 0)) fun v33 =>
          obn (opf σ v33 8 4 (.int 1)) fun s35 =>
          oj_X1_choose_38 n call κ (ol_X1_choose_2 n call κ f) x0 x1 x2 x3 s35
      else
        oj_X1_choose_38 n call κ (ol_X1_choose_2 n call κ f) x0 x1 x2 x3 σ
def ob_X1_choose (n : Nat) (call : oCl) (κ : oKv) (x0 : Option Nat) (x1 : Option Nat) (x2 : Int32) (σ : oSt) : oRs :=
  ol_X1_choose_2 n call κ n x0 x1 x2 0 σ
set_option maxHeartbeats 4000000 in
theorem qj_X1_choose_38 {κ : oKv} {n : Nat} {call : oCl} {kc : Nat → List Value → oSt → Option Value × oSt → Prop} {v : Option Value × oSt} {X : Nat → zLv → List Value → oSt → Prop} (hX : oSem RX1 cX1_choose 4 0 none κ kc v X) (hc : ∀ j av s w, call j av s = some w → kc j av s w) {k2 : Option Nat → Option Nat → Int32 → Int32 → oSt → oRs} (hk2 : ∀ (x0 : Option Nat) (x1 : Option Nat) (x2 : Int32) (x3 : Int32) (s : oSt), k2 x0 x1 x2 x3 s = some v → X 2 [some (va_rf x0), some (va_rf x1), some (.int x2), some (.int x3)] [] s) {x0 : Option Nat} {x1 : Option Nat} {x2 : Int32} {x3 : Int32} {σ : oSt} (h : oj_X1_choose_38 n call κ k2 x0 x1 x2 x3 σ = some v) : X 38 [some (va_rf x0), some (va_rf x1), some (.int x2), some (.int x3)] [] σ := by
  rw [oj_X1_choose_38] at h
  refine os_iinc (v := x3 + 1) hX dX1_choose_38 rfl rfl (by decide) rfl ?_
  dsimp only [List.set]
  refine os_goto (tgt := 2) hX dX1_choose_41 (by decide) ?_
  exact hk2 _ _ _ _ _ h
set_option maxHeartbeats 4000000 in
theorem ql_X1_choose_2 {κ : oKv} {n : Nat} {call : oCl} {kc : Nat → List Value → oSt → Option Value × oSt → Prop} {v : Option Value × oSt} {X : Nat → zLv → List Value → oSt → Prop} (hX : oSem RX1 cX1_choose 4 0 none κ kc v X) (hc : ∀ j av s w, call j av s = some w → kc j av s w) : ∀ (f : Nat) (x0 : Option Nat) (x1 : Option Nat) (x2 : Int32) (x3 : Int32) (σ : oSt), ol_X1_choose_2 n call κ f x0 x1 x2 x3 σ = some v → X 2 [some (va_rf x0), some (va_rf x1), some (.int x2), some (.int x3)] [] σ := by
  intro f
  induction f with
  | zero => intro x0 x1 x2 x3 σ h; cases h
  | succ f hk2 =>
    intro x0 x1 x2 x3 σ h
    rw [ol_X1_choose_2] at h
    refine os_iload_n hX dX1_choose_2 rfl rfl ?_
    refine os_aload_n (r := x0) hX dX1_choose_3 rfl rfl ?_
    obtain ⟨v1, e2, h⟩ := obn_e h
    refine ow_get (r := x0) hX dX1_choose_4 oF_RX1_106 (ovi_e e2) ?_
    refine os_icmp_ge (tgt := 44) hX dX1_choose_7 (by decide) (fun c3 => ?_) (fun c3 => ?_)
    · rw [if_pos c3] at h
      refine os_aload_n (r := x0) hX dX1_choose_44 rfl rfl ?_
      obtain ⟨v4, e5, h⟩ := obn_e h
      refine ow_get (r := x0) hX dX1_choose_45 oF_RX1_106 (ovi_e e5) ?_
      refine os_bipush (v := 40) hX dX1_choose_48 (by decide) ?_
      refine os_icmp_ge (tgt := 83) hX dX1_choose_50 (by decide) (fun c6 => ?_) (fun c6 => ?_)
      · rw [if_pos c6] at h
        exact os_vret hX dX1_choose_83 rfl (Option.some.inj h)
      · rw [if_neg c6] at h
        refine os_aload_n (r := x0) hX dX1_choose_53 rfl rfl ?_
        obtain ⟨v7, e8, h⟩ := obn_e h
        refine ow_get (r := x0) hX dX1_choose_54 oF_RX1_30 (ovr_e e8) ?_
        refine os_aload_n (r := x0) hX dX1_choose_57 rfl rfl ?_
        obtain ⟨v9, e10, h⟩ := obn_e h
        refine ow_get (r := x0) hX dX1_choose_58 oF_RX1_106 (ovi_e e10) ?_
        refine os_aload_n (r := x1) hX dX1_choose_61 rfl rfl ?_
        obtain ⟨s11, e12, h⟩ := obn_e h
        refine ow_sr (r := v7) (i := v9) (y := x1) hX dX1_choose_62 e12 ?_
        refine os_aload_n (r := x0) hX dX1_choose_63 rfl rfl ?_
        obtain ⟨v13, e14, h⟩ := obn_e h
        refine ow_get (r := x0) hX dX1_choose_64 oF_RX1_34 (ovr_e e14) ?_
        refine os_aload_n (r := x0) hX dX1_choose_67 rfl rfl ?_
        obtain ⟨v15, e16, h⟩ := obn_e h
        refine ow_get (r := x0) hX dX1_choose_68 oF_RX1_106 (ovi_e e16) ?_
        refine os_iload_n hX dX1_choose_71 rfl rfl ?_
        obtain ⟨s17, e18, h⟩ := obn_e h
        refine ow_sz (r := v13) (i := v15) (x := x2) hX dX1_choose_72 e18 ?_
        refine os_aload_n (r := x0) hX dX1_choose_73 rfl rfl ?_
        refine os_dup hX dX1_choose_74 (ocat x0) ?_
        obtain ⟨v19, e20, h⟩ := obn_e h
        refine ow_get (r := x0) hX dX1_choose_75 oF_RX1_106 (ovi_e e20) ?_
        refine os_iconst (v := 1) hX dX1_choose_78 (by decide) ?_
        refine os_iadd hX dX1_choose_79 ?_
        obtain ⟨s21, e22, h⟩ := obn_e h
        refine ow_put (r := x0) (x := .int (v19 + 1)) hX dX1_choose_80 oF_RX1_106 (by decide) (opn_I oT_3_6) e22 ?_
        exact os_vret hX dX1_choose_83 rfl (Option.some.inj h)
    · rw [if_neg c3] at h
      refine os_aload_n (r := x0) hX dX1_choose_10 rfl rfl ?_
      obtain ⟨v23, e24, h⟩ := obn_e h
      refine ow_get (r := x0) hX dX1_choose_11 oF_RX1_30 (ovr_e e24) ?_
      refine os_iload_n hX dX1_choose_14 rfl rfl ?_
      obtain ⟨v25, e26, h⟩ := obn_e h
      refine ow_ar (r := v23) (i := x3) hX dX1_choose_15 e26 ?_
      refine os_aload_n (r := x1) hX dX1_choose_16 rfl rfl ?_
      refine os_acmp_ne (rx := v25) (ry := x1) (tgt := 38) hX dX1_choose_17 (by decide) (fun c27 => ?_) (fun c27 => ?_)
      · rw [if_neg c27] at h
        exact qj_X1_choose_38 hX hc hk2 h
      · rw [if_pos c27] at h
        refine os_aload_n (r := x0) hX dX1_choose_20 rfl rfl ?_
        obtain ⟨v28, e29, h⟩ := obn_e h
        refine ow_get (r := x0) hX dX1_choose_21 oF_RX1_34 (ovr_e e29) ?_
        refine os_iload_n hX dX1_choose_24 rfl rfl ?_
        obtain ⟨v30, e31, h⟩ := obn_e h
        refine ow_az (r := v28) (i := x3) hX dX1_choose_25 e31 ?_
        refine os_iload_n hX dX1_choose_26 rfl rfl ?_
        refine os_icmp_eq (tgt := 38) hX dX1_choose_27 (by decide) (fun c32 => ?_) (fun c32 => ?_)
        · rw [if_pos c32] at h
          exact qj_X1_choose_38 hX hc hk2 h
        · rw [if_neg c32] at h
          refine os_aload_n (r := x0) hX dX1_choose_30 rfl rfl ?_
          obtain ⟨v33, e34, h⟩ := obn_e h
          refine ow_get (r := x0) hX dX1_choose_31 oF_RX1_12 (ovr_e e34) ?_
          refine os_iconst (v := 1) hX dX1_choose_34 (by decide) ?_
          obtain ⟨s35, e36, h⟩ := obn_e h
          refine ow_put (r := v33) (x := .int 1) hX dX1_choose_35 oF_RX1_190 (by decide) (opn_Z oT_8_4 (by decide)) e36 ?_
          exact qj_X1_choose_38 hX hc hk2 h
set_option maxHeartbeats 4000000 in
theorem qb_X1_choose {κ : oKv} {n : Nat} {call : oCl} {kc : Nat → List Value → oSt → Option Value × oSt → Prop} {v : Option Value × oSt} {X : Nat → zLv → List Value → oSt → Prop} (hX : oSem RX1 cX1_choose 4 0 none κ kc v X) (hc : ∀ j av s w, call j av s = some w → kc j av s w) {x0 : Option Nat} {x1 : Option Nat} {x2 : Int32} {σ : oSt} (h : ob_X1_choose n call κ x0 x1 x2 σ = some v) : X 0 [some (va_rf x0), some (va_rf x1), some (.int x2), none] [] σ := by
  rw [ob_X1_choose] at h
  refine os_iconst (v := 0) hX dX1_choose_0 (by decide) ?_
  refine os_istore_n hX dX1_choose_1 rfl (by decide) rfl ?_
  dsimp only [List.set]
  exact ql_X1_choose_2 hX hc n _ _ _ _ _ h
theorem olk_X1_opposite_1 {x : Int32} (h0 : ¬ x = 60) (h1 : ¬ x = 62) (h2 : ¬ x = 300) (h3 : ¬ x = 301) : Op.lookupswitch.offset (#[(60, 43), (62, 50), (300, 47), (301, 54)] : Array (Int × Int)).toList 57 x.toInt = 57 := by
  have a0 := z_ne h0 (k := 60) (by decide)
  have a1 := z_ne h1 (k := 62) (by decide)
  have a2 := z_ne h2 (k := 300) (by decide)
  have a3 := z_ne h3 (k := 301) (by decide)
  simp [Op.lookupswitch.offset, a0, Ne.symm a0, a1, Ne.symm a1, a2, Ne.symm a2, a3, Ne.symm a3]
def ob_X1_opposite (n : Nat) (call : oCl) (κ : oKv) (x0 : Int32) (σ : oSt) : oRs :=
  if x0 = 60 then
    some (some (.int 301), σ)
  else
  if x0 = 62 then
    some (some (.int 300), σ)
  else
  if x0 = 300 then
    some (some (.int 62), σ)
  else
  if x0 = 301 then
    some (some (.int 60), σ)
  else
  if x0 = 61 then
    some (some (.int 35), σ)
  else
    some (some (.int 61), σ)
set_option maxHeartbeats 4000000 in
theorem qb_X1_opposite {κ : oKv} {n : Nat} {call : oCl} {kc : Nat → List Value → oSt → Option Value × oSt → Prop} {v : Option Value × oSt} {X : Nat → zLv → List Value → oSt → Prop} (hX : oSem RX1 cX1_opposite 1 1 (some .int) κ kc v X) (hc : ∀ j av s w, call j av s = some w → kc j av s w) {x0 : Int32} {σ : oSt} (h : ob_X1_opposite n call κ x0 σ = some v) : X 0 [some (.int x0)] [] σ := by
  rw [ob_X1_opposite] at h
  refine os_iload_n hX dX1_opposite_0 rfl rfl ?_
  by_cases c1 : x0 = 60
  · rw [if_pos c1] at h
    refine os_lookup (tgt := 44) (off := 43) hX dX1_opposite_1 (by decide) (by rw [c1]; rfl) (by decide) ?_
    refine os_sipush (v := 301) hX dX1_opposite_44 (by decide) ?_
    exact os_iret hX dX1_opposite_47 rfl (Option.some.inj h)
  rw [if_neg c1] at h
  by_cases c2 : x0 = 62
  · rw [if_pos c2] at h
    refine os_lookup (tgt := 51) (off := 50) hX dX1_opposite_1 (by decide) (by rw [c2]; rfl) (by decide) ?_
    refine os_sipush (v := 300) hX dX1_opposite_51 (by decide) ?_
    exact os_iret hX dX1_opposite_54 rfl (Option.some.inj h)
  rw [if_neg c2] at h
  by_cases c3 : x0 = 300
  · rw [if_pos c3] at h
    refine os_lookup (tgt := 48) (off := 47) hX dX1_opposite_1 (by decide) (by rw [c3]; rfl) (by decide) ?_
    refine os_bipush (v := 62) hX dX1_opposite_48 (by decide) ?_
    exact os_iret hX dX1_opposite_50 rfl (Option.some.inj h)
  rw [if_neg c3] at h
  by_cases c4 : x0 = 301
  · rw [if_pos c4] at h
    refine os_lookup (tgt := 55) (off := 54) hX dX1_opposite_1 (by decide) (by rw [c4]; rfl) (by decide) ?_
    refine os_bipush (v := 60) hX dX1_opposite_55 (by decide) ?_
    exact os_iret hX dX1_opposite_57 rfl (Option.some.inj h)
  rw [if_neg c4] at h
  refine os_lookup (tgt := 58) (off := 57) hX dX1_opposite_1 (by decide) (olk_X1_opposite_1 c1 c2 c3 c4) (by decide) ?_
  refine os_iload_n hX dX1_opposite_58 rfl rfl ?_
  refine os_bipush (v := 61) hX dX1_opposite_59 (by decide) ?_
  refine os_icmp_ne (tgt := 69) hX dX1_opposite_61 (by decide) (fun c5 => ?_) (fun c5 => ?_)
  · rw [if_neg c5] at h
    refine os_bipush (v := 61) hX dX1_opposite_69 (by decide) ?_
    exact os_iret hX dX1_opposite_71 rfl (Option.some.inj h)
  · rw [if_pos c5] at h
    refine os_bipush (v := 35) hX dX1_opposite_64 (by decide) ?_
    refine os_goto (tgt := 71) hX dX1_opposite_66 (by decide) ?_
    exact os_iret hX dX1_opposite_71 rfl (Option.some.inj h)
def oj_X1_limit_170 (n : Nat) (call : oCl) (κ : oKv) (x0 : Option Nat) (x4 : Int64) (x6 : Int32) (x7 : Int32) (t0 : Int32) (σ : oSt) : oRs :=
  obn (ovr (ofd σ x0 3 0)) fun v1 =>
  if t0 = 0 then
    obn (oob σ v1 8) fun a4 =>
    ocv (call 44 [va_rf v1, .int x6, .int x7, .long x4] σ) fun s6 =>
    some (none, s6)
  else
    obn (oob σ v1 8) fun a9 =>
    ocv (call 44 [va_rf v1, .int x6, .int x7, .long (2 * x4)] σ) fun s11 =>
    some (none, s11)
def oj_X1_limit_169 (n : Nat) (call : oCl) (κ : oKv) (x0 : Option Nat) (x4 : Int64) (x6 : Int32) (x7 : Int32) (σ : oSt) : oRs :=
  oj_X1_limit_170 n call κ x0 x4 x6 x7 0 σ
def oj_X1_limit_46 (n : Nat) (call : oCl) (κ : oKv) (t0 : Option Nat) (t1 : Int32) (σ : oSt) : oRs :=
  ogd (zbo t1) (
  obn (opf σ t0 8 4 (.int t1)) fun s2 =>
  some (none, s2))
def oj_X1_limit_41 (n : Nat) (call : oCl) (κ : oKv) (t0 : Option Nat) (σ : oSt) : oRs :=
  oj_X1_limit_46 n call κ t0 1 σ
def ob_X1_limit (n : Nat) (call : oCl) (κ : oKv) (x0 : Option Nat) (x1 : Option Nat) (x2 : Int32) (x3 : Int32) (σ : oSt) : oRs :=
  obn (ovl (ofd σ x1 11 3)) fun v1 =>
  obn (ovi (ofd σ x1 11 2)) fun v3 =>
  if v3 = 0 then
    obn (ovr (ofd σ x0 3 0)) fun v66 =>
    obn (ovr (ofd σ x0 3 0)) fun v68 =>
    obn (ovi (ofd σ v68 8 4)) fun v70 =>
    if v70 = 0 then
      if 0 ≤ (lg_cmp ((((-x2).toInt64) * v1) - x3.toInt64) 0) then
        oj_X1_limit_46 n call κ v66 0 σ
      else
        oj_X1_limit_41 n call κ v66 σ
    else
      oj_X1_limit_41 n call κ v66 σ
  else
    obn (oob σ x1 11) fun a6 =>
    oin (call 38 [va_rf x1] σ) fun r10 s8 =>
    if r10 = 0 then
      some (none, s8)
    else
      obn (ovr (ofd s8 x1 11 0)) fun v12 =>
      obn (oar s8 v12 0) fun v14 =>
      obn (ovi (ofd s8 v14 6 7)) fun v16 =>
      obn (ovi (ofd s8 x0 3 7)) fun v18 =>
      if v16 = v18 then
        obn (ovr (ofd s8 x1 11 0)) fun v21 =>
        obn (ovi (ofd s8 x1 11 2)) fun v23 =>
        obn (oar s8 v21 (v23 - 1)) fun v25 =>
        obn (ovi (ofd s8 v25 6 7)) fun v27 =>
        obn (ovi (ofd s8 x0 3 7)) fun v29 =>
        if v27 = v29 then
          obn (ovr (ofd s8 x1 11 0)) fun v32 =>
          obn (oar s8 v32 0) fun v34 =>
          obn (ovr (ofd s8 x1 11 1)) fun v36 =>
          obn (oai s8 v36 .int 0) fun v38 =>
          oin (call 47 [va_rf v34, .int (x2 * v38)] s8) fun r42 s40 =>
          obn (ovr (ofd s40 x1 11 0)) fun v43 =>
          obn (ovi (ofd s40 x1 11 2)) fun v45 =>
          obn (oar s40 v43 (v45 - 1)) fun v47 =>
          obn (ovr (ofd s40 x1 11 1)) fun v49 =>
          obn (ovi (ofd s40 x1 11 2)) fun v51 =>
          obn (oai s40 v49 .int (v51 - 1)) fun v53 =>
          oin (call 47 [va_rf v47, .int (x2 * v53)] s40) fun r57 s55 =>
          obn (ovi (ofd s55 x1 11 2)) fun v58 =>
          if v58 = 1 then
            obn (ovr (ofd s55 x1 11 1)) fun v61 =>
            obn (oai s55 v61 .int 0) fun v63 =>
            if ((if 0 ≤ v63 then v63 else 0 - v63)) = 1 then
              oj_X1_limit_170 n call κ x0 ((((-x2).toInt64) * v1) - x3.toInt64) r42 r57 1 s55
            else
              oj_X1_limit_169 n call κ x0 ((((-x2).toInt64) * v1) - x3.toInt64) r42 r57 s55
          else
            oj_X1_limit_169 n call κ x0 ((((-x2).toInt64) * v1) - x3.toInt64) r42 r57 s55
        else
          some (none, s8)
      else
        some (none, s8)
set_option maxHeartbeats 4000000 in
theorem qj_X1_limit_170 {κ : oKv} {n : Nat} {call : oCl} {kc : Nat → List Value → oSt → Option Value × oSt → Prop} {v : Option Value × oSt} {X : Nat → zLv → List Value → oSt → Prop} (hX : oSem RX1 cX1_limit 9 0 none κ kc v X) (hc : ∀ j av s w, call j av s = some w → kc j av s w) {x0 : Option Nat} {x4 : Int64} {x6 : Int32} {x7 : Int32} {t0 : Int32} {σ : oSt} (h : oj_X1_limit_170 n call κ x0 x4 x6 x7 t0 σ = some v) : X 170 [some (va_rf x0), none, none, none, some (.long x4), none, some (.int x6), some (.int x7), none] [.int t0] σ := by
  rw [oj_X1_limit_170] at h
  refine os_istore hX dX1_limit_170 (by decide) rfl ?_
  dsimp only [List.set]
  refine os_aload_n (r := x0) hX dX1_limit_172 rfl rfl ?_
  obtain ⟨v1, e2, h⟩ := obn_e h
  refine ow_get (r := x0) hX dX1_limit_173 oF_RX1_12 (ovr_e e2) ?_
  refine os_iload hX dX1_limit_176 rfl ?_
  refine os_iload hX dX1_limit_178 rfl ?_
  refine os_iload hX dX1_limit_180 rfl ?_
  refine os_if_eq (tgt := 194) hX dX1_limit_182 (by decide) (fun c3 => ?_) (fun c3 => ?_)
  · rw [if_pos c3] at h
    refine os_lload hX dX1_limit_194 rfl ?_
    obtain ⟨a4, e5, h⟩ := obn_e h
    obtain ⟨s6, e7, h⟩ := ocv_e h
    refine oc_RX1_144 (rb := v1) (a1 := .int x6) (a2 := .int x7) (a3 := .long x4) hX dX1_limit_196 (Nat.le_of_ble_eq_true rfl) e5 (hc _ _ _ _ e7) ?_
    exact os_vret hX dX1_limit_199 rfl (Option.some.inj h)
  · rw [if_neg c3] at h
    refine os_ldc2 (x := 2) hX dX1_limit_185 oCL_RX1_163 ?_
    refine os_lload hX dX1_limit_188 rfl ?_
    refine os_lmul hX dX1_limit_190 ?_
    refine os_goto (tgt := 196) hX dX1_limit_191 (by decide) ?_
    obtain ⟨a9, e10, h⟩ := obn_e h
    obtain ⟨s11, e12, h⟩ := ocv_e h
    refine oc_RX1_144 (rb := v1) (a1 := .int x6) (a2 := .int x7) (a3 := .long (2 * x4)) hX dX1_limit_196 (Nat.le_of_ble_eq_true rfl) e10 (hc _ _ _ _ e12) ?_
    exact os_vret hX dX1_limit_199 rfl (Option.some.inj h)
set_option maxHeartbeats 4000000 in
theorem qj_X1_limit_169 {κ : oKv} {n : Nat} {call : oCl} {kc : Nat → List Value → oSt → Option Value × oSt → Prop} {v : Option Value × oSt} {X : Nat → zLv → List Value → oSt → Prop} (hX : oSem RX1 cX1_limit 9 0 none κ kc v X) (hc : ∀ j av s w, call j av s = some w → kc j av s w) {x0 : Option Nat} {x4 : Int64} {x6 : Int32} {x7 : Int32} {σ : oSt} (h : oj_X1_limit_169 n call κ x0 x4 x6 x7 σ = some v) : X 169 [some (va_rf x0), none, none, none, some (.long x4), none, some (.int x6), some (.int x7), none] [] σ := by
  rw [oj_X1_limit_169] at h
  refine os_iconst (v := 0) hX dX1_limit_169 (by decide) ?_
  exact qj_X1_limit_170 hX hc h
set_option maxHeartbeats 4000000 in
theorem qj_X1_limit_46 {κ : oKv} {n : Nat} {call : oCl} {kc : Nat → List Value → oSt → Option Value × oSt → Prop} {v : Option Value × oSt} {X : Nat → zLv → List Value → oSt → Prop} (hX : oSem RX1 cX1_limit 9 0 none κ kc v X) (hc : ∀ j av s w, call j av s = some w → kc j av s w) {t0 : Option Nat} {t1 : Int32} {σ : oSt} (h : oj_X1_limit_46 n call κ t0 t1 σ = some v) : X 46 [none, none, none, none, none, none, none, none, none] [.int t1, va_rf t0] σ := by
  rw [oj_X1_limit_46] at h
  obtain ⟨b1, h⟩ := ogd_e h
  obtain ⟨s2, e3, h⟩ := obn_e h
  refine ow_put (r := t0) (x := .int t1) hX dX1_limit_46 oF_RX1_190 (by decide) (opn_Z oT_8_4 b1) e3 ?_
  refine os_goto (tgt := 199) hX dX1_limit_49 (by decide) ?_
  exact os_vret hX dX1_limit_199 rfl (Option.some.inj h)
set_option maxHeartbeats 4000000 in
theorem qj_X1_limit_41 {κ : oKv} {n : Nat} {call : oCl} {kc : Nat → List Value → oSt → Option Value × oSt → Prop} {v : Option Value × oSt} {X : Nat → zLv → List Value → oSt → Prop} (hX : oSem RX1 cX1_limit 9 0 none κ kc v X) (hc : ∀ j av s w, call j av s = some w → kc j av s w) {t0 : Option Nat} {σ : oSt} (h : oj_X1_limit_41 n call κ t0 σ = some v) : X 41 [none, none, none, none, none, none, none, none, none] [va_rf t0] σ := by
  rw [oj_X1_limit_41] at h
  refine os_iconst (v := 1) hX dX1_limit_41 (by decide) ?_
  refine os_goto (tgt := 46) hX dX1_limit_42 (by decide) ?_
  exact qj_X1_limit_46 hX hc h
set_option maxHeartbeats 4000000 in
theorem qb_X1_limit {κ : oKv} {n : Nat} {call : oCl} {kc : Nat → List Value → oSt → Option Value × oSt → Prop} {v : Option Value × oSt} {X : Nat → zLv → List Value → oSt → Prop} (hX : oSem RX1 cX1_limit 9 0 none κ kc v X) (hc : ∀ j av s w, call j av s = some w → kc j av s w) {x0 : Option Nat} {x1 : Option Nat} {x2 : Int32} {x3 : Int32} {σ : oSt} (h : ob_X1_limit n call κ x0 x1 x2 x3 σ = some v) : X 0 [some (va_rf x0), some (va_rf x1), some (.int x2), some (.int x3), none, none, none, none, none] [] σ := by
  rw [ob_X1_limit] at h
  refine os_iload_n hX dX1_limit_0 rfl rfl ?_
  refine os_ineg hX dX1_limit_1 ?_
  refine os_i2l hX dX1_limit_2 ?_
  refine os_aload_n (r := x1) hX dX1_limit_3 rfl rfl ?_
  obtain ⟨v1, e2, h⟩ := obn_e h
  refine ow_get (r := x1) hX dX1_limit_4 oF_RX1_201 (ovl_e e2) ?_
  refine os_lmul hX dX1_limit_7 ?_
  refine os_iload_n hX dX1_limit_8 rfl rfl ?_
  refine os_i2l hX dX1_limit_9 ?_
  refine os_lsub hX dX1_limit_10 ?_
  refine os_lstore hX dX1_limit_11 (by decide) rfl ?_
  dsimp only [List.set]
  refine os_aload_n (r := x1) hX dX1_limit_13 rfl rfl ?_
  obtain ⟨v3, e4, h⟩ := obn_e h
  refine ow_get (r := x1) hX dX1_limit_14 oF_RX1_202 (ovi_e e4) ?_
  refine os_if_ne (tgt := 52) hX dX1_limit_17 (by decide) (fun c5 => ?_) (fun c5 => ?_)
  · rw [if_neg c5] at h
    refine os_aload_n (r := x1) hX dX1_limit_52 rfl rfl ?_
    obtain ⟨a6, e7, h⟩ := obn_e h
    obtain ⟨r10, s8, e9, h⟩ := oin_e h
    refine oc_RX1_80 (rb := x1)  hX dX1_limit_53 (Nat.le_of_ble_eq_true rfl) e7 (hc _ _ _ _ e9) ?_
    refine os_if_eq (tgt := 199) hX dX1_limit_56 (by decide) (fun c11 => ?_) (fun c11 => ?_)
    · rw [if_pos c11] at h
      exact os_vret hX dX1_limit_199 rfl (Option.some.inj h)
    · rw [if_neg c11] at h
      refine os_aload_n (r := x1) hX dX1_limit_59 rfl rfl ?_
      obtain ⟨v12, e13, h⟩ := obn_e h
      refine ow_get (r := x1) hX dX1_limit_60 oF_RX1_203 (ovr_e e13) ?_
      refine os_iconst (v := 0) hX dX1_limit_63 (by decide) ?_
      obtain ⟨v14, e15, h⟩ := obn_e h
      refine ow_ar (r := v12) (i := 0) hX dX1_limit_64 e15 ?_
      obtain ⟨v16, e17, h⟩ := obn_e h
      refine ow_get (r := v14) hX dX1_limit_65 oF_RX1_121 (ovi_e e17) ?_
      refine os_aload_n (r := x0) hX dX1_limit_68 rfl rfl ?_
      obtain ⟨v18, e19, h⟩ := obn_e h
      refine ow_get (r := x0) hX dX1_limit_69 oF_RX1_100 (ovi_e e19) ?_
      refine os_icmp_ne (tgt := 199) hX dX1_limit_72 (by decide) (fun c20 => ?_) (fun c20 => ?_)
      · rw [if_neg c20] at h
        exact os_vret hX dX1_limit_199 rfl (Option.some.inj h)
      · rw [if_pos c20] at h
        refine os_aload_n (r := x1) hX dX1_limit_75 rfl rfl ?_
        obtain ⟨v21, e22, h⟩ := obn_e h
        refine ow_get (r := x1) hX dX1_limit_76 oF_RX1_203 (ovr_e e22) ?_
        refine os_aload_n (r := x1) hX dX1_limit_79 rfl rfl ?_
        obtain ⟨v23, e24, h⟩ := obn_e h
        refine ow_get (r := x1) hX dX1_limit_80 oF_RX1_202 (ovi_e e24) ?_
        refine os_iconst (v := 1) hX dX1_limit_83 (by decide) ?_
        refine os_isub hX dX1_limit_84 ?_
        obtain ⟨v25, e26, h⟩ := obn_e h
        refine ow_ar (r := v21) (i := (v23 - 1)) hX dX1_limit_85 e26 ?_
        obtain ⟨v27, e28, h⟩ := obn_e h
        refine ow_get (r := v25) hX dX1_limit_86 oF_RX1_121 (ovi_e e28) ?_
        refine os_aload_n (r := x0) hX dX1_limit_89 rfl rfl ?_
        obtain ⟨v29, e30, h⟩ := obn_e h
        refine ow_get (r := x0) hX dX1_limit_90 oF_RX1_100 (ovi_e e30) ?_
        refine os_icmp_ne (tgt := 199) hX dX1_limit_93 (by decide) (fun c31 => ?_) (fun c31 => ?_)
        · rw [if_neg c31] at h
          exact os_vret hX dX1_limit_199 rfl (Option.some.inj h)
        · rw [if_pos c31] at h
          refine os_aload_n (r := x1) hX dX1_limit_96 rfl rfl ?_
          obtain ⟨v32, e33, h⟩ := obn_e h
          refine ow_get (r := x1) hX dX1_limit_97 oF_RX1_203 (ovr_e e33) ?_
          refine os_iconst (v := 0) hX dX1_limit_100 (by decide) ?_
          obtain ⟨v34, e35, h⟩ := obn_e h
          refine ow_ar (r := v32) (i := 0) hX dX1_limit_101 e35 ?_
          refine os_iload_n hX dX1_limit_102 rfl rfl ?_
          refine os_aload_n (r := x1) hX dX1_limit_103 rfl rfl ?_
          obtain ⟨v36, e37, h⟩ := obn_e h
          refine ow_get (r := x1) hX dX1_limit_104 oF_RX1_206 (ovr_e e37) ?_
          refine os_iconst (v := 0) hX dX1_limit_107 (by decide) ?_
          obtain ⟨v38, e39, h⟩ := obn_e h
          refine ow_ai (r := v36) (i := 0) hX dX1_limit_108 e39 ?_
          refine os_imul hX dX1_limit_109 ?_
          obtain ⟨r42, s40, e41, h⟩ := oin_e h
          refine oc_RX1_168 (a1 := va_rf v34) (a2 := .int (x2 * v38)) hX dX1_limit_110 (Nat.le_of_ble_eq_true rfl) (hc _ _ _ _ e41) ?_
          refine os_istore hX dX1_limit_113 (by decide) rfl ?_
          dsimp only [List.set]
          refine os_aload_n (r := x1) hX dX1_limit_115 rfl rfl ?_
          obtain ⟨v43, e44, h⟩ := obn_e h
          refine ow_get (r := x1) hX dX1_limit_116 oF_RX1_203 (ovr_e e44) ?_
          refine os_aload_n (r := x1) hX dX1_limit_119 rfl rfl ?_
          obtain ⟨v45, e46, h⟩ := obn_e h
          refine ow_get (r := x1) hX dX1_limit_120 oF_RX1_202 (ovi_e e46) ?_
          refine os_iconst (v := 1) hX dX1_limit_123 (by decide) ?_
          refine os_isub hX dX1_limit_124 ?_
          obtain ⟨v47, e48, h⟩ := obn_e h
          refine ow_ar (r := v43) (i := (v45 - 1)) hX dX1_limit_125 e48 ?_
          refine os_iload_n hX dX1_limit_126 rfl rfl ?_
          refine os_aload_n (r := x1) hX dX1_limit_127 rfl rfl ?_
          obtain ⟨v49, e50, h⟩ := obn_e h
          refine ow_get (r := x1) hX dX1_limit_128 oF_RX1_206 (ovr_e e50) ?_
          refine os_aload_n (r := x1) hX dX1_limit_131 rfl rfl ?_
          obtain ⟨v51, e52, h⟩ := obn_e h
          refine ow_get (r := x1) hX dX1_limit_132 oF_RX1_202 (ovi_e e52) ?_
          refine os_iconst (v := 1) hX dX1_limit_135 (by decide) ?_
          refine os_isub hX dX1_limit_136 ?_
          obtain ⟨v53, e54, h⟩ := obn_e h
          refine ow_ai (r := v49) (i := (v51 - 1)) hX dX1_limit_137 e54 ?_
          refine os_imul hX dX1_limit_138 ?_
          obtain ⟨r57, s55, e56, h⟩ := oin_e h
          refine oc_RX1_168 (a1 := va_rf v47) (a2 := .int (x2 * v53)) hX dX1_limit_139 (Nat.le_of_ble_eq_true rfl) (hc _ _ _ _ e56) ?_
          refine os_istore hX dX1_limit_142 (by decide) rfl ?_
          dsimp only [List.set]
          refine os_aload_n (r := x1) hX dX1_limit_144 rfl rfl ?_
          obtain ⟨v58, e59, h⟩ := obn_e h
          refine ow_get (r := x1) hX dX1_limit_145 oF_RX1_202 (ovi_e e59) ?_
          refine os_iconst (v := 1) hX dX1_limit_148 (by decide) ?_
          refine os_icmp_ne (tgt := 169) hX dX1_limit_149 (by decide) (fun c60 => ?_) (fun c60 => ?_)
          · rw [if_neg c60] at h
            refine os_weak hX (lw := [some (va_rf x0), none, none, none, some (.long ((((-x2).toInt64) * v1) - x3.toInt64)), none, some (.int r42), some (.int r57), none]) ⟨rfl, rfl, rfl, rfl, trivial⟩ ?_
            exact qj_X1_limit_169 hX hc h
          · rw [if_pos c60] at h
            refine os_aload_n (r := x1) hX dX1_limit_152 rfl rfl ?_
            obtain ⟨v61, e62, h⟩ := obn_e h
            refine ow_get (r := x1) hX dX1_limit_153 oF_RX1_206 (ovr_e e62) ?_
            refine os_iconst (v := 0) hX dX1_limit_156 (by decide) ?_
            obtain ⟨v63, e64, h⟩ := obn_e h
            refine ow_ai (r := v61) (i := 0) hX dX1_limit_157 e64 ?_
            refine os_mabs hX dX1_limit_158 omabs_RX1_209 (Nat.le_of_ble_eq_true rfl) ?_
            refine os_iconst (v := 1) hX dX1_limit_161 (by decide) ?_
            refine os_icmp_ne (tgt := 169) hX dX1_limit_162 (by decide) (fun c65 => ?_) (fun c65 => ?_)
            · rw [if_neg c65] at h
              refine os_weak hX (lw := [some (va_rf x0), none, none, none, some (.long ((((-x2).toInt64) * v1) - x3.toInt64)), none, some (.int r42), some (.int r57), none]) ⟨rfl, rfl, rfl, rfl, trivial⟩ ?_
              exact qj_X1_limit_169 hX hc h
            · rw [if_pos c65] at h
              refine os_iconst (v := 1) hX dX1_limit_165 (by decide) ?_
              refine os_goto (tgt := 170) hX dX1_limit_166 (by decide) ?_
              refine os_weak hX (lw := [some (va_rf x0), none, none, none, some (.long ((((-x2).toInt64) * v1) - x3.toInt64)), none, some (.int r42), some (.int r57), none]) ⟨rfl, rfl, rfl, rfl, trivial⟩ ?_
              exact qj_X1_limit_170 hX hc h
  · rw [if_pos c5] at h
    refine os_aload_n (r := x0) hX dX1_limit_20 rfl rfl ?_
    obtain ⟨v66, e67, h⟩ := obn_e h
    refine ow_get (r := x0) hX dX1_limit_21 oF_RX1_12 (ovr_e e67) ?_
    refine os_aload_n (r := x0) hX dX1_limit_24 rfl rfl ?_
    obtain ⟨v68, e69, h⟩ := obn_e h
    refine ow_get (r := x0) hX dX1_limit_25 oF_RX1_12 (ovr_e e69) ?_
    obtain ⟨v70, e71, h⟩ := obn_e h
    refine ow_get (r := v68) hX dX1_limit_28 oF_RX1_190 (ovi_e e71) ?_
    refine os_if_ne (tgt := 41) hX dX1_limit_31 (by decide) (fun c72 => ?_) (fun c72 => ?_)
    · rw [if_neg c72] at h
      refine os_weak hX (lw := [none, none, none, none, none, none, none, none, none]) trivial ?_
      exact qj_X1_limit_41 hX hc h
    · rw [if_pos c72] at h
      refine os_lload hX dX1_limit_34 rfl ?_
      refine os_lconst (v := 0) hX dX1_limit_36 (by decide) ?_
      refine os_lcmp hX dX1_limit_37 ?_
      refine os_if_ge (tgt := 45) hX dX1_limit_38 (by decide) (fun c73 => ?_) (fun c73 => ?_)
      · rw [if_pos c73] at h
        refine os_iconst (v := 0) hX dX1_limit_45 (by decide) ?_
        refine os_weak hX (lw := [none, none, none, none, none, none, none, none, none]) trivial ?_
        exact qj_X1_limit_46 hX hc h
      · rw [if_neg c73] at h
        refine os_weak hX (lw := [none, none, none, none, none, none, none, none, none]) trivial ?_
        exact qj_X1_limit_41 hX hc h
def oj_X1_compare_65 (n : Nat) (call : oCl) (κ : oKv) (x0 : Option Nat) (x1 : Option Nat) (x3 : Int32) (σ : oSt) : oRs :=
  if x3 = 60 then
    some (none, σ)
  else
    if x3 = 300 then
      some (none, σ)
    else
      obn (ovr (ofd σ x1 7 19)) fun v3 =>
      if x3 = 62 then
        obn (oob σ x0 3) fun a11 =>
        ocv (call 54 [va_rf x0, va_rf v3, .int (-1), .int 1] σ) fun s13 =>
        some (none, s13)
      else
        obn (oob σ x0 3) fun a6 =>
        ocv (call 54 [va_rf x0, va_rf v3, .int (-1), .int 0] σ) fun s8 =>
        some (none, s8)
def oj_X1_compare_62 (n : Nat) (call : oCl) (κ : oKv) (x0 : Option Nat) (x1 : Option Nat) (x3 : Int32) (t0 : Option Nat) (t1 : Option Nat) (t2 : Int32) (t3 : Int32) (σ : oSt) : oRs :=
  obn (oob σ t0 3) fun a1 =>
  ocv (call 54 [va_rf t0, va_rf t1, .int t2, .int t3] σ) fun s3 =>
  oj_X1_compare_65 n call κ x0 x1 x3 s3
def oj_X1_compare_18 (n : Nat) (call : oCl) (κ : oKv) (x0 : Option Nat) (x1 : Option Nat) (x2 : Int32) (t0 : Int32) (σ : oSt) : oRs :=
  if t0 = 35 then
    obn (oob σ x0 3) fun a7 =>
    ocv (call 51 [va_rf x0, va_rf x1, .int x2] σ) fun s9 =>
    some (none, s9)
  else
    if t0 = 62 then
      oj_X1_compare_65 n call κ x0 x1 t0 σ
    else
      if t0 = 301 then
        oj_X1_compare_65 n call κ x0 x1 t0 σ
      else
        obn (ovr (ofd σ x1 7 19)) fun v4 =>
        if t0 = 60 then
          oj_X1_compare_62 n call κ x0 x1 t0 x0 v4 1 1 σ
        else
          oj_X1_compare_62 n call κ x0 x1 t0 x0 v4 1 0 σ
def ob_X1_compare (n : Nat) (call : oCl) (κ : oKv) (x0 : Option Nat) (x1 : Option Nat) (x2 : Int32) (σ : oSt) : oRs :=
  if x2 = 0 then
    obn (ovi (ofd σ x1 7 5)) fun v2 =>
    oin (call 53 [.int v2] σ) fun r6 s4 =>
    oj_X1_compare_18 n call κ x0 x1 x2 r6 s4
  else
    obn (ovi (ofd σ x1 7 5)) fun v7 =>
    oj_X1_compare_18 n call κ x0 x1 x2 v7 σ
set_option maxHeartbeats 4000000 in
theorem qj_X1_compare_65 {κ : oKv} {n : Nat} {call : oCl} {kc : Nat → List Value → oSt → Option Value × oSt → Prop} {v : Option Value × oSt} {X : Nat → zLv → List Value → oSt → Prop} (hX : oSem RX1 cX1_compare 4 0 none κ kc v X) (hc : ∀ j av s w, call j av s = some w → kc j av s w) {x0 : Option Nat} {x1 : Option Nat} {x3 : Int32} {σ : oSt} (h : oj_X1_compare_65 n call κ x0 x1 x3 σ = some v) : X 65 [some (va_rf x0), some (va_rf x1), none, some (.int x3)] [] σ := by
  rw [oj_X1_compare_65] at h
  refine os_iload_n hX dX1_compare_65 rfl rfl ?_
  refine os_bipush (v := 60) hX dX1_compare_66 (by decide) ?_
  refine os_icmp_eq (tgt := 98) hX dX1_compare_68 (by decide) (fun c1 => ?_) (fun c1 => ?_)
  · rw [if_pos c1] at h
    exact os_vret hX dX1_compare_98 rfl (Option.some.inj h)
  · rw [if_neg c1] at h
    refine os_iload_n hX dX1_compare_71 rfl rfl ?_
    refine os_sipush (v := 300) hX dX1_compare_72 (by decide) ?_
    refine os_icmp_eq (tgt := 98) hX dX1_compare_75 (by decide) (fun c2 => ?_) (fun c2 => ?_)
    · rw [if_pos c2] at h
      exact os_vret hX dX1_compare_98 rfl (Option.some.inj h)
    · rw [if_neg c2] at h
      refine os_aload_n (r := x0) hX dX1_compare_78 rfl rfl ?_
      refine os_aload_n (r := x1) hX dX1_compare_79 rfl rfl ?_
      obtain ⟨v3, e4, h⟩ := obn_e h
      refine ow_get (r := x1) hX dX1_compare_80 oF_RX1_76 (ovr_e e4) ?_
      refine os_iconst (v := (-1)) hX dX1_compare_83 (by decide) ?_
      refine os_iload_n hX dX1_compare_84 rfl rfl ?_
      refine os_bipush (v := 62) hX dX1_compare_85 (by decide) ?_
      refine os_icmp_ne (tgt := 94) hX dX1_compare_87 (by decide) (fun c5 => ?_) (fun c5 => ?_)
      · rw [if_neg c5] at h
        refine os_iconst (v := 0) hX dX1_compare_94 (by decide) ?_
        obtain ⟨a6, e7, h⟩ := obn_e h
        obtain ⟨s8, e9, h⟩ := ocv_e h
        refine oc_RX1_198 (rb := x0) (a1 := va_rf v3) (a2 := .int (-1)) (a3 := .int 0) hX dX1_compare_95 (Nat.le_of_ble_eq_true rfl) e7 (hc _ _ _ _ e9) ?_
        exact os_vret hX dX1_compare_98 rfl (Option.some.inj h)
      · rw [if_pos c5] at h
        refine os_iconst (v := 1) hX dX1_compare_90 (by decide) ?_
        refine os_goto (tgt := 95) hX dX1_compare_91 (by decide) ?_
        obtain ⟨a11, e12, h⟩ := obn_e h
        obtain ⟨s13, e14, h⟩ := ocv_e h
        refine oc_RX1_198 (rb := x0) (a1 := va_rf v3) (a2 := .int (-1)) (a3 := .int 1) hX dX1_compare_95 (Nat.le_of_ble_eq_true rfl) e12 (hc _ _ _ _ e14) ?_
        exact os_vret hX dX1_compare_98 rfl (Option.some.inj h)
set_option maxHeartbeats 4000000 in
theorem qj_X1_compare_62 {κ : oKv} {n : Nat} {call : oCl} {kc : Nat → List Value → oSt → Option Value × oSt → Prop} {v : Option Value × oSt} {X : Nat → zLv → List Value → oSt → Prop} (hX : oSem RX1 cX1_compare 4 0 none κ kc v X) (hc : ∀ j av s w, call j av s = some w → kc j av s w) {x0 : Option Nat} {x1 : Option Nat} {x3 : Int32} {t0 : Option Nat} {t1 : Option Nat} {t2 : Int32} {t3 : Int32} {σ : oSt} (h : oj_X1_compare_62 n call κ x0 x1 x3 t0 t1 t2 t3 σ = some v) : X 62 [some (va_rf x0), some (va_rf x1), none, some (.int x3)] [.int t3, .int t2, va_rf t1, va_rf t0] σ := by
  rw [oj_X1_compare_62] at h
  obtain ⟨a1, e2, h⟩ := obn_e h
  obtain ⟨s3, e4, h⟩ := ocv_e h
  refine oc_RX1_198 (rb := t0) (a1 := va_rf t1) (a2 := .int t2) (a3 := .int t3) hX dX1_compare_62 (Nat.le_of_ble_eq_true rfl) e2 (hc _ _ _ _ e4) ?_
  exact qj_X1_compare_65 hX hc h
set_option maxHeartbeats 4000000 in
theorem qj_X1_compare_18 {κ : oKv} {n : Nat} {call : oCl} {kc : Nat → List Value → oSt → Option Value × oSt → Prop} {v : Option Value × oSt} {X : Nat → zLv → List Value → oSt → Prop} (hX : oSem RX1 cX1_compare 4 0 none κ kc v X) (hc : ∀ j av s w, call j av s = some w → kc j av s w) {x0 : Option Nat} {x1 : Option Nat} {x2 : Int32} {t0 : Int32} {σ : oSt} (h : oj_X1_compare_18 n call κ x0 x1 x2 t0 σ = some v) : X 18 [some (va_rf x0), some (va_rf x1), some (.int x2), none] [.int t0] σ := by
  rw [oj_X1_compare_18] at h
  refine os_istore_n hX dX1_compare_18 rfl (by decide) rfl ?_
  dsimp only [List.set]
  refine os_iload_n hX dX1_compare_19 rfl rfl ?_
  refine os_bipush (v := 35) hX dX1_compare_20 (by decide) ?_
  refine os_icmp_ne (tgt := 32) hX dX1_compare_22 (by decide) (fun c1 => ?_) (fun c1 => ?_)
  · rw [if_neg c1] at h
    refine os_iload_n hX dX1_compare_32 rfl rfl ?_
    refine os_bipush (v := 62) hX dX1_compare_33 (by decide) ?_
    refine os_icmp_eq (tgt := 65) hX dX1_compare_35 (by decide) (fun c2 => ?_) (fun c2 => ?_)
    · rw [if_pos c2] at h
      refine os_weak hX (lw := [some (va_rf x0), some (va_rf x1), none, some (.int t0)]) ⟨rfl, rfl, rfl, trivial⟩ ?_
      exact qj_X1_compare_65 hX hc h
    · rw [if_neg c2] at h
      refine os_iload_n hX dX1_compare_38 rfl rfl ?_
      refine os_sipush (v := 301) hX dX1_compare_39 (by decide) ?_
      refine os_icmp_eq (tgt := 65) hX dX1_compare_42 (by decide) (fun c3 => ?_) (fun c3 => ?_)
      · rw [if_pos c3] at h
        refine os_weak hX (lw := [some (va_rf x0), some (va_rf x1), none, some (.int t0)]) ⟨rfl, rfl, rfl, trivial⟩ ?_
        exact qj_X1_compare_65 hX hc h
      · rw [if_neg c3] at h
        refine os_aload_n (r := x0) hX dX1_compare_45 rfl rfl ?_
        refine os_aload_n (r := x1) hX dX1_compare_46 rfl rfl ?_
        obtain ⟨v4, e5, h⟩ := obn_e h
        refine ow_get (r := x1) hX dX1_compare_47 oF_RX1_76 (ovr_e e5) ?_
        refine os_iconst (v := 1) hX dX1_compare_50 (by decide) ?_
        refine os_iload_n hX dX1_compare_51 rfl rfl ?_
        refine os_bipush (v := 60) hX dX1_compare_52 (by decide) ?_
        refine os_icmp_ne (tgt := 61) hX dX1_compare_54 (by decide) (fun c6 => ?_) (fun c6 => ?_)
        · rw [if_neg c6] at h
          refine os_iconst (v := 0) hX dX1_compare_61 (by decide) ?_
          refine os_weak hX (lw := [some (va_rf x0), some (va_rf x1), none, some (.int t0)]) ⟨rfl, rfl, rfl, trivial⟩ ?_
          exact qj_X1_compare_62 hX hc h
        · rw [if_pos c6] at h
          refine os_iconst (v := 1) hX dX1_compare_57 (by decide) ?_
          refine os_goto (tgt := 62) hX dX1_compare_58 (by decide) ?_
          refine os_weak hX (lw := [some (va_rf x0), some (va_rf x1), none, some (.int t0)]) ⟨rfl, rfl, rfl, trivial⟩ ?_
          exact qj_X1_compare_62 hX hc h
  · rw [if_pos c1] at h
    refine os_aload_n (r := x0) hX dX1_compare_25 rfl rfl ?_
    refine os_aload_n (r := x1) hX dX1_compare_26 rfl rfl ?_
    refine os_iload_n hX dX1_compare_27 rfl rfl ?_
    obtain ⟨a7, e8, h⟩ := obn_e h
    obtain ⟨s9, e10, h⟩ := ocv_e h
    refine oc_RX1_179 (rb := x0) (a1 := va_rf x1) (a2 := .int x2) hX dX1_compare_28 (Nat.le_of_ble_eq_true rfl) e8 (hc _ _ _ _ e10) ?_
    exact os_vret hX dX1_compare_31 rfl (Option.some.inj h)
set_option maxHeartbeats 4000000 in
theorem qb_X1_compare {κ : oKv} {n : Nat} {call : oCl} {kc : Nat → List Value → oSt → Option Value × oSt → Prop} {v : Option Value × oSt} {X : Nat → zLv → List Value → oSt → Prop} (hX : oSem RX1 cX1_compare 4 0 none κ kc v X) (hc : ∀ j av s w, call j av s = some w → kc j av s w) {x0 : Option Nat} {x1 : Option Nat} {x2 : Int32} {σ : oSt} (h : ob_X1_compare n call κ x0 x1 x2 σ = some v) : X 0 [some (va_rf x0), some (va_rf x1), some (.int x2), none] [] σ := by
  rw [ob_X1_compare] at h
  refine os_iload_n hX dX1_compare_0 rfl rfl ?_
  refine os_if_eq (tgt := 11) hX dX1_compare_1 (by decide) (fun c1 => ?_) (fun c1 => ?_)
  · rw [if_pos c1] at h
    refine os_aload_n (r := x1) hX dX1_compare_11 rfl rfl ?_
    obtain ⟨v2, e3, h⟩ := obn_e h
    refine ow_get (r := x1) hX dX1_compare_12 oF_RX1_193 (ovi_e e3) ?_
    obtain ⟨r6, s4, e5, h⟩ := oin_e h
    refine oc_RX1_194 (a1 := .int v2) hX dX1_compare_15 (Nat.le_of_ble_eq_true rfl) (hc _ _ _ _ e5) ?_
    exact qj_X1_compare_18 hX hc h
  · rw [if_neg c1] at h
    refine os_aload_n (r := x1) hX dX1_compare_4 rfl rfl ?_
    obtain ⟨v7, e8, h⟩ := obn_e h
    refine ow_get (r := x1) hX dX1_compare_5 oF_RX1_193 (ovi_e e8) ?_
    refine os_goto (tgt := 18) hX dX1_compare_8 (by decide) ?_
    exact qj_X1_compare_18 hX hc h
theorem olk_X1_assume_4 {x : Int32} (h0 : ¬ x = 217) (h1 : ¬ x = 302) (h2 : ¬ x = 303) (h3 : ¬ x = 402) (h4 : ¬ x = 403) : Op.lookupswitch.offset (#[(217, 52), (302, 72), (303, 72), (402, 138), (403, 150)] : Array (Int × Int)).toList 159 x.toInt = 159 := by
  have a0 := z_ne h0 (k := 217) (by decide)
  have a1 := z_ne h1 (k := 302) (by decide)
  have a2 := z_ne h2 (k := 303) (by decide)
  have a3 := z_ne h3 (k := 402) (by decide)
  have a4 := z_ne h4 (k := 403) (by decide)
  simp [Op.lookupswitch.offset, a0, Ne.symm a0, a1, Ne.symm a1, a2, Ne.symm a2, a3, Ne.symm a3, a4, Ne.symm a4]
def oj_X1_assume_196 (n : Nat) (call : oCl) (κ : oKv) (t0 : Option Nat) (σ : oSt) : oRs :=
  obn (opf σ t0 8 4 (.int 1)) fun s1 =>
  some (none, s1)
def oj_X1_assume_192 (n : Nat) (call : oCl) (κ : oKv) (x2 : Int32) (t0 : Option Nat) (t1 : Int32) (σ : oSt) : oRs :=
  if t1 = x2 then
    obn (opf σ t0 8 4 (.int 0)) fun s2 =>
    some (none, s2)
  else
    oj_X1_assume_196 n call κ t0 σ
def ol_X1_assume_106 (n : Nat) (call : oCl) (κ : oKv) : Nat → Option Nat → Option Nat → Int32 → Int32 → oSt → oRs
  | 0, _, _, _, _, _ => none
  | f + 1, x0, x1, x2, x3, σ =>
    obn (ovr (ofd σ x1 7 18)) fun v1 =>
    obn (oob σ v1 1) fun a3 =>
    oin (call 236 [va_rf v1] σ) fun r7 s5 =>
    if r7 ≤ x3 then
      some (none, s5)
    else
      obn (ovr (ofd s5 x1 7 18)) fun v9 =>
      obn (oob s5 v9 1) fun a11 =>
      orn (call 234 [va_rf v9, .int x3] s5) fun r15 s13 =>
      ogd (ocs s13 r15 7) (
      obn (oob s13 x0 3) fun a17 =>
      ocv (call 56 [va_rf x0, va_rf r15, .int x2] s13) fun s19 =>
      ol_X1_assume_106 n call κ f x0 x1 x2 (x3 + 1) s19)
def oj_X1_assume_91 (n : Nat) (call : oCl) (κ : oKv) (x0 : Option Nat) (x1 : Option Nat) (x2 : Int32) (t0 : Int32) (σ : oSt) : oRs :=
  if t0 = x2 then
    ol_X1_assume_106 n call κ n x0 x1 x2 0 σ
  else
    obn (oob σ x0 3) fun a2 =>
    ocv (call 51 [va_rf x0, va_rf x1, .int x2] σ) fun s4 =>
    some (none, s4)
def oj_X1_assume_70 (n : Nat) (call : oCl) (κ : oKv) (t0 : Option Nat) (t1 : Option Nat) (t2 : Int32) (σ : oSt) : oRs :=
  obn (oob σ t0 3) fun a1 =>
  ocv (call 56 [va_rf t0, va_rf t1, .int t2] σ) fun s3 =>
  some (none, s3)
def ob_X1_assume (n : Nat) (call : oCl) (κ : oKv) (x0 : Option Nat) (x1 : Option Nat) (x2 : Int32) (σ : oSt) : oRs :=
  obn (ovi (ofd σ x1 7 0)) fun v1 =>
  if v1 = 217 then
    obn (ovr (ofd σ x1 7 12)) fun v4 =>
    if x2 = 0 then
      oj_X1_assume_70 n call κ x0 v4 1 σ
    else
      oj_X1_assume_70 n call κ x0 v4 0 σ
  else
  if v1 = 302 then
    obn (ovi (ofd σ x1 7 0)) fun v8 =>
    if v8 = 302 then
      oj_X1_assume_91 n call κ x0 x1 x2 1 σ
    else
      oj_X1_assume_91 n call κ x0 x1 x2 0 σ
  else
  if v1 = 303 then
    obn (ovi (ofd σ x1 7 0)) fun v12 =>
    if v12 = 302 then
      oj_X1_assume_91 n call κ x0 x1 x2 1 σ
    else
      oj_X1_assume_91 n call κ x0 x1 x2 0 σ
  else
  if v1 = 402 then
    obn (ovr (ofd σ x1 7 9)) fun v16 =>
    obn (oob σ x0 3) fun a18 =>
    ocv (call 52 [va_rf x0, va_rf v16, .int x2] σ) fun s20 =>
    some (none, s20)
  else
  if v1 = 403 then
    obn (oob σ x0 3) fun a24 =>
    ocv (call 55 [va_rf x0, va_rf x1, .int x2] σ) fun s26 =>
    some (none, s26)
  else
  obn (ovr (ofd σ x0 3 0)) fun v29 =>
  obn (ovr (ofd σ x0 3 0)) fun v31 =>
  obn (ovi (ofd σ v31 8 4)) fun v33 =>
  if v33 = 0 then
    obn (ovi (ofd σ x1 7 0)) fun v36 =>
    if v36 = 223 then
      oj_X1_assume_192 n call κ x2 v29 1 σ
    else
      oj_X1_assume_192 n call κ x2 v29 0 σ
  else
    oj_X1_assume_196 n call κ v29 σ
set_option maxHeartbeats 4000000 in
theorem qj_X1_assume_196 {κ : oKv} {n : Nat} {call : oCl} {kc : Nat → List Value → oSt → Option Value × oSt → Prop} {v : Option Value × oSt} {X : Nat → zLv → List Value → oSt → Prop} (hX : oSem RX1 cX1_assume 4 0 none κ kc v X) (hc : ∀ j av s w, call j av s = some w → kc j av s w) {t0 : Option Nat} {σ : oSt} (h : oj_X1_assume_196 n call κ t0 σ = some v) : X 196 [none, none, none, none] [va_rf t0] σ := by
  rw [oj_X1_assume_196] at h
  refine os_iconst (v := 1) hX dX1_assume_196 (by decide) ?_
  refine os_goto (tgt := 201) hX dX1_assume_197 (by decide) ?_
  obtain ⟨s1, e2, h⟩ := obn_e h
  refine ow_put (r := t0) (x := .int 1) hX dX1_assume_201 oF_RX1_190 (by decide) (opn_Z oT_8_4 (by decide)) e2 ?_
  exact os_vret hX dX1_assume_204 rfl (Option.some.inj h)
set_option maxHeartbeats 4000000 in
theorem qj_X1_assume_192 {κ : oKv} {n : Nat} {call : oCl} {kc : Nat → List Value → oSt → Option Value × oSt → Prop} {v : Option Value × oSt} {X : Nat → zLv → List Value → oSt → Prop} (hX : oSem RX1 cX1_assume 4 0 none κ kc v X) (hc : ∀ j av s w, call j av s = some w → kc j av s w) {x2 : Int32} {t0 : Option Nat} {t1 : Int32} {σ : oSt} (h : oj_X1_assume_192 n call κ x2 t0 t1 σ = some v) : X 192 [none, none, some (.int x2), none] [.int t1, va_rf t0] σ := by
  rw [oj_X1_assume_192] at h
  refine os_iload_n hX dX1_assume_192 rfl rfl ?_
  refine os_icmp_eq (tgt := 200) hX dX1_assume_193 (by decide) (fun c1 => ?_) (fun c1 => ?_)
  · rw [if_pos c1] at h
    refine os_iconst (v := 0) hX dX1_assume_200 (by decide) ?_
    obtain ⟨s2, e3, h⟩ := obn_e h
    refine ow_put (r := t0) (x := .int 0) hX dX1_assume_201 oF_RX1_190 (by decide) (opn_Z oT_8_4 (by decide)) e3 ?_
    exact os_vret hX dX1_assume_204 rfl (Option.some.inj h)
  · rw [if_neg c1] at h
    refine os_weak hX (lw := [none, none, none, none]) trivial ?_
    exact qj_X1_assume_196 hX hc h
set_option maxHeartbeats 4000000 in
theorem ql_X1_assume_106 {κ : oKv} {n : Nat} {call : oCl} {kc : Nat → List Value → oSt → Option Value × oSt → Prop} {v : Option Value × oSt} {X : Nat → zLv → List Value → oSt → Prop} (hX : oSem RX1 cX1_assume 4 0 none κ kc v X) (hc : ∀ j av s w, call j av s = some w → kc j av s w) : ∀ (f : Nat) (x0 : Option Nat) (x1 : Option Nat) (x2 : Int32) (x3 : Int32) (σ : oSt), ol_X1_assume_106 n call κ f x0 x1 x2 x3 σ = some v → X 106 [some (va_rf x0), some (va_rf x1), some (.int x2), some (.int x3)] [] σ := by
  intro f
  induction f with
  | zero => intro x0 x1 x2 x3 σ h; cases h
  | succ f hk106 =>
    intro x0 x1 x2 x3 σ h
    rw [ol_X1_assume_106] at h
    refine os_iload_n hX dX1_assume_106 rfl rfl ?_
    refine os_aload_n (r := x1) hX dX1_assume_107 rfl rfl ?_
    obtain ⟨v1, e2, h⟩ := obn_e h
    refine ow_get (r := x1) hX dX1_assume_108 oF_RX1_86 (ovr_e e2) ?_
    obtain ⟨a3, e4, h⟩ := obn_e h
    obtain ⟨r7, s5, e6, h⟩ := oin_e h
    refine oc_RX1_90 (rb := v1)  hX dX1_assume_111 (Nat.le_of_ble_eq_true rfl) e4 (hc _ _ _ _ e6) ?_
    refine os_icmp_ge (tgt := 139) hX dX1_assume_114 (by decide) (fun c8 => ?_) (fun c8 => ?_)
    · rw [if_pos c8] at h
      refine os_goto (tgt := 204) hX dX1_assume_139 (by decide) ?_
      exact os_vret hX dX1_assume_204 rfl (Option.some.inj h)
    · rw [if_neg c8] at h
      refine os_aload_n (r := x0) hX dX1_assume_117 rfl rfl ?_
      refine os_aload_n (r := x1) hX dX1_assume_118 rfl rfl ?_
      obtain ⟨v9, e10, h⟩ := obn_e h
      refine ow_get (r := x1) hX dX1_assume_119 oF_RX1_86 (ovr_e e10) ?_
      refine os_iload_n hX dX1_assume_122 rfl rfl ?_
      obtain ⟨a11, e12, h⟩ := obn_e h
      obtain ⟨r15, s13, e14, h⟩ := orn_e h
      refine oc_RX1_96 (rb := v9) (a1 := .int x3) hX dX1_assume_123 (by simp only [List.map_cons, List.map_nil, List.sum_cons, List.sum_nil, ocat]; exact Nat.le_of_ble_eq_true rfl) e12 (hc _ _ _ _ e14) ?_
      obtain ⟨b16, h⟩ := ogd_e h
      refine ow_cs (r := r15) hX dX1_assume_126 oK_RX1_18 b16 ?_
      refine os_iload_n hX dX1_assume_129 rfl rfl ?_
      obtain ⟨a17, e18, h⟩ := obn_e h
      obtain ⟨s19, e20, h⟩ := ocv_e h
      refine oc_RX1_69 (rb := x0) (a1 := va_rf r15) (a2 := .int x2) hX dX1_assume_130 (Nat.le_of_ble_eq_true rfl) e18 (hc _ _ _ _ e20) ?_
      refine os_iinc (v := x3 + 1) hX dX1_assume_133 rfl rfl (by decide) rfl ?_
      dsimp only [List.set]
      refine os_goto (tgt := 106) hX dX1_assume_136 (by decide) ?_
      exact hk106 _ _ _ _ _ h
set_option maxHeartbeats 4000000 in
theorem qj_X1_assume_91 {κ : oKv} {n : Nat} {call : oCl} {kc : Nat → List Value → oSt → Option Value × oSt → Prop} {v : Option Value × oSt} {X : Nat → zLv → List Value → oSt → Prop} (hX : oSem RX1 cX1_assume 4 0 none κ kc v X) (hc : ∀ j av s w, call j av s = some w → kc j av s w) {x0 : Option Nat} {x1 : Option Nat} {x2 : Int32} {t0 : Int32} {σ : oSt} (h : oj_X1_assume_91 n call κ x0 x1 x2 t0 σ = some v) : X 91 [some (va_rf x0), some (va_rf x1), some (.int x2), none] [.int t0] σ := by
  rw [oj_X1_assume_91] at h
  refine os_iload_n hX dX1_assume_91 rfl rfl ?_
  refine os_icmp_eq (tgt := 104) hX dX1_assume_92 (by decide) (fun c1 => ?_) (fun c1 => ?_)
  · rw [if_pos c1] at h
    refine os_iconst (v := 0) hX dX1_assume_104 (by decide) ?_
    refine os_istore_n hX dX1_assume_105 rfl (by decide) rfl ?_
    dsimp only [List.set]
    exact ql_X1_assume_106 hX hc n _ _ _ _ _ h
  · rw [if_neg c1] at h
    refine os_aload_n (r := x0) hX dX1_assume_95 rfl rfl ?_
    refine os_aload_n (r := x1) hX dX1_assume_96 rfl rfl ?_
    refine os_iload_n hX dX1_assume_97 rfl rfl ?_
    obtain ⟨a2, e3, h⟩ := obn_e h
    obtain ⟨s4, e5, h⟩ := ocv_e h
    refine oc_RX1_179 (rb := x0) (a1 := va_rf x1) (a2 := .int x2) hX dX1_assume_98 (Nat.le_of_ble_eq_true rfl) e3 (hc _ _ _ _ e5) ?_
    refine os_goto (tgt := 204) hX dX1_assume_101 (by decide) ?_
    exact os_vret hX dX1_assume_204 rfl (Option.some.inj h)
set_option maxHeartbeats 4000000 in
theorem qj_X1_assume_70 {κ : oKv} {n : Nat} {call : oCl} {kc : Nat → List Value → oSt → Option Value × oSt → Prop} {v : Option Value × oSt} {X : Nat → zLv → List Value → oSt → Prop} (hX : oSem RX1 cX1_assume 4 0 none κ kc v X) (hc : ∀ j av s w, call j av s = some w → kc j av s w) {t0 : Option Nat} {t1 : Option Nat} {t2 : Int32} {σ : oSt} (h : oj_X1_assume_70 n call κ t0 t1 t2 σ = some v) : X 70 [none, none, none, none] [.int t2, va_rf t1, va_rf t0] σ := by
  rw [oj_X1_assume_70] at h
  obtain ⟨a1, e2, h⟩ := obn_e h
  obtain ⟨s3, e4, h⟩ := ocv_e h
  refine oc_RX1_69 (rb := t0) (a1 := va_rf t1) (a2 := .int t2) hX dX1_assume_70 (Nat.le_of_ble_eq_true rfl) e2 (hc _ _ _ _ e4) ?_
  refine os_goto (tgt := 204) hX dX1_assume_73 (by decide) ?_
  exact os_vret hX dX1_assume_204 rfl (Option.some.inj h)
set_option maxHeartbeats 4000000 in
theorem qb_X1_assume {κ : oKv} {n : Nat} {call : oCl} {kc : Nat → List Value → oSt → Option Value × oSt → Prop} {v : Option Value × oSt} {X : Nat → zLv → List Value → oSt → Prop} (hX : oSem RX1 cX1_assume 4 0 none κ kc v X) (hc : ∀ j av s w, call j av s = some w → kc j av s w) {x0 : Option Nat} {x1 : Option Nat} {x2 : Int32} {σ : oSt} (h : ob_X1_assume n call κ x0 x1 x2 σ = some v) : X 0 [some (va_rf x0), some (va_rf x1), some (.int x2), none] [] σ := by
  rw [ob_X1_assume] at h
  refine os_aload_n (r := x1) hX dX1_assume_0 rfl rfl ?_
  obtain ⟨v1, e2, h⟩ := obn_e h
  refine ow_get (r := x1) hX dX1_assume_1 oF_RX1_73 (ovi_e e2) ?_
  by_cases c3 : v1 = 217
  · rw [if_pos c3] at h
    refine os_lookup (tgt := 56) (off := 52) hX dX1_assume_4 (by decide) (by rw [c3]; rfl) (by decide) ?_
    refine os_aload_n (r := x0) hX dX1_assume_56 rfl rfl ?_
    refine os_aload_n (r := x1) hX dX1_assume_57 rfl rfl ?_
    obtain ⟨v4, e5, h⟩ := obn_e h
    refine ow_get (r := x1) hX dX1_assume_58 oF_RX1_176 (ovr_e e5) ?_
    refine os_iload_n hX dX1_assume_61 rfl rfl ?_
    refine os_if_ne (tgt := 69) hX dX1_assume_62 (by decide) (fun c6 => ?_) (fun c6 => ?_)
    · rw [if_neg c6] at h
      refine os_iconst (v := 0) hX dX1_assume_69 (by decide) ?_
      refine os_weak hX (lw := [none, none, none, none]) trivial ?_
      exact qj_X1_assume_70 hX hc h
    · rw [if_pos c6] at h
      refine os_iconst (v := 1) hX dX1_assume_65 (by decide) ?_
      refine os_goto (tgt := 70) hX dX1_assume_66 (by decide) ?_
      refine os_weak hX (lw := [none, none, none, none]) trivial ?_
      exact qj_X1_assume_70 hX hc h
  rw [if_neg c3] at h
  by_cases c7 : v1 = 302
  · rw [if_pos c7] at h
    refine os_lookup (tgt := 76) (off := 72) hX dX1_assume_4 (by decide) (by rw [c7]; rfl) (by decide) ?_
    refine os_aload_n (r := x1) hX dX1_assume_76 rfl rfl ?_
    obtain ⟨v8, e9, h⟩ := obn_e h
    refine ow_get (r := x1) hX dX1_assume_77 oF_RX1_73 (ovi_e e9) ?_
    refine os_sipush (v := 302) hX dX1_assume_80 (by decide) ?_
    refine os_icmp_ne (tgt := 90) hX dX1_assume_83 (by decide) (fun c10 => ?_) (fun c10 => ?_)
    · rw [if_neg c10] at h
      refine os_iconst (v := 0) hX dX1_assume_90 (by decide) ?_
      exact qj_X1_assume_91 hX hc h
    · rw [if_pos c10] at h
      refine os_iconst (v := 1) hX dX1_assume_86 (by decide) ?_
      refine os_goto (tgt := 91) hX dX1_assume_87 (by decide) ?_
      exact qj_X1_assume_91 hX hc h
  rw [if_neg c7] at h
  by_cases c11 : v1 = 303
  · rw [if_pos c11] at h
    refine os_lookup (tgt := 76) (off := 72) hX dX1_assume_4 (by decide) (by rw [c11]; rfl) (by decide) ?_
    refine os_aload_n (r := x1) hX dX1_assume_76 rfl rfl ?_
    obtain ⟨v12, e13, h⟩ := obn_e h
    refine ow_get (r := x1) hX dX1_assume_77 oF_RX1_73 (ovi_e e13) ?_
    refine os_sipush (v := 302) hX dX1_assume_80 (by decide) ?_
    refine os_icmp_ne (tgt := 90) hX dX1_assume_83 (by decide) (fun c14 => ?_) (fun c14 => ?_)
    · rw [if_neg c14] at h
      refine os_iconst (v := 0) hX dX1_assume_90 (by decide) ?_
      exact qj_X1_assume_91 hX hc h
    · rw [if_pos c14] at h
      refine os_iconst (v := 1) hX dX1_assume_86 (by decide) ?_
      refine os_goto (tgt := 91) hX dX1_assume_87 (by decide) ?_
      exact qj_X1_assume_91 hX hc h
  rw [if_neg c11] at h
  by_cases c15 : v1 = 402
  · rw [if_pos c15] at h
    refine os_lookup (tgt := 142) (off := 138) hX dX1_assume_4 (by decide) (by rw [c15]; rfl) (by decide) ?_
    refine os_aload_n (r := x0) hX dX1_assume_142 rfl rfl ?_
    refine os_aload_n (r := x1) hX dX1_assume_143 rfl rfl ?_
    obtain ⟨v16, e17, h⟩ := obn_e h
    refine ow_get (r := x1) hX dX1_assume_144 oF_RX1_182 (ovr_e e17) ?_
    refine os_iload_n hX dX1_assume_147 rfl rfl ?_
    obtain ⟨a18, e19, h⟩ := obn_e h
    obtain ⟨s20, e21, h⟩ := ocv_e h
    refine oc_RX1_183 (rb := x0) (a1 := va_rf v16) (a2 := .int x2) hX dX1_assume_148 (Nat.le_of_ble_eq_true rfl) e19 (hc _ _ _ _ e21) ?_
    refine os_goto (tgt := 204) hX dX1_assume_151 (by decide) ?_
    exact os_vret hX dX1_assume_204 rfl (Option.some.inj h)
  rw [if_neg c15] at h
  by_cases c23 : v1 = 403
  · rw [if_pos c23] at h
    refine os_lookup (tgt := 154) (off := 150) hX dX1_assume_4 (by decide) (by rw [c23]; rfl) (by decide) ?_
    refine os_aload_n (r := x0) hX dX1_assume_154 rfl rfl ?_
    refine os_aload_n (r := x1) hX dX1_assume_155 rfl rfl ?_
    refine os_iload_n hX dX1_assume_156 rfl rfl ?_
    obtain ⟨a24, e25, h⟩ := obn_e h
    obtain ⟨s26, e27, h⟩ := ocv_e h
    refine oc_RX1_187 (rb := x0) (a1 := va_rf x1) (a2 := .int x2) hX dX1_assume_157 (Nat.le_of_ble_eq_true rfl) e25 (hc _ _ _ _ e27) ?_
    refine os_goto (tgt := 204) hX dX1_assume_160 (by decide) ?_
    exact os_vret hX dX1_assume_204 rfl (Option.some.inj h)
  rw [if_neg c23] at h
  refine os_lookup (tgt := 163) (off := 159) hX dX1_assume_4 (by decide) (olk_X1_assume_4 c3 c7 c11 c15 c23) (by decide) ?_
  refine os_aload_n (r := x0) hX dX1_assume_163 rfl rfl ?_
  obtain ⟨v29, e30, h⟩ := obn_e h
  refine ow_get (r := x0) hX dX1_assume_164 oF_RX1_12 (ovr_e e30) ?_
  refine os_aload_n (r := x0) hX dX1_assume_167 rfl rfl ?_
  obtain ⟨v31, e32, h⟩ := obn_e h
  refine ow_get (r := x0) hX dX1_assume_168 oF_RX1_12 (ovr_e e32) ?_
  obtain ⟨v33, e34, h⟩ := obn_e h
  refine ow_get (r := v31) hX dX1_assume_171 oF_RX1_190 (ovi_e e34) ?_
  refine os_if_ne (tgt := 196) hX dX1_assume_174 (by decide) (fun c35 => ?_) (fun c35 => ?_)
  · rw [if_neg c35] at h
    refine os_weak hX (lw := [none, none, none, none]) trivial ?_
    exact qj_X1_assume_196 hX hc h
  · rw [if_pos c35] at h
    refine os_aload_n (r := x1) hX dX1_assume_177 rfl rfl ?_
    obtain ⟨v36, e37, h⟩ := obn_e h
    refine ow_get (r := x1) hX dX1_assume_178 oF_RX1_73 (ovi_e e37) ?_
    refine os_sipush (v := 223) hX dX1_assume_181 (by decide) ?_
    refine os_icmp_ne (tgt := 191) hX dX1_assume_184 (by decide) (fun c38 => ?_) (fun c38 => ?_)
    · rw [if_neg c38] at h
      refine os_iconst (v := 0) hX dX1_assume_191 (by decide) ?_
      refine os_weak hX (lw := [none, none, some (.int x2), none]) ⟨rfl, trivial⟩ ?_
      exact qj_X1_assume_192 hX hc h
    · rw [if_pos c38] at h
      refine os_iconst (v := 1) hX dX1_assume_187 (by decide) ?_
      refine os_goto (tgt := 192) hX dX1_assume_188 (by decide) ?_
      refine os_weak hX (lw := [none, none, some (.int x2), none]) ⟨rfl, trivial⟩ ?_
      exact qj_X1_assume_192 hX hc h
def oj_X1_begin_176 (n : Nat) (call : oCl) (κ : oKv) (k104 : Option Nat → Option Nat → oSt → oRs) (x0 : Option Nat) (x4 : Option Nat) (σ : oSt) : oRs :=
  obn (ovr (ofd σ x4 10 3)) fun v1 =>
  k104 x0 v1 σ
def ol_X1_begin_104 (n : Nat) (call : oCl) (κ : oKv) : Nat → Option Nat → Option Nat → oSt → oRs
  | 0, _, _, _ => none
  | f + 1, x0, x4, σ =>
    if x4 = none then
      some (none, σ)
    else
      obn (ovr (ofd σ x4 10 1)) fun v2 =>
      if v2 = none then
        obn (ovr (ofd σ x4 10 0)) fun v5 =>
        obn (oob σ v5 6) fun a7 =>
        oin (call 6 [va_rf v5] σ) fun r11 s9 =>
        if r11 = 0 then
          oj_X1_begin_176 n call κ (ol_X1_begin_104 n call κ f) x0 x4 s9
        else
          obn (ovr (ofd s9 x4 10 0)) fun v13 =>
          obn (ovr (ofd s9 v13 6 4)) fun v15 =>
          if v15 = none then
            oj_X1_begin_176 n call κ (ol_X1_begin_104 n call κ f) x0 x4 s9
          else
            obn (ovr (ofd s9 x4 10 0)) fun v18 =>
            obn (ovr (ofd s9 v18 6 4)) fun v20 =>
            obn (ovr (ofd s9 x4 10 0)) fun v22 =>
            obn (ovi (ofd s9 v22 6 6)) fun v24 =>
            obn (oob s9 x0 3) fun a26 =>
            ocv (call 50 [va_rf x0, va_rf v20, .int v24] s9) fun s28 =>
            oj_X1_begin_176 n call κ (ol_X1_begin_104 n call κ f) x0 x4 s28
      else
        obn (ovr (ofd σ x4 10 1)) fun v31 =>
        obn (ovi (ofd σ x4 10 2)) fun v33 =>
        obn (oob σ x0 3) fun a35 =>
        ocv (call 56 [va_rf x0, va_rf v31, .int v33] σ) fun s37 =>
        oj_X1_begin_176 n call κ (ol_X1_begin_104 n call κ f) x0 x4 s37
def oj_X1_begin_101 (n : Nat) (call : oCl) (κ : oKv) (x0 : Option Nat) (x1 : Option Nat) (σ : oSt) : oRs :=
  ol_X1_begin_104 n call κ n x0 x1 σ
def oj_X1_begin_73 (n : Nat) (call : oCl) (κ : oKv) (k25 : Option Nat → Option Nat → Option Nat → Int32 → Option Nat → oSt → oRs) (x0 : Option Nat) (x1 : Option Nat) (x2 : Option Nat) (x3 : Int32) (x4 : Option Nat) (σ : oSt) : oRs :=
  obn (ovr (ofd σ x4 10 3)) fun v1 =>
  k25 x0 x1 x2 x3 v1 σ
def ol_X1_begin_25 (n : Nat) (call : oCl) (κ : oKv) : Nat → Option Nat → Option Nat → Option Nat → Int32 → Option Nat → oSt → oRs
  | 0, _, _, _, _, _, _ => none
  | f + 1, x0, x1, x2, x3, x4, σ =>
    if x4 = none then
      obn (ovr (ofd σ x0 3 0)) fun v2 =>
      obn (oob σ v2 8) fun a4 =>
      ocv (call 41 [va_rf v2, .int x3] σ) fun s6 =>
      if x2 = none then
        oj_X1_begin_101 n call κ x0 x1 s6
      else
        obn (oob s6 x0 3) fun a10 =>
        ocv (call 50 [va_rf x0, va_rf x2, .int 0] s6) fun s12 =>
        oj_X1_begin_101 n call κ x0 x1 s12
    else
      obn (ovr (ofd σ x4 10 0)) fun v15 =>
      if v15 = none then
        oj_X1_begin_73 n call κ (ol_X1_begin_25 n call κ f) x0 x1 x2 x3 x4 σ
      else
        obn (ovr (ofd σ x4 10 0)) fun v18 =>
        obn (oob σ v18 6) fun a20 =>
        oin (call 6 [va_rf v18] σ) fun r24 s22 =>
        if r24 = 0 then
          oj_X1_begin_73 n call κ (ol_X1_begin_25 n call κ f) x0 x1 x2 x3 x4 s22
        else
          obn (ovr (ofd s22 x4 10 0)) fun v26 =>
          obn (opf s22 v26 6 6 (.int x3)) fun s28 =>
          obn (ovr (ofd s28 x4 10 0)) fun v30 =>
          obn (ovi (ofd s28 x0 3 7)) fun v32 =>
          obn (opf s28 v30 6 7 (.int v32)) fun s34 =>
          oj_X1_begin_73 n call κ (ol_X1_begin_25 n call κ f) x0 x1 x2 (x3 + 1) x4 s34
def ob_X1_begin (n : Nat) (call : oCl) (κ : oKv) (x0 : Option Nat) (x1 : Option Nat) (x2 : Option Nat) (σ : oSt) : oRs :=
  obn (ovi (ofd σ x0 3 7)) fun v1 =>
  obn (opf σ x0 3 7 (.int (v1 + 1))) fun s3 =>
  obn (opf s3 x0 3 3 (.int 0)) fun s5 =>
  obn (opf s5 x0 3 6 (.int 0)) fun s7 =>
  ol_X1_begin_25 n call κ n x0 x1 x2 1 x1 s7
set_option maxHeartbeats 4000000 in
theorem qj_X1_begin_176 {κ : oKv} {n : Nat} {call : oCl} {kc : Nat → List Value → oSt → Option Value × oSt → Prop} {v : Option Value × oSt} {X : Nat → zLv → List Value → oSt → Prop} (hX : oSem RX1 cX1_begin 5 0 none κ kc v X) (hc : ∀ j av s w, call j av s = some w → kc j av s w) {k104 : Option Nat → Option Nat → oSt → oRs} (hk104 : ∀ (x0 : Option Nat) (x4 : Option Nat) (s : oSt), k104 x0 x4 s = some v → X 104 [some (va_rf x0), none, none, none, some (va_rf x4)] [] s) {x0 : Option Nat} {x4 : Option Nat} {σ : oSt} (h : oj_X1_begin_176 n call κ k104 x0 x4 σ = some v) : X 176 [some (va_rf x0), none, none, none, some (va_rf x4)] [] σ := by
  rw [oj_X1_begin_176] at h
  refine os_aload (r := x4) hX dX1_begin_176 rfl ?_
  obtain ⟨v1, e2, h⟩ := obn_e h
  refine ow_get (r := x4) hX dX1_begin_178 oF_RX1_122 (ovr_e e2) ?_
  refine os_astore (r := v1) hX dX1_begin_181 (by decide) rfl ?_
  dsimp only [List.set]
  refine os_goto (tgt := 104) hX dX1_begin_183 (by decide) ?_
  exact hk104 _ _ _ h
set_option maxHeartbeats 4000000 in
theorem ql_X1_begin_104 {κ : oKv} {n : Nat} {call : oCl} {kc : Nat → List Value → oSt → Option Value × oSt → Prop} {v : Option Value × oSt} {X : Nat → zLv → List Value → oSt → Prop} (hX : oSem RX1 cX1_begin 5 0 none κ kc v X) (hc : ∀ j av s w, call j av s = some w → kc j av s w) : ∀ (f : Nat) (x0 : Option Nat) (x4 : Option Nat) (σ : oSt), ol_X1_begin_104 n call κ f x0 x4 σ = some v → X 104 [some (va_rf x0), none, none, none, some (va_rf x4)] [] σ := by
  intro f
  induction f with
  | zero => intro x0 x4 σ h; cases h
  | succ f hk104 =>
    intro x0 x4 σ h
    rw [ol_X1_begin_104] at h
    refine os_aload (r := x4) hX dX1_begin_104 rfl ?_
    refine os_ifnull (r := x4) (tgt := 186) hX dX1_begin_106 (by decide) (fun c1 => ?_) (fun c1 => ?_)
    · rw [if_pos c1] at h
      exact os_vret hX dX1_begin_186 rfl (Option.some.inj h)
    · rw [if_neg c1] at h
      refine os_aload (r := x4) hX dX1_begin_109 rfl ?_
      obtain ⟨v2, e3, h⟩ := obn_e h
      refine ow_get (r := x4) hX dX1_begin_111 oF_RX1_133 (ovr_e e3) ?_
      refine os_ifnull (r := v2) (tgt := 134) hX dX1_begin_114 (by decide) (fun c4 => ?_) (fun c4 => ?_)
      · rw [if_pos c4] at h
        refine os_aload (r := x4) hX dX1_begin_134 rfl ?_
        obtain ⟨v5, e6, h⟩ := obn_e h
        refine ow_get (r := x4) hX dX1_begin_136 oF_RX1_109 (ovr_e e6) ?_
        obtain ⟨a7, e8, h⟩ := obn_e h
        obtain ⟨r11, s9, e10, h⟩ := oin_e h
        refine oc_RX1_115 (rb := v5)  hX dX1_begin_139 (Nat.le_of_ble_eq_true rfl) e8 (hc _ _ _ _ e10) ?_
        refine os_if_eq (tgt := 176) hX dX1_begin_142 (by decide) (fun c12 => ?_) (fun c12 => ?_)
        · rw [if_pos c12] at h
          exact qj_X1_begin_176 hX hc hk104 h
        · rw [if_neg c12] at h
          refine os_aload (r := x4) hX dX1_begin_145 rfl ?_
          obtain ⟨v13, e14, h⟩ := obn_e h
          refine ow_get (r := x4) hX dX1_begin_147 oF_RX1_109 (ovr_e e14) ?_
          obtain ⟨v15, e16, h⟩ := obn_e h
          refine ow_get (r := v13) hX dX1_begin_150 oF_RX1_140 (ovr_e e16) ?_
          refine os_ifnull (r := v15) (tgt := 176) hX dX1_begin_153 (by decide) (fun c17 => ?_) (fun c17 => ?_)
          · rw [if_pos c17] at h
            exact qj_X1_begin_176 hX hc hk104 h
          · rw [if_neg c17] at h
            refine os_aload_n (r := x0) hX dX1_begin_156 rfl rfl ?_
            refine os_aload (r := x4) hX dX1_begin_157 rfl ?_
            obtain ⟨v18, e19, h⟩ := obn_e h
            refine ow_get (r := x4) hX dX1_begin_159 oF_RX1_109 (ovr_e e19) ?_
            obtain ⟨v20, e21, h⟩ := obn_e h
            refine ow_get (r := v18) hX dX1_begin_162 oF_RX1_140 (ovr_e e21) ?_
            refine os_aload (r := x4) hX dX1_begin_165 rfl ?_
            obtain ⟨v22, e23, h⟩ := obn_e h
            refine ow_get (r := x4) hX dX1_begin_167 oF_RX1_109 (ovr_e e23) ?_
            obtain ⟨v24, e25, h⟩ := obn_e h
            refine ow_get (r := v22) hX dX1_begin_170 oF_RX1_118 (ovi_e e25) ?_
            obtain ⟨a26, e27, h⟩ := obn_e h
            obtain ⟨s28, e29, h⟩ := ocv_e h
            refine oc_RX1_129 (rb := x0) (a1 := va_rf v20) (a2 := .int v24) hX dX1_begin_173 (Nat.le_of_ble_eq_true rfl) e27 (hc _ _ _ _ e29) ?_
            exact qj_X1_begin_176 hX hc hk104 h
      · rw [if_neg c4] at h
        refine os_aload_n (r := x0) hX dX1_begin_117 rfl rfl ?_
        refine os_aload (r := x4) hX dX1_begin_118 rfl ?_
        obtain ⟨v31, e32, h⟩ := obn_e h
        refine ow_get (r := x4) hX dX1_begin_120 oF_RX1_133 (ovr_e e32) ?_
        refine os_aload (r := x4) hX dX1_begin_123 rfl ?_
        obtain ⟨v33, e34, h⟩ := obn_e h
        refine ow_get (r := x4) hX dX1_begin_125 oF_RX1_137 (ovi_e e34) ?_
        obtain ⟨a35, e36, h⟩ := obn_e h
        obtain ⟨s37, e38, h⟩ := ocv_e h
        refine oc_RX1_69 (rb := x0) (a1 := va_rf v31) (a2 := .int v33) hX dX1_begin_128 (Nat.le_of_ble_eq_true rfl) e36 (hc _ _ _ _ e38) ?_
        refine os_goto (tgt := 176) hX dX1_begin_131 (by decide) ?_
        exact qj_X1_begin_176 hX hc hk104 h
set_option maxHeartbeats 4000000 in
theorem qj_X1_begin_101 {κ : oKv} {n : Nat} {call : oCl} {kc : Nat → List Value → oSt → Option Value × oSt → Prop} {v : Option Value × oSt} {X : Nat → zLv → List Value → oSt → Prop} (hX : oSem RX1 cX1_begin 5 0 none κ kc v X) (hc : ∀ j av s w, call j av s = some w → kc j av s w) {x0 : Option Nat} {x1 : Option Nat} {σ : oSt} (h : oj_X1_begin_101 n call κ x0 x1 σ = some v) : X 101 [some (va_rf x0), some (va_rf x1), none, none, none] [] σ := by
  rw [oj_X1_begin_101] at h
  refine os_aload_n (r := x1) hX dX1_begin_101 rfl rfl ?_
  refine os_astore (r := x1) hX dX1_begin_102 (by decide) rfl ?_
  dsimp only [List.set]
  refine os_weak hX (lw := [some (va_rf x0), none, none, none, some (va_rf x1)]) ⟨rfl, rfl, trivial⟩ ?_
  exact ql_X1_begin_104 hX hc n _ _ _ h
set_option maxHeartbeats 4000000 in
theorem qj_X1_begin_73 {κ : oKv} {n : Nat} {call : oCl} {kc : Nat → List Value → oSt → Option Value × oSt → Prop} {v : Option Value × oSt} {X : Nat → zLv → List Value → oSt → Prop} (hX : oSem RX1 cX1_begin 5 0 none κ kc v X) (hc : ∀ j av s w, call j av s = some w → kc j av s w) {k25 : Option Nat → Option Nat → Option Nat → Int32 → Option Nat → oSt → oRs} (hk25 : ∀ (x0 : Option Nat) (x1 : Option Nat) (x2 : Option Nat) (x3 : Int32) (x4 : Option Nat) (s : oSt), k25 x0 x1 x2 x3 x4 s = some v → X 25 [some (va_rf x0), some (va_rf x1), some (va_rf x2), some (.int x3), some (va_rf x4)] [] s) {x0 : Option Nat} {x1 : Option Nat} {x2 : Option Nat} {x3 : Int32} {x4 : Option Nat} {σ : oSt} (h : oj_X1_begin_73 n call κ k25 x0 x1 x2 x3 x4 σ = some v) : X 73 [some (va_rf x0), some (va_rf x1), some (va_rf x2), some (.int x3), some (va_rf x4)] [] σ := by
  rw [oj_X1_begin_73] at h
  refine os_aload (r := x4) hX dX1_begin_73 rfl ?_
  obtain ⟨v1, e2, h⟩ := obn_e h
  refine ow_get (r := x4) hX dX1_begin_75 oF_RX1_122 (ovr_e e2) ?_
  refine os_astore (r := v1) hX dX1_begin_78 (by decide) rfl ?_
  dsimp only [List.set]
  refine os_goto (tgt := 25) hX dX1_begin_80 (by decide) ?_
  exact hk25 _ _ _ _ _ _ h
set_option maxHeartbeats 4000000 in
theorem ql_X1_begin_25 {κ : oKv} {n : Nat} {call : oCl} {kc : Nat → List Value → oSt → Option Value × oSt → Prop} {v : Option Value × oSt} {X : Nat → zLv → List Value → oSt → Prop} (hX : oSem RX1 cX1_begin 5 0 none κ kc v X) (hc : ∀ j av s w, call j av s = some w → kc j av s w) : ∀ (f : Nat) (x0 : Option Nat) (x1 : Option Nat) (x2 : Option Nat) (x3 : Int32) (x4 : Option Nat) (σ : oSt), ol_X1_begin_25 n call κ f x0 x1 x2 x3 x4 σ = some v → X 25 [some (va_rf x0), some (va_rf x1), some (va_rf x2), some (.int x3), some (va_rf x4)] [] σ := by
  intro f
  induction f with
  | zero => intro x0 x1 x2 x3 x4 σ h; cases h
  | succ f hk25 =>
    intro x0 x1 x2 x3 x4 σ h
    rw [ol_X1_begin_25] at h
    refine os_aload (r := x4) hX dX1_begin_25 rfl ?_
    refine os_ifnull (r := x4) (tgt := 83) hX dX1_begin_27 (by decide) (fun c1 => ?_) (fun c1 => ?_)
    · rw [if_pos c1] at h
      refine os_aload_n (r := x0) hX dX1_begin_83 rfl rfl ?_
      obtain ⟨v2, e3, h⟩ := obn_e h
      refine ow_get (r := x0) hX dX1_begin_84 oF_RX1_12 (ovr_e e3) ?_
      refine os_iload_n hX dX1_begin_87 rfl rfl ?_
      obtain ⟨a4, e5, h⟩ := obn_e h
      obtain ⟨s6, e7, h⟩ := ocv_e h
      refine oc_RX1_126 (rb := v2) (a1 := .int x3) hX dX1_begin_88 (Nat.le_of_ble_eq_true rfl) e5 (hc _ _ _ _ e7) ?_
      refine os_aload_n (r := x2) hX dX1_begin_91 rfl rfl ?_
      refine os_ifnull (r := x2) (tgt := 101) hX dX1_begin_92 (by decide) (fun c9 => ?_) (fun c9 => ?_)
      · rw [if_pos c9] at h
        refine os_weak hX (lw := [some (va_rf x0), some (va_rf x1), none, none, none]) ⟨rfl, rfl, trivial⟩ ?_
        exact qj_X1_begin_101 hX hc h
      · rw [if_neg c9] at h
        refine os_aload_n (r := x0) hX dX1_begin_95 rfl rfl ?_
        refine os_aload_n (r := x2) hX dX1_begin_96 rfl rfl ?_
        refine os_iconst (v := 0) hX dX1_begin_97 (by decide) ?_
        obtain ⟨a10, e11, h⟩ := obn_e h
        obtain ⟨s12, e13, h⟩ := ocv_e h
        refine oc_RX1_129 (rb := x0) (a1 := va_rf x2) (a2 := .int 0) hX dX1_begin_98 (Nat.le_of_ble_eq_true rfl) e11 (hc _ _ _ _ e13) ?_
        refine os_weak hX (lw := [some (va_rf x0), some (va_rf x1), none, none, none]) ⟨rfl, rfl, trivial⟩ ?_
        exact qj_X1_begin_101 hX hc h
    · rw [if_neg c1] at h
      refine os_aload (r := x4) hX dX1_begin_30 rfl ?_
      obtain ⟨v15, e16, h⟩ := obn_e h
      refine ow_get (r := x4) hX dX1_begin_32 oF_RX1_109 (ovr_e e16) ?_
      refine os_ifnull (r := v15) (tgt := 73) hX dX1_begin_35 (by decide) (fun c17 => ?_) (fun c17 => ?_)
      · rw [if_pos c17] at h
        exact qj_X1_begin_73 hX hc hk25 h
      · rw [if_neg c17] at h
        refine os_aload (r := x4) hX dX1_begin_38 rfl ?_
        obtain ⟨v18, e19, h⟩ := obn_e h
        refine ow_get (r := x4) hX dX1_begin_40 oF_RX1_109 (ovr_e e19) ?_
        obtain ⟨a20, e21, h⟩ := obn_e h
        obtain ⟨r24, s22, e23, h⟩ := oin_e h
        refine oc_RX1_115 (rb := v18)  hX dX1_begin_43 (Nat.le_of_ble_eq_true rfl) e21 (hc _ _ _ _ e23) ?_
        refine os_if_eq (tgt := 73) hX dX1_begin_46 (by decide) (fun c25 => ?_) (fun c25 => ?_)
        · rw [if_pos c25] at h
          exact qj_X1_begin_73 hX hc hk25 h
        · rw [if_neg c25] at h
          refine os_aload (r := x4) hX dX1_begin_49 rfl ?_
          obtain ⟨v26, e27, h⟩ := obn_e h
          refine ow_get (r := x4) hX dX1_begin_51 oF_RX1_109 (ovr_e e27) ?_
          refine os_iload_n hX dX1_begin_54 rfl rfl ?_
          obtain ⟨s28, e29, h⟩ := obn_e h
          refine ow_put (r := v26) (x := .int x3) hX dX1_begin_55 oF_RX1_118 (by decide) (opn_I oT_6_6) e29 ?_
          refine os_aload (r := x4) hX dX1_begin_58 rfl ?_
          obtain ⟨v30, e31, h⟩ := obn_e h
          refine ow_get (r := x4) hX dX1_begin_60 oF_RX1_109 (ovr_e e31) ?_
          refine os_aload_n (r := x0) hX dX1_begin_63 rfl rfl ?_
          obtain ⟨v32, e33, h⟩ := obn_e h
          refine ow_get (r := x0) hX dX1_begin_64 oF_RX1_100 (ovi_e e33) ?_
          obtain ⟨s34, e35, h⟩ := obn_e h
          refine ow_put (r := v30) (x := .int v32) hX dX1_begin_67 oF_RX1_121 (by decide) (opn_I oT_6_7) e35 ?_
          refine os_iinc (v := x3 + 1) hX dX1_begin_70 rfl rfl (by decide) (ozlo (i := 2) (r := x2) rfl) ?_
          dsimp only [List.set]
          exact qj_X1_begin_73 hX hc hk25 h
set_option maxHeartbeats 4000000 in
theorem qb_X1_begin {κ : oKv} {n : Nat} {call : oCl} {kc : Nat → List Value → oSt → Option Value × oSt → Prop} {v : Option Value × oSt} {X : Nat → zLv → List Value → oSt → Prop} (hX : oSem RX1 cX1_begin 5 0 none κ kc v X) (hc : ∀ j av s w, call j av s = some w → kc j av s w) {x0 : Option Nat} {x1 : Option Nat} {x2 : Option Nat} {σ : oSt} (h : ob_X1_begin n call κ x0 x1 x2 σ = some v) : X 0 [some (va_rf x0), some (va_rf x1), some (va_rf x2), none, none] [] σ := by
  rw [ob_X1_begin] at h
  refine os_aload_n (r := x0) hX dX1_begin_0 rfl rfl ?_
  refine os_dup hX dX1_begin_1 (ocat x0) ?_
  obtain ⟨v1, e2, h⟩ := obn_e h
  refine ow_get (r := x0) hX dX1_begin_2 oF_RX1_100 (ovi_e e2) ?_
  refine os_iconst (v := 1) hX dX1_begin_5 (by decide) ?_
  refine os_iadd hX dX1_begin_6 ?_
  obtain ⟨s3, e4, h⟩ := obn_e h
  refine ow_put (r := x0) (x := .int (v1 + 1)) hX dX1_begin_7 oF_RX1_100 (by decide) (opn_I oT_3_7) e4 ?_
  refine os_aload_n (r := x0) hX dX1_begin_10 rfl rfl ?_
  refine os_iconst (v := 0) hX dX1_begin_11 (by decide) ?_
  obtain ⟨s5, e6, h⟩ := obn_e h
  refine ow_put (r := x0) (x := .int 0) hX dX1_begin_12 oF_RX1_103 (by decide) (opn_I oT_3_3) e6 ?_
  refine os_aload_n (r := x0) hX dX1_begin_15 rfl rfl ?_
  refine os_iconst (v := 0) hX dX1_begin_16 (by decide) ?_
  obtain ⟨s7, e8, h⟩ := obn_e h
  refine ow_put (r := x0) (x := .int 0) hX dX1_begin_17 oF_RX1_106 (by decide) (opn_I oT_3_6) e8 ?_
  refine os_iconst (v := 1) hX dX1_begin_20 (by decide) ?_
  refine os_istore_n hX dX1_begin_21 rfl (by decide) (ozlo (i := 2) (r := x2) rfl) ?_
  dsimp only [List.set]
  refine os_aload_n (r := x1) hX dX1_begin_22 rfl rfl ?_
  refine os_astore (r := x1) hX dX1_begin_23 (by decide) rfl ?_
  dsimp only [List.set]
  exact ql_X1_begin_25 hX hc n _ _ _ _ _ _ h
def oj_X6_close_90 (n : Nat) (call : oCl) (κ : oKv) (x0 : Option Nat) (σ : oSt) : oRs :=
  obn (oob σ x0 8) fun a1 =>
  ocv (call 43 [va_rf x0] σ) fun s3 =>
  some (none, s3)
def oj_X6_close_75 (n : Nat) (call : oCl) (κ : oKv) (k7 : Option Nat → Int32 → oSt → oRs) (k31 : Option Nat → Int32 → Int32 → oSt → oRs) (x0 : Option Nat) (x1 : Int32) (x2 : Int32) (t0 : Option Nat) (t1 : Int32) (σ : oSt) : oRs :=
  ogd (zbo t1) (
  obn (opf σ t0 8 4 (.int t1)) fun s2 =>
  k31 x0 x1 (x2 + 1) s2)
def oj_X6_close_70 (n : Nat) (call : oCl) (κ : oKv) (k7 : Option Nat → Int32 → oSt → oRs) (k31 : Option Nat → Int32 → Int32 → oSt → oRs) (x0 : Option Nat) (x1 : Int32) (x2 : Int32) (t0 : Option Nat) (σ : oSt) : oRs :=
  oj_X6_close_75 n call κ k7 k31 x0 x1 x2 t0 1 σ
def ol_X6_close_31 (n : Nat) (call : oCl) (κ : oKv) (k7 : Option Nat → Int32 → oSt → oRs) : Nat → Option Nat → Int32 → Int32 → oSt → oRs
  | 0, _, _, _, _ => none
  | f + 1, x0, x1, x2, σ =>
    obn (ovi (ofd σ x0 8 1)) fun v1 =>
    if v1 ≤ x2 then
      k7 x0 (x1 + 1) σ
    else
      obn (ovi (ofd σ x0 8 4)) fun v4 =>
      if v4 = 0 then
        obn (ovr (ofd σ x0 8 0)) fun v7 =>
        obn (ovi (ofd σ x0 8 2)) fun v9 =>
        obn (ovi (ofd σ x0 8 1)) fun v11 =>
        obn (oaj σ v7 ((v9 + (x2 * v11)) + x2)) fun v13 =>
        if 0 ≤ (lg_cmp v13 0) then
          oj_X6_close_75 n call κ k7 (ol_X6_close_31 n call κ k7 f) x0 x1 x2 x0 0 σ
        else
          oj_X6_close_70 n call κ k7 (ol_X6_close_31 n call κ k7 f) x0 x1 x2 x0 σ
      else
        oj_X6_close_70 n call κ k7 (ol_X6_close_31 n call κ k7 f) x0 x1 x2 x0 σ
def ol_X6_close_7 (n : Nat) (call : oCl) (κ : oKv) : Nat → Option Nat → Int32 → oSt → oRs
  | 0, _, _, _ => none
  | f + 1, x0, x1, σ =>
    obn (ovi (ofd σ x0 8 1)) fun v1 =>
    if v1 ≤ x1 then
      oj_X6_close_90 n call κ x0 σ
    else
      obn (ovi (ofd σ x0 8 4)) fun v4 =>
      if v4 = 0 then
        obn (oob σ x0 8) fun a7 =>
        ocv (call 42 [va_rf x0, .int x1, .int x1, .long 0] σ) fun s9 =>
        ol_X6_close_31 n call κ (ol_X6_close_7 n call κ f) n x0 x1 0 s9
      else
        oj_X6_close_90 n call κ x0 σ
def ob_X6_close (n : Nat) (call : oCl) (κ : oKv) (x0 : Option Nat) (σ : oSt) : oRs :=
  obn (opf σ x0 8 3 (.int 1)) fun s1 =>
  ol_X6_close_7 n call κ n x0 0 s1
set_option maxHeartbeats 4000000 in
theorem qj_X6_close_90 {κ : oKv} {n : Nat} {call : oCl} {kc : Nat → List Value → oSt → Option Value × oSt → Prop} {v : Option Value × oSt} {X : Nat → zLv → List Value → oSt → Prop} (hX : oSem RX6 cX6_close 3 0 none κ kc v X) (hc : ∀ j av s w, call j av s = some w → kc j av s w) {x0 : Option Nat} {σ : oSt} (h : oj_X6_close_90 n call κ x0 σ = some v) : X 90 [some (va_rf x0), none, none] [] σ := by
  rw [oj_X6_close_90] at h
  refine os_aload_n (r := x0) hX dX6_close_90 rfl rfl ?_
  obtain ⟨a1, e2, h⟩ := obn_e h
  obtain ⟨s3, e4, h⟩ := ocv_e h
  refine oc_RX6_55 (rb := x0)  hX dX6_close_91 (Nat.le_of_ble_eq_true rfl) e2 (hc _ _ _ _ e4) ?_
  exact os_vret hX dX6_close_94 rfl (Option.some.inj h)
set_option maxHeartbeats 4000000 in
theorem qj_X6_close_75 {κ : oKv} {n : Nat} {call : oCl} {kc : Nat → List Value → oSt → Option Value × oSt → Prop} {v : Option Value × oSt} {X : Nat → zLv → List Value → oSt → Prop} (hX : oSem RX6 cX6_close 3 0 none κ kc v X) (hc : ∀ j av s w, call j av s = some w → kc j av s w) {k7 : Option Nat → Int32 → oSt → oRs} (hk7 : ∀ (x0 : Option Nat) (x1 : Int32) (s : oSt), k7 x0 x1 s = some v → X 7 [some (va_rf x0), some (.int x1), none] [] s) {k31 : Option Nat → Int32 → Int32 → oSt → oRs} (hk31 : ∀ (x0 : Option Nat) (x1 : Int32) (x2 : Int32) (s : oSt), k31 x0 x1 x2 s = some v → X 31 [some (va_rf x0), some (.int x1), some (.int x2)] [] s) {x0 : Option Nat} {x1 : Int32} {x2 : Int32} {t0 : Option Nat} {t1 : Int32} {σ : oSt} (h : oj_X6_close_75 n call κ k7 k31 x0 x1 x2 t0 t1 σ = some v) : X 75 [some (va_rf x0), some (.int x1), some (.int x2)] [.int t1, va_rf t0] σ := by
  rw [oj_X6_close_75] at h
  obtain ⟨b1, h⟩ := ogd_e h
  obtain ⟨s2, e3, h⟩ := obn_e h
  refine ow_put (r := t0) (x := .int t1) hX dX6_close_75 oF_RX6_24 (by decide) (opn_Z oT_8_4 b1) e3 ?_
  refine os_iinc (v := x2 + 1) hX dX6_close_78 rfl rfl (by decide) rfl ?_
  dsimp only [List.set]
  refine os_goto (tgt := 31) hX dX6_close_81 (by decide) ?_
  exact hk31 _ _ _ _ h
set_option maxHeartbeats 4000000 in
theorem qj_X6_close_70 {κ : oKv} {n : Nat} {call : oCl} {kc : Nat → List Value → oSt → Option Value × oSt → Prop} {v : Option Value × oSt} {X : Nat → zLv → List Value → oSt → Prop} (hX : oSem RX6 cX6_close 3 0 none κ kc v X) (hc : ∀ j av s w, call j av s = some w → kc j av s w) {k7 : Option Nat → Int32 → oSt → oRs} (hk7 : ∀ (x0 : Option Nat) (x1 : Int32) (s : oSt), k7 x0 x1 s = some v → X 7 [some (va_rf x0), some (.int x1), none] [] s) {k31 : Option Nat → Int32 → Int32 → oSt → oRs} (hk31 : ∀ (x0 : Option Nat) (x1 : Int32) (x2 : Int32) (s : oSt), k31 x0 x1 x2 s = some v → X 31 [some (va_rf x0), some (.int x1), some (.int x2)] [] s) {x0 : Option Nat} {x1 : Int32} {x2 : Int32} {t0 : Option Nat} {σ : oSt} (h : oj_X6_close_70 n call κ k7 k31 x0 x1 x2 t0 σ = some v) : X 70 [some (va_rf x0), some (.int x1), some (.int x2)] [va_rf t0] σ := by
  rw [oj_X6_close_70] at h
  refine os_iconst (v := 1) hX dX6_close_70 (by decide) ?_
  refine os_goto (tgt := 75) hX dX6_close_71 (by decide) ?_
  exact qj_X6_close_75 hX hc hk7 hk31 h
set_option maxHeartbeats 4000000 in
theorem ql_X6_close_31 {κ : oKv} {n : Nat} {call : oCl} {kc : Nat → List Value → oSt → Option Value × oSt → Prop} {v : Option Value × oSt} {X : Nat → zLv → List Value → oSt → Prop} (hX : oSem RX6 cX6_close 3 0 none κ kc v X) (hc : ∀ j av s w, call j av s = some w → kc j av s w) {k7 : Option Nat → Int32 → oSt → oRs} (hk7 : ∀ (x0 : Option Nat) (x1 : Int32) (s : oSt), k7 x0 x1 s = some v → X 7 [some (va_rf x0), some (.int x1), none] [] s) : ∀ (f : Nat) (x0 : Option Nat) (x1 : Int32) (x2 : Int32) (σ : oSt), ol_X6_close_31 n call κ k7 f x0 x1 x2 σ = some v → X 31 [some (va_rf x0), some (.int x1), some (.int x2)] [] σ := by
  intro f
  induction f with
  | zero => intro x0 x1 x2 σ h; cases h
  | succ f hk31 =>
    intro x0 x1 x2 σ h
    rw [ol_X6_close_31] at h
    refine os_iload_n hX dX6_close_31 rfl rfl ?_
    refine os_aload_n (r := x0) hX dX6_close_32 rfl rfl ?_
    obtain ⟨v1, e2, h⟩ := obn_e h
    refine ow_get (r := x0) hX dX6_close_33 oF_RX6_13 (ovi_e e2) ?_
    refine os_icmp_ge (tgt := 84) hX dX6_close_36 (by decide) (fun c3 => ?_) (fun c3 => ?_)
    · rw [if_pos c3] at h
      refine os_iinc (v := x1 + 1) hX dX6_close_84 rfl rfl (by decide) (ozlo (i := 0) (r := x0) rfl) ?_
      dsimp only [List.set]
      refine os_goto (tgt := 7) hX dX6_close_87 (by decide) ?_
      refine os_weak hX (lw := [some (va_rf x0), some (.int (x1 + 1)), none]) ⟨rfl, rfl, trivial⟩ ?_
      exact hk7 _ _ _ h
    · rw [if_neg c3] at h
      refine os_aload_n (r := x0) hX dX6_close_39 rfl rfl ?_
      refine os_aload_n (r := x0) hX dX6_close_40 rfl rfl ?_
      obtain ⟨v4, e5, h⟩ := obn_e h
      refine ow_get (r := x0) hX dX6_close_41 oF_RX6_24 (ovi_e e5) ?_
      refine os_if_ne (tgt := 70) hX dX6_close_44 (by decide) (fun c6 => ?_) (fun c6 => ?_)
      · rw [if_neg c6] at h
        exact qj_X6_close_70 hX hc hk7 hk31 h
      · rw [if_pos c6] at h
        refine os_aload_n (r := x0) hX dX6_close_47 rfl rfl ?_
        obtain ⟨v7, e8, h⟩ := obn_e h
        refine ow_get (r := x0) hX dX6_close_48 oF_RX6_7 (ovr_e e8) ?_
        refine os_aload_n (r := x0) hX dX6_close_51 rfl rfl ?_
        obtain ⟨v9, e10, h⟩ := obn_e h
        refine ow_get (r := x0) hX dX6_close_52 oF_RX6_17 (ovi_e e10) ?_
        refine os_iload_n hX dX6_close_55 rfl rfl ?_
        refine os_aload_n (r := x0) hX dX6_close_56 rfl rfl ?_
        obtain ⟨v11, e12, h⟩ := obn_e h
        refine ow_get (r := x0) hX dX6_close_57 oF_RX6_13 (ovi_e e12) ?_
        refine os_imul hX dX6_close_60 ?_
        refine os_iadd hX dX6_close_61 ?_
        refine os_iload_n hX dX6_close_62 rfl rfl ?_
        refine os_iadd hX dX6_close_63 ?_
        obtain ⟨v13, e14, h⟩ := obn_e h
        refine ow_aj (r := v7) (i := ((v9 + (x2 * v11)) + x2)) hX dX6_close_64 e14 ?_
        refine os_lconst (v := 0) hX dX6_close_65 (by decide) ?_
        refine os_lcmp hX dX6_close_66 ?_
        refine os_if_ge (tgt := 74) hX dX6_close_67 (by decide) (fun c15 => ?_) (fun c15 => ?_)
        · rw [if_pos c15] at h
          refine os_iconst (v := 0) hX dX6_close_74 (by decide) ?_
          exact qj_X6_close_75 hX hc hk7 hk31 h
        · rw [if_neg c15] at h
          exact qj_X6_close_70 hX hc hk7 hk31 h
set_option maxHeartbeats 4000000 in
theorem ql_X6_close_7 {κ : oKv} {n : Nat} {call : oCl} {kc : Nat → List Value → oSt → Option Value × oSt → Prop} {v : Option Value × oSt} {X : Nat → zLv → List Value → oSt → Prop} (hX : oSem RX6 cX6_close 3 0 none κ kc v X) (hc : ∀ j av s w, call j av s = some w → kc j av s w) : ∀ (f : Nat) (x0 : Option Nat) (x1 : Int32) (σ : oSt), ol_X6_close_7 n call κ f x0 x1 σ = some v → X 7 [some (va_rf x0), some (.int x1), none] [] σ := by
  intro f
  induction f with
  | zero => intro x0 x1 σ h; cases h
  | succ f hk7 =>
    intro x0 x1 σ h
    rw [ol_X6_close_7] at h
    refine os_iload_n hX dX6_close_7 rfl rfl ?_
    refine os_aload_n (r := x0) hX dX6_close_8 rfl rfl ?_
    obtain ⟨v1, e2, h⟩ := obn_e h
    refine ow_get (r := x0) hX dX6_close_9 oF_RX6_13 (ovi_e e2) ?_
    refine os_icmp_ge (tgt := 90) hX dX6_close_12 (by decide) (fun c3 => ?_) (fun c3 => ?_)
    · rw [if_pos c3] at h
      refine os_weak hX (lw := [some (va_rf x0), none, none]) ⟨rfl, trivial⟩ ?_
      exact qj_X6_close_90 hX hc h
    · rw [if_neg c3] at h
      refine os_aload_n (r := x0) hX dX6_close_15 rfl rfl ?_
      obtain ⟨v4, e5, h⟩ := obn_e h
      refine ow_get (r := x0) hX dX6_close_16 oF_RX6_24 (ovi_e e5) ?_
      refine os_if_ne (tgt := 90) hX dX6_close_19 (by decide) (fun c6 => ?_) (fun c6 => ?_)
      · rw [if_neg c6] at h
        refine os_weak hX (lw := [some (va_rf x0), none, none]) ⟨rfl, trivial⟩ ?_
        exact qj_X6_close_90 hX hc h
      · rw [if_pos c6] at h
        refine os_aload_n (r := x0) hX dX6_close_22 rfl rfl ?_
        refine os_iload_n hX dX6_close_23 rfl rfl ?_
        refine os_iload_n hX dX6_close_24 rfl rfl ?_
        refine os_lconst (v := 0) hX dX6_close_25 (by decide) ?_
        obtain ⟨a7, e8, h⟩ := obn_e h
        obtain ⟨s9, e10, h⟩ := ocv_e h
        refine oc_RX6_51 (rb := x0) (a1 := .int x1) (a2 := .int x1) (a3 := .long 0) hX dX6_close_26 (Nat.le_of_ble_eq_true rfl) e8 (hc _ _ _ _ e10) ?_
        refine os_iconst (v := 0) hX dX6_close_29 (by decide) ?_
        refine os_istore_n hX dX6_close_30 rfl (by decide) rfl ?_
        dsimp only [List.set]
        exact ql_X6_close_31 hX hc hk7 n _ _ _ _ h
set_option maxHeartbeats 4000000 in
theorem qb_X6_close {κ : oKv} {n : Nat} {call : oCl} {kc : Nat → List Value → oSt → Option Value × oSt → Prop} {v : Option Value × oSt} {X : Nat → zLv → List Value → oSt → Prop} (hX : oSem RX6 cX6_close 3 0 none κ kc v X) (hc : ∀ j av s w, call j av s = some w → kc j av s w) {x0 : Option Nat} {σ : oSt} (h : ob_X6_close n call κ x0 σ = some v) : X 0 [some (va_rf x0), none, none] [] σ := by
  rw [ob_X6_close] at h
  refine os_aload_n (r := x0) hX dX6_close_0 rfl rfl ?_
  refine os_iconst (v := 1) hX dX6_close_1 (by decide) ?_
  obtain ⟨s1, e2, h⟩ := obn_e h
  refine ow_put (r := x0) (x := .int 1) hX dX6_close_2 oF_RX6_20 (by decide) (opn_Z oT_8_3 (by decide)) e2 ?_
  refine os_iconst (v := 0) hX dX6_close_5 (by decide) ?_
  refine os_istore_n hX dX6_close_6 rfl (by decide) (ozlo (i := 0) (r := x0) rfl) ?_
  dsimp only [List.set]
  exact ql_X6_close_7 hX hc n _ _ _ h
