/-! the methods of the class as plain functions (36 to 46) -/
def ob_X0_walkRec (n : Nat) (call : oCl) (κ : oKv) (x0 : Option Nat) (x1 : Option Nat) (x2 : Option Nat) (σ : oSt) : oRs :=
  obn (ovr (ofd σ x1 7 10)) fun v1 =>
  obn (ovi (ofd σ v1 6 2)) fun v3 =>
  obn (ovr (ofd σ x1 7 11)) fun v5 =>
  obn (oob σ x0 2) fun a7 =>
  orn (call 28 [va_rf x0, .int v3, va_rf v5, va_rf x2] σ) fun r11 s9 =>
  obn (ovr (ofd s9 x1 7 10)) fun v12 =>
  obn (opf s9 v12 6 4 (va_rf r11)) fun s14 =>
  olet (onew s14 (.inr (10, odef 10)) (oq 10).2.2) fun s16 =>
  obn (ovr (ofd s16 x1 7 10)) fun v18 =>
  obn ((some s14.2.1)) fun a20 =>
  ocv (call 2 [va_rf (some s14.2.1), va_rf v18, va_rf x2] s16) fun s22 =>
  obn (oob s22 x0 2) fun a25 =>
  ocv (call 29 [va_rf x0, va_rf x1, va_rf r11, va_rf (some s14.2.1)] s22) fun s27 =>
  obn (ovi (ofd s27 x1 7 8)) fun v30 =>
  obn (oob s27 x0 2) fun a32 =>
  orn (call 28 [va_rf x0, .int v30, va_rf none, va_rf x2] s27) fun r36 s34 =>
  obn (ovr (ofd s34 x1 7 13)) fun v37 =>
  obn (oob s34 x0 2) fun a39 =>
  orn (call 30 [va_rf x0, va_rf v37, va_rf (some s14.2.1)] s34) fun r43 s41 =>
  obn (oob s41 x0 2) fun a44 =>
  ocv (call 12 [va_rf x0, va_rf r43, va_rf r36, va_rf (some s14.2.1)] s41) fun s46 =>
  some (some (va_rf r36), s46)
set_option maxHeartbeats 4000000 in
theorem qb_X0_walkRec {κ : oKv} {n : Nat} {call : oCl} {kc : Nat → List Value → oSt → Option Value × oSt → Prop} {v : Option Value × oSt} {X : Nat → zLv → List Value → oSt → Prop} (hX : oSem RX0 cX0_walkRec 6 0 (some (.object "LiquidTongue$Known")) κ kc v X) (hc : ∀ j av s w, call j av s = some w → kc j av s w) {x0 : Option Nat} {x1 : Option Nat} {x2 : Option Nat} {σ : oSt} (h : ob_X0_walkRec n call κ x0 x1 x2 σ = some v) : X 0 [some (va_rf x0), some (va_rf x1), some (va_rf x2), none, none, none] [] σ := by
  rw [ob_X0_walkRec] at h
  refine os_aload_n (r := x0) hX dX0_walkRec_0 rfl rfl ?_
  refine os_aload_n (r := x1) hX dX0_walkRec_1 rfl rfl ?_
  obtain ⟨v1, e2, h⟩ := obn_e h
  refine ow_get (r := x1) hX dX0_walkRec_2 oF_RX0_224 (ovr_e e2) ?_
  obtain ⟨v3, e4, h⟩ := obn_e h
  refine ow_get (r := v1) hX dX0_walkRec_5 oF_RX0_240 (ovi_e e4) ?_
  refine os_aload_n (r := x1) hX dX0_walkRec_8 rfl rfl ?_
  obtain ⟨v5, e6, h⟩ := obn_e h
  refine ow_get (r := x1) hX dX0_walkRec_9 oF_RX0_241 (ovr_e e6) ?_
  refine os_aload_n (r := x2) hX dX0_walkRec_12 rfl rfl ?_
  obtain ⟨a7, e8, h⟩ := obn_e h
  obtain ⟨r11, s9, e10, h⟩ := orn_e h
  refine oc_RX0_229 (rb := x0) (a1 := .int v3) (a2 := va_rf v5) (a3 := va_rf x2) hX dX0_walkRec_13 (Nat.le_of_ble_eq_true rfl) e8 (hc _ _ _ _ e10) ?_
  refine os_astore_n (r := r11) hX dX0_walkRec_16 rfl (by decide) (ozlo (i := 2) (r := x2) rfl) ?_
  dsimp only [List.set]
  refine os_aload_n (r := x1) hX dX0_walkRec_17 rfl rfl ?_
  obtain ⟨v12, e13, h⟩ := obn_e h
  refine ow_get (r := x1) hX dX0_walkRec_18 oF_RX0_224 (ovr_e e13) ?_
  refine os_aload_n (r := r11) hX dX0_walkRec_21 rfl rfl ?_
  obtain ⟨s14, e15, h⟩ := obn_e h
  refine ow_put (r := v12) (x := va_rf r11) hX dX0_walkRec_22 oF_RX0_69 (by decide) (orf_n (Or.inl ⟨_, oT_6_4⟩) r11) e15 ?_
  obtain ⟨s16, e17, h⟩ := olet_e h
  refine os_new hX dX0_walkRec_25 oN_RX0_73 ?_
  rw [← e17]
  refine os_dup hX dX0_walkRec_28 (ocat (some s14.2.1)) ?_
  refine os_aload_n (r := x1) hX dX0_walkRec_29 rfl rfl ?_
  obtain ⟨v18, e19, h⟩ := obn_e h
  refine ow_get (r := x1) hX dX0_walkRec_30 oF_RX0_224 (ovr_e e19) ?_
  refine os_aload_n (r := x2) hX dX0_walkRec_33 rfl rfl ?_
  obtain ⟨a20, e21, h⟩ := obn_e h
  obtain ⟨s22, e23, h⟩ := ocv_e h
  refine oc_RX0_75 (rb := (some s14.2.1)) (a1 := va_rf v18) (a2 := va_rf x2) hX dX0_walkRec_34 (by simp only [List.map_cons, List.map_nil, List.sum_cons, List.sum_nil, ocat]; exact Nat.le_of_ble_eq_true rfl) e21 (hc _ _ _ _ e23) ?_
  refine os_astore (r := (some s14.2.1)) hX dX0_walkRec_37 (by decide) (ozlo (i := 3) (r := r11) rfl) ?_
  dsimp only [List.set]
  refine os_aload_n (r := x0) hX dX0_walkRec_39 rfl rfl ?_
  refine os_aload_n (r := x1) hX dX0_walkRec_40 rfl rfl ?_
  refine os_aload_n (r := r11) hX dX0_walkRec_41 rfl rfl ?_
  refine os_aload (r := (some s14.2.1)) hX dX0_walkRec_42 rfl ?_
  obtain ⟨a25, e26, h⟩ := obn_e h
  obtain ⟨s27, e28, h⟩ := ocv_e h
  refine oc_RX0_244 (rb := x0) (a1 := va_rf x1) (a2 := va_rf r11) (a3 := va_rf (some s14.2.1)) hX dX0_walkRec_44 (Nat.le_of_ble_eq_true rfl) e26 (hc _ _ _ _ e28) ?_
  refine os_aload_n (r := x0) hX dX0_walkRec_47 rfl rfl ?_
  refine os_aload_n (r := x1) hX dX0_walkRec_48 rfl rfl ?_
  obtain ⟨v30, e31, h⟩ := obn_e h
  refine ow_get (r := x1) hX dX0_walkRec_49 oF_RX0_226 (ovi_e e31) ?_
  refine os_null hX dX0_walkRec_52 ?_
  refine os_aload_n (r := x2) hX dX0_walkRec_53 rfl rfl ?_
  obtain ⟨a32, e33, h⟩ := obn_e h
  obtain ⟨r36, s34, e35, h⟩ := orn_e h
  refine oc_RX0_229 (rb := x0) (a1 := .int v30) (a2 := va_rf none) (a3 := va_rf x2) hX dX0_walkRec_54 (Nat.le_of_ble_eq_true rfl) e33 (hc _ _ _ _ e35) ?_
  refine os_astore (r := r36) hX dX0_walkRec_57 (by decide) (ozlo (i := 4) (r := (some s14.2.1)) rfl) ?_
  dsimp only [List.set]
  refine os_aload_n (r := x0) hX dX0_walkRec_59 rfl rfl ?_
  refine os_aload_n (r := x0) hX dX0_walkRec_60 rfl rfl ?_
  refine os_aload_n (r := x1) hX dX0_walkRec_61 rfl rfl ?_
  obtain ⟨v37, e38, h⟩ := obn_e h
  refine ow_get (r := x1) hX dX0_walkRec_62 oF_RX0_233 (ovr_e e38) ?_
  refine os_aload (r := (some s14.2.1)) hX dX0_walkRec_65 rfl ?_
  obtain ⟨a39, e40, h⟩ := obn_e h
  obtain ⟨r43, s41, e42, h⟩ := orn_e h
  refine oc_RX0_82 (rb := x0) (a1 := va_rf v37) (a2 := va_rf (some s14.2.1)) hX dX0_walkRec_67 (by simp only [List.map_cons, List.map_nil, List.sum_cons, List.sum_nil, ocat]; exact Nat.le_of_ble_eq_true rfl) e40 (hc _ _ _ _ e42) ?_
  refine os_aload (r := r36) hX dX0_walkRec_70 rfl ?_
  refine os_aload (r := (some s14.2.1)) hX dX0_walkRec_72 rfl ?_
  obtain ⟨a44, e45, h⟩ := obn_e h
  obtain ⟨s46, e47, h⟩ := ocv_e h
  refine oc_RX0_236 (rb := x0) (a1 := va_rf r43) (a2 := va_rf r36) (a3 := va_rf (some s14.2.1)) hX dX0_walkRec_74 (Nat.le_of_ble_eq_true rfl) e45 (hc _ _ _ _ e47) ?_
  refine os_aload (r := r36) hX dX0_walkRec_77 rfl ?_
  exact os_aret (r := r36) hX dX0_walkRec_79 rfl (Option.some.inj h)
def ol_X0_gather_4 (n : Nat) (call : oCl) (κ : oKv) : Nat → Option Nat → Option Nat → Int32 → oSt → oRs
  | 0, _, _, _, _ => none
  | f + 1, x0, x1, x2, σ =>
    obn (ovr (ofd σ x0 2 0)) fun v1 =>
    obn (ovi (ofd σ v1 9 9)) fun v3 =>
    if v3 ≤ x2 then
      obn (ovr (ofd σ x0 2 0)) fun v6 =>
      obn (ovr (ofd σ v6 9 10)) fun v8 =>
      obn (oob σ x0 2) fun a10 =>
      orn (call 30 [va_rf x0, va_rf v8, va_rf x1] σ) fun r14 s12 =>
      some (none, s12)
    else
      obn (ovr (ofd σ x0 2 0)) fun v15 =>
      obn (ovr (ofd σ v15 9 2)) fun v17 =>
      obn (oob σ v17 1) fun a19 =>
      orn (call 234 [va_rf v17, .int x2] σ) fun r23 s21 =>
      ogd (ocs s21 r23 6) (
      olet (onew s21 (.inr (4, odef 4)) (oq 4).2.2) fun s25 =>
      obn (ovi (ofd s25 r23 6 3)) fun v27 =>
      obn ((some s21.2.1)) fun a29 =>
      ocv (call 1 [va_rf (some s21.2.1), .int v27] s25) fun s31 =>
      obn (opf s31 r23 6 4 (va_rf (some s21.2.1))) fun s34 =>
      olet (onew s34 (.inr (10, odef 10)) (oq 10).2.2) fun s36 =>
      obn ((some s34.2.1)) fun a38 =>
      ocv (call 2 [va_rf (some s34.2.1), va_rf r23, va_rf x1] s36) fun s40 =>
      ol_X0_gather_4 n call κ f x0 (some s34.2.1) (x2 + 1) s40)
def ob_X0_gather (n : Nat) (call : oCl) (κ : oKv) (x0 : Option Nat) (σ : oSt) : oRs :=
  ol_X0_gather_4 n call κ n x0 none 0 σ
set_option maxHeartbeats 4000000 in
theorem ql_X0_gather_4 {κ : oKv} {n : Nat} {call : oCl} {kc : Nat → List Value → oSt → Option Value × oSt → Prop} {v : Option Value × oSt} {X : Nat → zLv → List Value → oSt → Prop} (hX : oSem RX0 cX0_gather 4 0 none κ kc v X) (hc : ∀ j av s w, call j av s = some w → kc j av s w) : ∀ (f : Nat) (x0 : Option Nat) (x1 : Option Nat) (x2 : Int32) (σ : oSt), ol_X0_gather_4 n call κ f x0 x1 x2 σ = some v → X 4 [some (va_rf x0), some (va_rf x1), some (.int x2), none] [] σ := by
  intro f
  induction f with
  | zero => intro x0 x1 x2 σ h; cases h
  | succ f hk4 =>
    intro x0 x1 x2 σ h
    rw [ol_X0_gather_4] at h
    refine os_iload_n hX dX0_gather_4 rfl rfl ?_
    refine os_aload_n (r := x0) hX dX0_gather_5 rfl rfl ?_
    obtain ⟨v1, e2, h⟩ := obn_e h
    refine ow_get (r := x0) hX dX0_gather_6 oF_RX0_37 (ovr_e e2) ?_
    obtain ⟨v3, e4, h⟩ := obn_e h
    refine ow_get (r := v1) hX dX0_gather_9 oF_RX0_49 (ovi_e e4) ?_
    refine os_icmp_ge (tgt := 61) hX dX0_gather_12 (by decide) (fun c5 => ?_) (fun c5 => ?_)
    · rw [if_pos c5] at h
      refine os_aload_n (r := x0) hX dX0_gather_61 rfl rfl ?_
      refine os_aload_n (r := x0) hX dX0_gather_62 rfl rfl ?_
      obtain ⟨v6, e7, h⟩ := obn_e h
      refine ow_get (r := x0) hX dX0_gather_63 oF_RX0_37 (ovr_e e7) ?_
      obtain ⟨v8, e9, h⟩ := obn_e h
      refine ow_get (r := v6) hX dX0_gather_66 oF_RX0_78 (ovr_e e9) ?_
      refine os_aload_n (r := x1) hX dX0_gather_69 rfl rfl ?_
      obtain ⟨a10, e11, h⟩ := obn_e h
      obtain ⟨r14, s12, e13, h⟩ := orn_e h
      refine oc_RX0_82 (rb := x0) (a1 := va_rf v8) (a2 := va_rf x1) hX dX0_gather_70 (Nat.le_of_ble_eq_true rfl) e11 (hc _ _ _ _ e13) ?_
      refine os_pop hX dX0_gather_73 (ocat r14) ?_
      exact os_vret hX dX0_gather_74 rfl (Option.some.inj h)
    · rw [if_neg c5] at h
      refine os_aload_n (r := x0) hX dX0_gather_15 rfl rfl ?_
      obtain ⟨v15, e16, h⟩ := obn_e h
      refine ow_get (r := x0) hX dX0_gather_16 oF_RX0_37 (ovr_e e16) ?_
      obtain ⟨v17, e18, h⟩ := obn_e h
      refine ow_get (r := v15) hX dX0_gather_19 oF_RX0_54 (ovr_e e18) ?_
      refine os_iload_n hX dX0_gather_22 rfl rfl ?_
      obtain ⟨a19, e20, h⟩ := obn_e h
      obtain ⟨r23, s21, e22, h⟩ := orn_e h
      refine oc_RX0_57 (rb := v17) (a1 := .int x2) hX dX0_gather_23 (Nat.le_of_ble_eq_true rfl) e20 (hc _ _ _ _ e22) ?_
      obtain ⟨b24, h⟩ := ogd_e h
      refine ow_cs (r := r23) hX dX0_gather_26 oK_RX0_27 b24 ?_
      refine os_astore_n (r := r23) hX dX0_gather_29 rfl (by decide) rfl ?_
      dsimp only [List.set]
      refine os_aload_n (r := r23) hX dX0_gather_30 rfl rfl ?_
      obtain ⟨s25, e26, h⟩ := olet_e h
      refine os_new hX dX0_gather_31 oN_RX0_61 ?_
      rw [← e26]
      refine os_dup hX dX0_gather_34 (ocat (some s21.2.1)) ?_
      refine os_aload_n (r := r23) hX dX0_gather_35 rfl rfl ?_
      obtain ⟨v27, e28, h⟩ := obn_e h
      refine ow_get (r := r23) hX dX0_gather_36 oF_RX0_63 (ovi_e e28) ?_
      obtain ⟨a29, e30, h⟩ := obn_e h
      obtain ⟨s31, e32, h⟩ := ocv_e h
      refine oc_RX0_66 (rb := (some s21.2.1)) (a1 := .int v27) hX dX0_gather_39 (by simp only [List.map_cons, List.map_nil, List.sum_cons, List.sum_nil, ocat]; exact Nat.le_of_ble_eq_true rfl) e30 (hc _ _ _ _ e32) ?_
      obtain ⟨s34, e35, h⟩ := obn_e h
      refine ow_put (r := r23) (x := va_rf (some s21.2.1)) hX dX0_gather_42 oF_RX0_69 (by decide) (orf_n (Or.inl ⟨_, oT_6_4⟩) (some s21.2.1)) e35 ?_
      obtain ⟨s36, e37, h⟩ := olet_e h
      refine os_new hX dX0_gather_45 oN_RX0_73 ?_
      rw [← e37]
      refine os_dup hX dX0_gather_48 (ocat (some s34.2.1)) ?_
      refine os_aload_n (r := r23) hX dX0_gather_49 rfl rfl ?_
      refine os_aload_n (r := x1) hX dX0_gather_50 rfl rfl ?_
      obtain ⟨a38, e39, h⟩ := obn_e h
      obtain ⟨s40, e41, h⟩ := ocv_e h
      refine oc_RX0_75 (rb := (some s34.2.1)) (a1 := va_rf r23) (a2 := va_rf x1) hX dX0_gather_51 (by simp only [List.map_cons, List.map_nil, List.sum_cons, List.sum_nil, ocat]; exact Nat.le_of_ble_eq_true rfl) e39 (hc _ _ _ _ e41) ?_
      refine os_astore_n (r := (some s34.2.1)) hX dX0_gather_54 rfl (by decide) (ozlo (i := 0) (r := x0) rfl) ?_
      dsimp only [List.set]
      refine os_iinc (v := x2 + 1) hX dX0_gather_55 rfl rfl (by decide) (ozlo (i := 1) (r := (some s34.2.1)) rfl) ?_
      dsimp only [List.set]
      refine os_goto (tgt := 4) hX dX0_gather_58 (by decide) ?_
      refine os_weak hX (lw := [some (va_rf x0), some (va_rf (some s34.2.1)), some (.int (x2 + 1)), none]) ⟨rfl, rfl, rfl, trivial⟩ ?_
      exact hk4 _ _ _ _ h
set_option maxHeartbeats 4000000 in
theorem qb_X0_gather {κ : oKv} {n : Nat} {call : oCl} {kc : Nat → List Value → oSt → Option Value × oSt → Prop} {v : Option Value × oSt} {X : Nat → zLv → List Value → oSt → Prop} (hX : oSem RX0 cX0_gather 4 0 none κ kc v X) (hc : ∀ j av s w, call j av s = some w → kc j av s w) {x0 : Option Nat} {σ : oSt} (h : ob_X0_gather n call κ x0 σ = some v) : X 0 [some (va_rf x0), none, none, none] [] σ := by
  rw [ob_X0_gather] at h
  refine os_null hX dX0_gather_0 ?_
  refine os_astore_n (r := none) hX dX0_gather_1 rfl (by decide) (ozlo (i := 0) (r := x0) rfl) ?_
  dsimp only [List.set]
  refine os_iconst (v := 0) hX dX0_gather_2 (by decide) ?_
  refine os_istore_n hX dX0_gather_3 rfl (by decide) (ozlo (i := 1) (r := none) rfl) ?_
  dsimp only [List.set]
  exact ql_X0_gather_4 hX hc n _ _ _ _ h
def oj_X9_isFact_68 (n : Nat) (call : oCl) (κ : oKv) (σ : oSt) : oRs :=
  some (some (.int 1), σ)
def ob_X9_isFact (n : Nat) (call : oCl) (κ : oKv) (x0 : Option Nat) (σ : oSt) : oRs :=
  obn (ovi (ofd σ x0 11 2)) fun v1 =>
  if v1 = 2 then
    obn (ovr (ofd σ x0 11 1)) fun v15 =>
    obn (oai σ v15 .int 0) fun v17 =>
    if ((if 0 ≤ v17 then v17 else 0 - v17)) = 1 then
      obn (ovr (ofd σ x0 11 1)) fun v20 =>
      obn (oai σ v20 .int 1) fun v22 =>
      if ((if 0 ≤ v22 then v22 else 0 - v22)) = 1 then
        some (some (.int 1), σ)
      else
        some (some (.int 0), σ)
    else
      some (some (.int 0), σ)
  else
    obn (ovi (ofd σ x0 11 2)) fun v4 =>
    if v4 = 0 then
      oj_X9_isFact_68 n call κ σ
    else
      obn (ovi (ofd σ x0 11 2)) fun v7 =>
      if v7 = 1 then
        obn (ovr (ofd σ x0 11 1)) fun v10 =>
        obn (oai σ v10 .int 0) fun v12 =>
        if 2 < ((if 0 ≤ v12 then v12 else 0 - v12)) then
          some (some (.int 0), σ)
        else
          oj_X9_isFact_68 n call κ σ
      else
        some (some (.int 0), σ)
set_option maxHeartbeats 4000000 in
theorem qj_X9_isFact_68 {κ : oKv} {n : Nat} {call : oCl} {kc : Nat → List Value → oSt → Option Value × oSt → Prop} {v : Option Value × oSt} {X : Nat → zLv → List Value → oSt → Prop} (hX : oSem RX9 cX9_isFact 1 0 (some .boolean) κ kc v X) (hc : ∀ j av s w, call j av s = some w → kc j av s w) {σ : oSt} (h : oj_X9_isFact_68 n call κ σ = some v) : X 68 [none] [] σ := by
  rw [oj_X9_isFact_68] at h
  refine os_iconst (v := 1) hX dX9_isFact_68 (by decide) ?_
  refine os_goto (tgt := 73) hX dX9_isFact_69 (by decide) ?_
  exact os_nret (ty := .boolean) hX dX9_isFact_73 rfl rfl (by decide) (Option.some.inj h)
set_option maxHeartbeats 4000000 in
theorem qb_X9_isFact {κ : oKv} {n : Nat} {call : oCl} {kc : Nat → List Value → oSt → Option Value × oSt → Prop} {v : Option Value × oSt} {X : Nat → zLv → List Value → oSt → Prop} (hX : oSem RX9 cX9_isFact 1 0 (some .boolean) κ kc v X) (hc : ∀ j av s w, call j av s = some w → kc j av s w) {x0 : Option Nat} {σ : oSt} (h : ob_X9_isFact n call κ x0 σ = some v) : X 0 [some (va_rf x0)] [] σ := by
  rw [ob_X9_isFact] at h
  refine os_aload_n (r := x0) hX dX9_isFact_0 rfl rfl ?_
  obtain ⟨v1, e2, h⟩ := obn_e h
  refine ow_get (r := x0) hX dX9_isFact_1 oF_RX9_19 (ovi_e e2) ?_
  refine os_iconst (v := 2) hX dX9_isFact_4 (by decide) ?_
  refine os_icmp_ne (tgt := 40) hX dX9_isFact_5 (by decide) (fun c3 => ?_) (fun c3 => ?_)
  · rw [if_neg c3] at h
    refine os_aload_n (r := x0) hX dX9_isFact_40 rfl rfl ?_
    obtain ⟨v4, e5, h⟩ := obn_e h
    refine ow_get (r := x0) hX dX9_isFact_41 oF_RX9_19 (ovi_e e5) ?_
    refine os_if_eq (tgt := 68) hX dX9_isFact_44 (by decide) (fun c6 => ?_) (fun c6 => ?_)
    · rw [if_pos c6] at h
      refine os_weak hX (lw := [none]) trivial ?_
      exact qj_X9_isFact_68 hX hc h
    · rw [if_neg c6] at h
      refine os_aload_n (r := x0) hX dX9_isFact_47 rfl rfl ?_
      obtain ⟨v7, e8, h⟩ := obn_e h
      refine ow_get (r := x0) hX dX9_isFact_48 oF_RX9_19 (ovi_e e8) ?_
      refine os_iconst (v := 1) hX dX9_isFact_51 (by decide) ?_
      refine os_icmp_ne (tgt := 72) hX dX9_isFact_52 (by decide) (fun c9 => ?_) (fun c9 => ?_)
      · rw [if_neg c9] at h
        refine os_iconst (v := 0) hX dX9_isFact_72 (by decide) ?_
        exact os_nret (ty := .boolean) hX dX9_isFact_73 rfl rfl (by decide) (Option.some.inj h)
      · rw [if_pos c9] at h
        refine os_aload_n (r := x0) hX dX9_isFact_55 rfl rfl ?_
        obtain ⟨v10, e11, h⟩ := obn_e h
        refine ow_get (r := x0) hX dX9_isFact_56 oF_RX9_15 (ovr_e e11) ?_
        refine os_iconst (v := 0) hX dX9_isFact_59 (by decide) ?_
        obtain ⟨v12, e13, h⟩ := obn_e h
        refine ow_ai (r := v10) (i := 0) hX dX9_isFact_60 e13 ?_
        refine os_mabs hX dX9_isFact_61 omabs_RX9_48 (Nat.le_of_ble_eq_true rfl) ?_
        refine os_iconst (v := 2) hX dX9_isFact_64 (by decide) ?_
        refine os_icmp_gt (tgt := 72) hX dX9_isFact_65 (by decide) (fun c14 => ?_) (fun c14 => ?_)
        · rw [if_pos c14] at h
          refine os_iconst (v := 0) hX dX9_isFact_72 (by decide) ?_
          exact os_nret (ty := .boolean) hX dX9_isFact_73 rfl rfl (by decide) (Option.some.inj h)
        · rw [if_neg c14] at h
          refine os_weak hX (lw := [none]) trivial ?_
          exact qj_X9_isFact_68 hX hc h
  · rw [if_pos c3] at h
    refine os_aload_n (r := x0) hX dX9_isFact_8 rfl rfl ?_
    obtain ⟨v15, e16, h⟩ := obn_e h
    refine ow_get (r := x0) hX dX9_isFact_9 oF_RX9_15 (ovr_e e16) ?_
    refine os_iconst (v := 0) hX dX9_isFact_12 (by decide) ?_
    obtain ⟨v17, e18, h⟩ := obn_e h
    refine ow_ai (r := v15) (i := 0) hX dX9_isFact_13 e18 ?_
    refine os_mabs hX dX9_isFact_14 omabs_RX9_48 (Nat.le_of_ble_eq_true rfl) ?_
    refine os_iconst (v := 1) hX dX9_isFact_17 (by decide) ?_
    refine os_icmp_ne (tgt := 38) hX dX9_isFact_18 (by decide) (fun c19 => ?_) (fun c19 => ?_)
    · rw [if_neg c19] at h
      refine os_iconst (v := 0) hX dX9_isFact_38 (by decide) ?_
      exact os_nret (ty := .boolean) hX dX9_isFact_39 rfl rfl (by decide) (Option.some.inj h)
    · rw [if_pos c19] at h
      refine os_aload_n (r := x0) hX dX9_isFact_21 rfl rfl ?_
      obtain ⟨v20, e21, h⟩ := obn_e h
      refine ow_get (r := x0) hX dX9_isFact_22 oF_RX9_15 (ovr_e e21) ?_
      refine os_iconst (v := 1) hX dX9_isFact_25 (by decide) ?_
      obtain ⟨v22, e23, h⟩ := obn_e h
      refine ow_ai (r := v20) (i := 1) hX dX9_isFact_26 e23 ?_
      refine os_mabs hX dX9_isFact_27 omabs_RX9_48 (Nat.le_of_ble_eq_true rfl) ?_
      refine os_iconst (v := 1) hX dX9_isFact_30 (by decide) ?_
      refine os_icmp_ne (tgt := 38) hX dX9_isFact_31 (by decide) (fun c24 => ?_) (fun c24 => ?_)
      · rw [if_neg c24] at h
        refine os_iconst (v := 0) hX dX9_isFact_38 (by decide) ?_
        exact os_nret (ty := .boolean) hX dX9_isFact_39 rfl rfl (by decide) (Option.some.inj h)
      · rw [if_pos c24] at h
        refine os_iconst (v := 1) hX dX9_isFact_34 (by decide) ?_
        refine os_goto (tgt := 39) hX dX9_isFact_35 (by decide) ?_
        exact os_nret (ty := .boolean) hX dX9_isFact_39 rfl rfl (by decide) (Option.some.inj h)
def oj_X1_isFormed_90 (n : Nat) (call : oCl) (κ : oKv) (k28 : Option Nat → Int32 → Int32 → oSt → oRs) (x0 : Option Nat) (x2 : Int32) (t0 : Int32) (σ : oSt) : oRs :=
  k28 x0 t0 (x2 + 1) σ
def oj_X1_isFormed_89 (n : Nat) (call : oCl) (κ : oKv) (k28 : Option Nat → Int32 → Int32 → oSt → oRs) (x0 : Option Nat) (x2 : Int32) (σ : oSt) : oRs :=
  oj_X1_isFormed_90 n call κ k28 x0 x2 0 σ
def oj_X1_isFormed_85 (n : Nat) (call : oCl) (κ : oKv) (k28 : Option Nat → Int32 → Int32 → oSt → oRs) (x0 : Option Nat) (x2 : Int32) (σ : oSt) : oRs :=
  oj_X1_isFormed_90 n call κ k28 x0 x2 1 σ
def ol_X1_isFormed_28 (n : Nat) (call : oCl) (κ : oKv) : Nat → Option Nat → Int32 → Int32 → oSt → oRs
  | 0, _, _, _, _ => none
  | f + 1, x0, x1, x2, σ =>
    obn (ovi (ofd σ x0 7 0)) fun v1 =>
    if v1 = 302 then
      obn (ovr (ofd σ x0 7 18)) fun v5 =>
      obn (oob σ v5 1) fun a7 =>
      oin (call 236 [va_rf v5] σ) fun r11 s9 =>
      if r11 ≤ x2 then
        ogd (onar .boolean x1) (some (some (.int x1), s9))
      else
        obn (ovr (ofd s9 x0 7 18)) fun v14 =>
        obn (oob s9 v14 1) fun a16 =>
        orn (call 234 [va_rf v14, .int x2] s9) fun r20 s18 =>
        ogd (ocs s18 r20 7) (
        if x1 = 0 then
          oj_X1_isFormed_89 n call κ (ol_X1_isFormed_28 n call κ f) x0 x2 s18
        else
          obn (ovi (ofd s18 r20 7 0)) fun v23 =>
          if v23 = 403 then
            obn (ovr (ofd s18 r20 7 19)) fun v26 =>
            obn (oob s18 v26 11) fun a28 =>
            oin (call 38 [va_rf v26] s18) fun r32 s30 =>
            if r32 = 0 then
              oj_X1_isFormed_89 n call κ (ol_X1_isFormed_28 n call κ f) x0 x2 s30
            else
              oj_X1_isFormed_85 n call κ (ol_X1_isFormed_28 n call κ f) x0 x2 s30
          else
            oj_X1_isFormed_85 n call κ (ol_X1_isFormed_28 n call κ f) x0 x2 s18)
    else
      ogd (onar .boolean x1) (some (some (.int x1), σ))
def oj_X1_isFormed_25 (n : Nat) (call : oCl) (κ : oKv) (x0 : Option Nat) (t0 : Int32) (σ : oSt) : oRs :=
  ol_X1_isFormed_28 n call κ n x0 t0 0 σ
def oj_X1_isFormed_20 (n : Nat) (call : oCl) (κ : oKv) (x0 : Option Nat) (σ : oSt) : oRs :=
  oj_X1_isFormed_25 n call κ x0 1 σ
def ob_X1_isFormed (n : Nat) (call : oCl) (κ : oKv) (x0 : Option Nat) (σ : oSt) : oRs :=
  obn (ovi (ofd σ x0 7 0)) fun v1 =>
  if v1 = 403 then
    obn (ovr (ofd σ x0 7 19)) fun v4 =>
    obn (oob σ v4 11) fun a6 =>
    oin (call 38 [va_rf v4] σ) fun r10 s8 =>
    if r10 = 0 then
      oj_X1_isFormed_25 n call κ x0 0 s8
    else
      oj_X1_isFormed_20 n call κ x0 s8
  else
    oj_X1_isFormed_20 n call κ x0 σ
set_option maxHeartbeats 4000000 in
theorem qj_X1_isFormed_90 {κ : oKv} {n : Nat} {call : oCl} {kc : Nat → List Value → oSt → Option Value × oSt → Prop} {v : Option Value × oSt} {X : Nat → zLv → List Value → oSt → Prop} (hX : oSem RX1 cX1_isFormed 4 1 (some .boolean) κ kc v X) (hc : ∀ j av s w, call j av s = some w → kc j av s w) {k28 : Option Nat → Int32 → Int32 → oSt → oRs} (hk28 : ∀ (x0 : Option Nat) (x1 : Int32) (x2 : Int32) (s : oSt), k28 x0 x1 x2 s = some v → X 28 [some (va_rf x0), some (.int x1), some (.int x2), none] [] s) {x0 : Option Nat} {x2 : Int32} {t0 : Int32} {σ : oSt} (h : oj_X1_isFormed_90 n call κ k28 x0 x2 t0 σ = some v) : X 90 [some (va_rf x0), none, some (.int x2), none] [.int t0] σ := by
  rw [oj_X1_isFormed_90] at h
  refine os_istore_n hX dX1_isFormed_90 rfl (by decide) (ozlo (i := 0) (r := x0) rfl) ?_
  dsimp only [List.set]
  refine os_iinc (v := x2 + 1) hX dX1_isFormed_91 rfl rfl (by decide) rfl ?_
  dsimp only [List.set]
  refine os_goto (tgt := 28) hX dX1_isFormed_94 (by decide) ?_
  exact hk28 _ _ _ _ h
set_option maxHeartbeats 4000000 in
theorem qj_X1_isFormed_89 {κ : oKv} {n : Nat} {call : oCl} {kc : Nat → List Value → oSt → Option Value × oSt → Prop} {v : Option Value × oSt} {X : Nat → zLv → List Value → oSt → Prop} (hX : oSem RX1 cX1_isFormed 4 1 (some .boolean) κ kc v X) (hc : ∀ j av s w, call j av s = some w → kc j av s w) {k28 : Option Nat → Int32 → Int32 → oSt → oRs} (hk28 : ∀ (x0 : Option Nat) (x1 : Int32) (x2 : Int32) (s : oSt), k28 x0 x1 x2 s = some v → X 28 [some (va_rf x0), some (.int x1), some (.int x2), none] [] s) {x0 : Option Nat} {x2 : Int32} {σ : oSt} (h : oj_X1_isFormed_89 n call κ k28 x0 x2 σ = some v) : X 89 [some (va_rf x0), none, some (.int x2), none] [] σ := by
  rw [oj_X1_isFormed_89] at h
  refine os_iconst (v := 0) hX dX1_isFormed_89 (by decide) ?_
  exact qj_X1_isFormed_90 hX hc hk28 h
set_option maxHeartbeats 4000000 in
theorem qj_X1_isFormed_85 {κ : oKv} {n : Nat} {call : oCl} {kc : Nat → List Value → oSt → Option Value × oSt → Prop} {v : Option Value × oSt} {X : Nat → zLv → List Value → oSt → Prop} (hX : oSem RX1 cX1_isFormed 4 1 (some .boolean) κ kc v X) (hc : ∀ j av s w, call j av s = some w → kc j av s w) {k28 : Option Nat → Int32 → Int32 → oSt → oRs} (hk28 : ∀ (x0 : Option Nat) (x1 : Int32) (x2 : Int32) (s : oSt), k28 x0 x1 x2 s = some v → X 28 [some (va_rf x0), some (.int x1), some (.int x2), none] [] s) {x0 : Option Nat} {x2 : Int32} {σ : oSt} (h : oj_X1_isFormed_85 n call κ k28 x0 x2 σ = some v) : X 85 [some (va_rf x0), none, some (.int x2), none] [] σ := by
  rw [oj_X1_isFormed_85] at h
  refine os_iconst (v := 1) hX dX1_isFormed_85 (by decide) ?_
  refine os_goto (tgt := 90) hX dX1_isFormed_86 (by decide) ?_
  exact qj_X1_isFormed_90 hX hc hk28 h
set_option maxHeartbeats 4000000 in
theorem ql_X1_isFormed_28 {κ : oKv} {n : Nat} {call : oCl} {kc : Nat → List Value → oSt → Option Value × oSt → Prop} {v : Option Value × oSt} {X : Nat → zLv → List Value → oSt → Prop} (hX : oSem RX1 cX1_isFormed 4 1 (some .boolean) κ kc v X) (hc : ∀ j av s w, call j av s = some w → kc j av s w) : ∀ (f : Nat) (x0 : Option Nat) (x1 : Int32) (x2 : Int32) (σ : oSt), ol_X1_isFormed_28 n call κ f x0 x1 x2 σ = some v → X 28 [some (va_rf x0), some (.int x1), some (.int x2), none] [] σ := by
  intro f
  induction f with
  | zero => intro x0 x1 x2 σ h; cases h
  | succ f hk28 =>
    intro x0 x1 x2 σ h
    rw [ol_X1_isFormed_28] at h
    refine os_aload_n (r := x0) hX dX1_isFormed_28 rfl rfl ?_
    obtain ⟨v1, e2, h⟩ := obn_e h
    refine ow_get (r := x0) hX dX1_isFormed_29 oF_RX1_73 (ovi_e e2) ?_
    refine os_sipush (v := 302) hX dX1_isFormed_32 (by decide) ?_
    refine os_icmp_ne (tgt := 97) hX dX1_isFormed_35 (by decide) (fun c3 => ?_) (fun c3 => ?_)
    · rw [if_neg c3] at h
      refine os_iload_n hX dX1_isFormed_97 rfl rfl ?_
      obtain ⟨b4, h⟩ := ogd_e h
      exact os_nret (ty := .boolean) hX dX1_isFormed_98 rfl rfl (znz_ok b4) (Option.some.inj h)
    · rw [if_pos c3] at h
      refine os_iload_n hX dX1_isFormed_38 rfl rfl ?_
      refine os_aload_n (r := x0) hX dX1_isFormed_39 rfl rfl ?_
      obtain ⟨v5, e6, h⟩ := obn_e h
      refine ow_get (r := x0) hX dX1_isFormed_40 oF_RX1_86 (ovr_e e6) ?_
      obtain ⟨a7, e8, h⟩ := obn_e h
      obtain ⟨r11, s9, e10, h⟩ := oin_e h
      refine oc_RX1_90 (rb := v5)  hX dX1_isFormed_43 (Nat.le_of_ble_eq_true rfl) e8 (hc _ _ _ _ e10) ?_
      refine os_icmp_ge (tgt := 97) hX dX1_isFormed_46 (by decide) (fun c12 => ?_) (fun c12 => ?_)
      · rw [if_pos c12] at h
        refine os_iload_n hX dX1_isFormed_97 rfl rfl ?_
        obtain ⟨b13, h⟩ := ogd_e h
        exact os_nret (ty := .boolean) hX dX1_isFormed_98 rfl rfl (znz_ok b13) (Option.some.inj h)
      · rw [if_neg c12] at h
        refine os_aload_n (r := x0) hX dX1_isFormed_49 rfl rfl ?_
        obtain ⟨v14, e15, h⟩ := obn_e h
        refine ow_get (r := x0) hX dX1_isFormed_50 oF_RX1_86 (ovr_e e15) ?_
        refine os_iload_n hX dX1_isFormed_53 rfl rfl ?_
        obtain ⟨a16, e17, h⟩ := obn_e h
        obtain ⟨r20, s18, e19, h⟩ := orn_e h
        refine oc_RX1_96 (rb := v14) (a1 := .int x2) hX dX1_isFormed_54 (Nat.le_of_ble_eq_true rfl) e17 (hc _ _ _ _ e19) ?_
        obtain ⟨b21, h⟩ := ogd_e h
        refine ow_cs (r := r20) hX dX1_isFormed_57 oK_RX1_18 b21 ?_
        refine os_astore_n (r := r20) hX dX1_isFormed_60 rfl (by decide) rfl ?_
        dsimp only [List.set]
        refine os_iload_n hX dX1_isFormed_61 rfl rfl ?_
        refine os_if_eq (tgt := 89) hX dX1_isFormed_62 (by decide) (fun c22 => ?_) (fun c22 => ?_)
        · rw [if_pos c22] at h
          refine os_weak hX (lw := [some (va_rf x0), none, some (.int x2), none]) ⟨rfl, rfl, trivial⟩ ?_
          exact qj_X1_isFormed_89 hX hc hk28 h
        · rw [if_neg c22] at h
          refine os_aload_n (r := r20) hX dX1_isFormed_65 rfl rfl ?_
          obtain ⟨v23, e24, h⟩ := obn_e h
          refine ow_get (r := r20) hX dX1_isFormed_66 oF_RX1_73 (ovi_e e24) ?_
          refine os_sipush (v := 403) hX dX1_isFormed_69 (by decide) ?_
          refine os_icmp_ne (tgt := 85) hX dX1_isFormed_72 (by decide) (fun c25 => ?_) (fun c25 => ?_)
          · rw [if_neg c25] at h
            refine os_weak hX (lw := [some (va_rf x0), none, some (.int x2), none]) ⟨rfl, rfl, trivial⟩ ?_
            exact qj_X1_isFormed_85 hX hc hk28 h
          · rw [if_pos c25] at h
            refine os_aload_n (r := r20) hX dX1_isFormed_75 rfl rfl ?_
            obtain ⟨v26, e27, h⟩ := obn_e h
            refine ow_get (r := r20) hX dX1_isFormed_76 oF_RX1_76 (ovr_e e27) ?_
            obtain ⟨a28, e29, h⟩ := obn_e h
            obtain ⟨r32, s30, e31, h⟩ := oin_e h
            refine oc_RX1_80 (rb := v26)  hX dX1_isFormed_79 (Nat.le_of_ble_eq_true rfl) e29 (hc _ _ _ _ e31) ?_
            refine os_if_eq (tgt := 89) hX dX1_isFormed_82 (by decide) (fun c33 => ?_) (fun c33 => ?_)
            · rw [if_pos c33] at h
              refine os_weak hX (lw := [some (va_rf x0), none, some (.int x2), none]) ⟨rfl, rfl, trivial⟩ ?_
              exact qj_X1_isFormed_89 hX hc hk28 h
            · rw [if_neg c33] at h
              refine os_weak hX (lw := [some (va_rf x0), none, some (.int x2), none]) ⟨rfl, rfl, trivial⟩ ?_
              exact qj_X1_isFormed_85 hX hc hk28 h
set_option maxHeartbeats 4000000 in
theorem qj_X1_isFormed_25 {κ : oKv} {n : Nat} {call : oCl} {kc : Nat → List Value → oSt → Option Value × oSt → Prop} {v : Option Value × oSt} {X : Nat → zLv → List Value → oSt → Prop} (hX : oSem RX1 cX1_isFormed 4 1 (some .boolean) κ kc v X) (hc : ∀ j av s w, call j av s = some w → kc j av s w) {x0 : Option Nat} {t0 : Int32} {σ : oSt} (h : oj_X1_isFormed_25 n call κ x0 t0 σ = some v) : X 25 [some (va_rf x0), none, none, none] [.int t0] σ := by
  rw [oj_X1_isFormed_25] at h
  refine os_istore_n hX dX1_isFormed_25 rfl (by decide) (ozlo (i := 0) (r := x0) rfl) ?_
  dsimp only [List.set]
  refine os_iconst (v := 0) hX dX1_isFormed_26 (by decide) ?_
  refine os_istore_n hX dX1_isFormed_27 rfl (by decide) rfl ?_
  dsimp only [List.set]
  exact ql_X1_isFormed_28 hX hc n _ _ _ _ h
set_option maxHeartbeats 4000000 in
theorem qj_X1_isFormed_20 {κ : oKv} {n : Nat} {call : oCl} {kc : Nat → List Value → oSt → Option Value × oSt → Prop} {v : Option Value × oSt} {X : Nat → zLv → List Value → oSt → Prop} (hX : oSem RX1 cX1_isFormed 4 1 (some .boolean) κ kc v X) (hc : ∀ j av s w, call j av s = some w → kc j av s w) {x0 : Option Nat} {σ : oSt} (h : oj_X1_isFormed_20 n call κ x0 σ = some v) : X 20 [some (va_rf x0), none, none, none] [] σ := by
  rw [oj_X1_isFormed_20] at h
  refine os_iconst (v := 1) hX dX1_isFormed_20 (by decide) ?_
  refine os_goto (tgt := 25) hX dX1_isFormed_21 (by decide) ?_
  exact qj_X1_isFormed_25 hX hc h
set_option maxHeartbeats 4000000 in
theorem qb_X1_isFormed {κ : oKv} {n : Nat} {call : oCl} {kc : Nat → List Value → oSt → Option Value × oSt → Prop} {v : Option Value × oSt} {X : Nat → zLv → List Value → oSt → Prop} (hX : oSem RX1 cX1_isFormed 4 1 (some .boolean) κ kc v X) (hc : ∀ j av s w, call j av s = some w → kc j av s w) {x0 : Option Nat} {σ : oSt} (h : ob_X1_isFormed n call κ x0 σ = some v) : X 0 [some (va_rf x0), none, none, none] [] σ := by
  rw [ob_X1_isFormed] at h
  refine os_aload_n (r := x0) hX dX1_isFormed_0 rfl rfl ?_
  obtain ⟨v1, e2, h⟩ := obn_e h
  refine ow_get (r := x0) hX dX1_isFormed_1 oF_RX1_73 (ovi_e e2) ?_
  refine os_sipush (v := 403) hX dX1_isFormed_4 (by decide) ?_
  refine os_icmp_ne (tgt := 20) hX dX1_isFormed_7 (by decide) (fun c3 => ?_) (fun c3 => ?_)
  · rw [if_neg c3] at h
    exact qj_X1_isFormed_20 hX hc h
  · rw [if_pos c3] at h
    refine os_aload_n (r := x0) hX dX1_isFormed_10 rfl rfl ?_
    obtain ⟨v4, e5, h⟩ := obn_e h
    refine ow_get (r := x0) hX dX1_isFormed_11 oF_RX1_76 (ovr_e e5) ?_
    obtain ⟨a6, e7, h⟩ := obn_e h
    obtain ⟨r10, s8, e9, h⟩ := oin_e h
    refine oc_RX1_80 (rb := v4)  hX dX1_isFormed_14 (Nat.le_of_ble_eq_true rfl) e7 (hc _ _ _ _ e9) ?_
    refine os_if_eq (tgt := 24) hX dX1_isFormed_17 (by decide) (fun c11 => ?_) (fun c11 => ?_)
    · rw [if_pos c11] at h
      refine os_iconst (v := 0) hX dX1_isFormed_24 (by decide) ?_
      exact qj_X1_isFormed_25 hX hc h
    · rw [if_neg c11] at h
      exact qj_X1_isFormed_20 hX hc h
def ob_X6_makeRoom (n : Nat) (call : oCl) (κ : oKv) (x0 : Option Nat) (x1 : Int32) (σ : oSt) : oRs :=
  obn (ovr (ofd σ x0 8 0)) fun v1 =>
  obn (oln2 κ σ v1) fun v3 =>
  if x1 ≤ v3 then
    some (none, σ)
  else
    obn (ovr (ofd σ x0 8 0)) fun v6 =>
    orn (call 239 [va_rf v6, .int (2 * x1)] σ) fun r10 s8 =>
    obn (opf s8 x0 8 0 (va_rf r10)) fun s11 =>
    some (none, s11)
set_option maxHeartbeats 4000000 in
theorem qb_X6_makeRoom {κ : oKv} {n : Nat} {call : oCl} {kc : Nat → List Value → oSt → Option Value × oSt → Prop} {v : Option Value × oSt} {X : Nat → zLv → List Value → oSt → Prop} (hX : oSem RX6 cX6_makeRoom 2 0 none κ kc v X) (hc : ∀ j av s w, call j av s = some w → kc j av s w) {x0 : Option Nat} {x1 : Int32} {σ : oSt} (h : ob_X6_makeRoom n call κ x0 x1 σ = some v) : X 0 [some (va_rf x0), some (.int x1)] [] σ := by
  rw [ob_X6_makeRoom] at h
  refine os_aload_n (r := x0) hX dX6_makeRoom_0 rfl rfl ?_
  obtain ⟨v1, e2, h⟩ := obn_e h
  refine ow_get (r := x0) hX dX6_makeRoom_1 oF_RX6_7 (ovr_e e2) ?_
  obtain ⟨v3, e4, h⟩ := obn_e h
  refine ow_len (r := v1) hX dX6_makeRoom_4 e4 ?_
  refine os_iload_n hX dX6_makeRoom_5 rfl rfl ?_
  refine os_icmp_ge (tgt := 23) hX dX6_makeRoom_6 (by decide) (fun c5 => ?_) (fun c5 => ?_)
  · rw [if_pos c5] at h
    exact os_vret hX dX6_makeRoom_23 rfl (Option.some.inj h)
  · rw [if_neg c5] at h
    refine os_aload_n (r := x0) hX dX6_makeRoom_9 rfl rfl ?_
    refine os_aload_n (r := x0) hX dX6_makeRoom_10 rfl rfl ?_
    obtain ⟨v6, e7, h⟩ := obn_e h
    refine ow_get (r := x0) hX dX6_makeRoom_11 oF_RX6_7 (ovr_e e7) ?_
    refine os_iconst (v := 2) hX dX6_makeRoom_14 (by decide) ?_
    refine os_iload_n hX dX6_makeRoom_15 rfl rfl ?_
    refine os_imul hX dX6_makeRoom_16 ?_
    obtain ⟨r10, s8, e9, h⟩ := orn_e h
    refine oc_RX6_33 (a1 := va_rf v6) (a2 := .int (2 * x1)) hX dX6_makeRoom_17 (by simp only [List.map_cons, List.map_nil, List.sum_cons, List.sum_nil, ocat]; exact Nat.le_of_ble_eq_true rfl) (hc _ _ _ _ e9) ?_
    obtain ⟨s11, e12, h⟩ := obn_e h
    refine ow_put (r := x0) (x := va_rf r10) hX dX6_makeRoom_20 oF_RX6_7 (by decide) (orf_n (Or.inr ⟨_, oT_8_0⟩) r10) e12 ?_
    exact os_vret hX dX6_makeRoom_23 rfl (Option.some.inj h)
def ol_X6_reset_67 (n : Nat) (call : oCl) (κ : oKv) : Nat → Option Nat → Int32 → oSt → oRs
  | 0, _, _, _ => none
  | f + 1, x0, x2, σ =>
    obn (ovi (ofd σ x0 8 1)) fun v1 =>
    if v1 ≤ x2 then
      some (none, σ)
    else
      obn (ovr (ofd σ x0 8 0)) fun v4 =>
      obn (ovi (ofd σ x0 8 1)) fun v6 =>
      obn (osj σ v4 ((x2 * v6) + x2) 0) fun s8 =>
      ol_X6_reset_67 n call κ f x0 (x2 + 1) s8
def ol_X6_reset_37 (n : Nat) (call : oCl) (κ : oKv) : Nat → Option Nat → Int32 → oSt → oRs
  | 0, _, _, _ => none
  | f + 1, x0, x2, σ =>
    obn (ovi (ofd σ x0 8 1)) fun v1 =>
    obn (ovi (ofd σ x0 8 1)) fun v3 =>
    if (v1 * v3) ≤ x2 then
      ol_X6_reset_67 n call κ n x0 0 σ
    else
      obn (ovr (ofd σ x0 8 0)) fun v6 =>
      obn (osj σ v6 x2 1152921504606846976) fun s8 =>
      ol_X6_reset_37 n call κ f x0 (x2 + 1) s8
def ob_X6_reset (n : Nat) (call : oCl) (κ : oKv) (x0 : Option Nat) (x1 : Int32) (σ : oSt) : oRs :=
  obn (opf σ x0 8 1 (.int (2 * x1))) fun s1 =>
  obn (opf s1 x0 8 2 (.int 0)) fun s3 =>
  obn (opf s3 x0 8 3 (.int 0)) fun s5 =>
  obn (opf s5 x0 8 4 (.int 0)) fun s7 =>
  obn (ovi (ofd s7 x0 8 1)) fun v9 =>
  obn (ovi (ofd s7 x0 8 1)) fun v11 =>
  obn (oob s7 x0 8) fun a13 =>
  ocv (call 40 [va_rf x0, .int (v9 * v11)] s7) fun s15 =>
  ol_X6_reset_37 n call κ n x0 0 s15
set_option maxHeartbeats 4000000 in
theorem ql_X6_reset_67 {κ : oKv} {n : Nat} {call : oCl} {kc : Nat → List Value → oSt → Option Value × oSt → Prop} {v : Option Value × oSt} {X : Nat → zLv → List Value → oSt → Prop} (hX : oSem RX6 cX6_reset 3 0 none κ kc v X) (hc : ∀ j av s w, call j av s = some w → kc j av s w) : ∀ (f : Nat) (x0 : Option Nat) (x2 : Int32) (σ : oSt), ol_X6_reset_67 n call κ f x0 x2 σ = some v → X 67 [some (va_rf x0), none, some (.int x2)] [] σ := by
  intro f
  induction f with
  | zero => intro x0 x2 σ h; cases h
  | succ f hk67 =>
    intro x0 x2 σ h
    rw [ol_X6_reset_67] at h
    refine os_iload_n hX dX6_reset_67 rfl rfl ?_
    refine os_aload_n (r := x0) hX dX6_reset_68 rfl rfl ?_
    obtain ⟨v1, e2, h⟩ := obn_e h
    refine ow_get (r := x0) hX dX6_reset_69 oF_RX6_13 (ovi_e e2) ?_
    refine os_icmp_ge (tgt := 95) hX dX6_reset_72 (by decide) (fun c3 => ?_) (fun c3 => ?_)
    · rw [if_pos c3] at h
      exact os_vret hX dX6_reset_95 rfl (Option.some.inj h)
    · rw [if_neg c3] at h
      refine os_aload_n (r := x0) hX dX6_reset_75 rfl rfl ?_
      obtain ⟨v4, e5, h⟩ := obn_e h
      refine ow_get (r := x0) hX dX6_reset_76 oF_RX6_7 (ovr_e e5) ?_
      refine os_iload_n hX dX6_reset_79 rfl rfl ?_
      refine os_aload_n (r := x0) hX dX6_reset_80 rfl rfl ?_
      obtain ⟨v6, e7, h⟩ := obn_e h
      refine ow_get (r := x0) hX dX6_reset_81 oF_RX6_13 (ovi_e e7) ?_
      refine os_imul hX dX6_reset_84 ?_
      refine os_iload_n hX dX6_reset_85 rfl rfl ?_
      refine os_iadd hX dX6_reset_86 ?_
      refine os_lconst (v := 0) hX dX6_reset_87 (by decide) ?_
      obtain ⟨s8, e9, h⟩ := obn_e h
      refine ow_sj (r := v4) (i := ((x2 * v6) + x2)) (x := 0) hX dX6_reset_88 e9 ?_
      refine os_iinc (v := x2 + 1) hX dX6_reset_89 rfl rfl (by decide) rfl ?_
      dsimp only [List.set]
      refine os_goto (tgt := 67) hX dX6_reset_92 (by decide) ?_
      exact hk67 _ _ _ h
set_option maxHeartbeats 4000000 in
theorem ql_X6_reset_37 {κ : oKv} {n : Nat} {call : oCl} {kc : Nat → List Value → oSt → Option Value × oSt → Prop} {v : Option Value × oSt} {X : Nat → zLv → List Value → oSt → Prop} (hX : oSem RX6 cX6_reset 3 0 none κ kc v X) (hc : ∀ j av s w, call j av s = some w → kc j av s w) : ∀ (f : Nat) (x0 : Option Nat) (x2 : Int32) (σ : oSt), ol_X6_reset_37 n call κ f x0 x2 σ = some v → X 37 [some (va_rf x0), none, some (.int x2)] [] σ := by
  intro f
  induction f with
  | zero => intro x0 x2 σ h; cases h
  | succ f hk37 =>
    intro x0 x2 σ h
    rw [ol_X6_reset_37] at h
    refine os_iload_n hX dX6_reset_37 rfl rfl ?_
    refine os_aload_n (r := x0) hX dX6_reset_38 rfl rfl ?_
    obtain ⟨v1, e2, h⟩ := obn_e h
    refine ow_get (r := x0) hX dX6_reset_39 oF_RX6_13 (ovi_e e2) ?_
    refine os_aload_n (r := x0) hX dX6_reset_42 rfl rfl ?_
    obtain ⟨v3, e4, h⟩ := obn_e h
    refine ow_get (r := x0) hX dX6_reset_43 oF_RX6_13 (ovi_e e4) ?_
    refine os_imul hX dX6_reset_46 ?_
    refine os_icmp_ge (tgt := 65) hX dX6_reset_47 (by decide) (fun c5 => ?_) (fun c5 => ?_)
    · rw [if_pos c5] at h
      refine os_iconst (v := 0) hX dX6_reset_65 (by decide) ?_
      refine os_istore_n hX dX6_reset_66 rfl (by decide) rfl ?_
      dsimp only [List.set]
      exact ql_X6_reset_67 hX hc n _ _ _ h
    · rw [if_neg c5] at h
      refine os_aload_n (r := x0) hX dX6_reset_50 rfl rfl ?_
      obtain ⟨v6, e7, h⟩ := obn_e h
      refine ow_get (r := x0) hX dX6_reset_51 oF_RX6_7 (ovr_e e7) ?_
      refine os_iload_n hX dX6_reset_54 rfl rfl ?_
      refine os_ldc2 (x := 1152921504606846976) hX dX6_reset_55 oCL_RX6_31 ?_
      obtain ⟨s8, e9, h⟩ := obn_e h
      refine ow_sj (r := v6) (i := x2) (x := 1152921504606846976) hX dX6_reset_58 e9 ?_
      refine os_iinc (v := x2 + 1) hX dX6_reset_59 rfl rfl (by decide) rfl ?_
      dsimp only [List.set]
      refine os_goto (tgt := 37) hX dX6_reset_62 (by decide) ?_
      exact hk37 _ _ _ h
set_option maxHeartbeats 4000000 in
theorem qb_X6_reset {κ : oKv} {n : Nat} {call : oCl} {kc : Nat → List Value → oSt → Option Value × oSt → Prop} {v : Option Value × oSt} {X : Nat → zLv → List Value → oSt → Prop} (hX : oSem RX6 cX6_reset 3 0 none κ kc v X) (hc : ∀ j av s w, call j av s = some w → kc j av s w) {x0 : Option Nat} {x1 : Int32} {σ : oSt} (h : ob_X6_reset n call κ x0 x1 σ = some v) : X 0 [some (va_rf x0), some (.int x1), none] [] σ := by
  rw [ob_X6_reset] at h
  refine os_aload_n (r := x0) hX dX6_reset_0 rfl rfl ?_
  refine os_iconst (v := 2) hX dX6_reset_1 (by decide) ?_
  refine os_iload_n hX dX6_reset_2 rfl rfl ?_
  refine os_imul hX dX6_reset_3 ?_
  obtain ⟨s1, e2, h⟩ := obn_e h
  refine ow_put (r := x0) (x := .int (2 * x1)) hX dX6_reset_4 oF_RX6_13 (by decide) (opn_I oT_8_1) e2 ?_
  refine os_aload_n (r := x0) hX dX6_reset_7 rfl rfl ?_
  refine os_iconst (v := 0) hX dX6_reset_8 (by decide) ?_
  obtain ⟨s3, e4, h⟩ := obn_e h
  refine ow_put (r := x0) (x := .int 0) hX dX6_reset_9 oF_RX6_17 (by decide) (opn_I oT_8_2) e4 ?_
  refine os_aload_n (r := x0) hX dX6_reset_12 rfl rfl ?_
  refine os_iconst (v := 0) hX dX6_reset_13 (by decide) ?_
  obtain ⟨s5, e6, h⟩ := obn_e h
  refine ow_put (r := x0) (x := .int 0) hX dX6_reset_14 oF_RX6_20 (by decide) (opn_Z oT_8_3 (by decide)) e6 ?_
  refine os_aload_n (r := x0) hX dX6_reset_17 rfl rfl ?_
  refine os_iconst (v := 0) hX dX6_reset_18 (by decide) ?_
  obtain ⟨s7, e8, h⟩ := obn_e h
  refine ow_put (r := x0) (x := .int 0) hX dX6_reset_19 oF_RX6_24 (by decide) (opn_Z oT_8_4 (by decide)) e8 ?_
  refine os_aload_n (r := x0) hX dX6_reset_22 rfl rfl ?_
  refine os_aload_n (r := x0) hX dX6_reset_23 rfl rfl ?_
  obtain ⟨v9, e10, h⟩ := obn_e h
  refine ow_get (r := x0) hX dX6_reset_24 oF_RX6_13 (ovi_e e10) ?_
  refine os_aload_n (r := x0) hX dX6_reset_27 rfl rfl ?_
  obtain ⟨v11, e12, h⟩ := obn_e h
  refine ow_get (r := x0) hX dX6_reset_28 oF_RX6_13 (ovi_e e12) ?_
  refine os_imul hX dX6_reset_31 ?_
  obtain ⟨a13, e14, h⟩ := obn_e h
  obtain ⟨s15, e16, h⟩ := ocv_e h
  refine oc_RX6_27 (rb := x0) (a1 := .int (v9 * v11)) hX dX6_reset_32 (Nat.le_of_ble_eq_true rfl) e14 (hc _ _ _ _ e16) ?_
  refine os_iconst (v := 0) hX dX6_reset_35 (by decide) ?_
  refine os_istore_n hX dX6_reset_36 rfl (by decide) rfl ?_
  dsimp only [List.set]
  refine os_weak hX (lw := [some (va_rf x0), none, some (.int 0)]) ⟨rfl, rfl, trivial⟩ ?_
  exact ql_X6_reset_37 hX hc n _ _ _ h
def oj_X6_lead_148 (n : Nat) (call : oCl) (κ : oKv) (k16 : Option Nat → Int32 → Int64 → Int32 → Int32 → oSt → oRs) (x0 : Option Nat) (x1 : Int32) (x3 : Int64) (x5 : Int32) (x6 : Int32) (σ : oSt) : oRs :=
  k16 x0 x1 x3 x5 (x6 + 1) σ
def oj_X6_lead_142 (n : Nat) (call : oCl) (κ : oKv) (k16 : Option Nat → Int32 → Int64 → Int32 → Int32 → oSt → oRs) (k53 : Option Nat → Int32 → Int64 → Int32 → Int32 → Int32 → Int64 → Int32 → oSt → oRs) (x0 : Option Nat) (x1 : Int32) (x3 : Int64) (x5 : Int32) (x6 : Int32) (x7 : Int32) (x8 : Int64) (x10 : Int32) (σ : oSt) : oRs :=
  k53 x0 x1 x3 x5 x6 x7 x8 (x10 + 1) σ
def ol_X6_lead_53 (n : Nat) (call : oCl) (κ : oKv) (k16 : Option Nat → Int32 → Int64 → Int32 → Int32 → oSt → oRs) : Nat → Option Nat → Int32 → Int64 → Int32 → Int32 → Int32 → Int64 → Int32 → oSt → oRs
  | 0, _, _, _, _, _, _, _, _, _ => none
  | f + 1, x0, x1, x3, x5, x6, x7, x8, x10, σ =>
    if 0 ≤ (lg_cmp x8 1152921504606846976) then
      oj_X6_lead_148 n call κ k16 x0 x1 x3 x5 x6 σ
    else
      obn (ovi (ofd σ x0 8 1)) fun v2 =>
      if v2 ≤ x10 then
        oj_X6_lead_148 n call κ k16 x0 x1 x3 x5 x6 σ
      else
        obn (ovr (ofd σ x0 8 0)) fun v5 =>
        obn (oaj σ v5 (x5 + x10)) fun v7 =>
        if 0 ≤ (lg_cmp v7 1152921504606846976) then
          oj_X6_lead_142 n call κ k16 (ol_X6_lead_53 n call κ k16 f) x0 x1 x3 x5 x6 x7 x8 x10 σ
        else
          obn (ovr (ofd σ x0 8 0)) fun v10 =>
          obn (oaj σ v10 (x5 + x10)) fun v12 =>
          obn (ovr (ofd σ x0 8 0)) fun v14 =>
          obn (oaj σ v14 (x7 + x10)) fun v16 =>
          if 0 ≤ (lg_cmp ((x8 + x3) + v12) v16) then
            oj_X6_lead_142 n call κ k16 (ol_X6_lead_53 n call κ k16 f) x0 x1 x3 x5 x6 x7 x8 x10 σ
          else
            obn (ovr (ofd σ x0 8 0)) fun v19 =>
            obn (ovr (ofd σ x0 8 0)) fun v21 =>
            obn (oaj σ v21 (x5 + x10)) fun v23 =>
            obn (osj σ v19 (x7 + x10) ((x8 + x3) + v23)) fun s25 =>
            oj_X6_lead_142 n call κ k16 (ol_X6_lead_53 n call κ k16 f) x0 x1 x3 x5 x6 x7 x8 x10 s25
def ol_X6_lead_16 (n : Nat) (call : oCl) (κ : oKv) : Nat → Option Nat → Int32 → Int64 → Int32 → Int32 → oSt → oRs
  | 0, _, _, _, _, _, _ => none
  | f + 1, x0, x1, x3, x5, x6, σ =>
    obn (ovi (ofd σ x0 8 1)) fun v1 =>
    if v1 ≤ x6 then
      some (none, σ)
    else
      obn (ovi (ofd σ x0 8 2)) fun v4 =>
      obn (ovi (ofd σ x0 8 1)) fun v6 =>
      obn (ovr (ofd σ x0 8 0)) fun v8 =>
      obn (oaj σ v8 ((v4 + (x6 * v6)) + x1)) fun v10 =>
      ol_X6_lead_53 n call κ (ol_X6_lead_16 n call κ f) n x0 x1 x3 x5 x6 (v4 + (x6 * v6)) v10 0 σ
def ob_X6_lead (n : Nat) (call : oCl) (κ : oKv) (x0 : Option Nat) (x1 : Int32) (x2 : Int32) (x3 : Int64) (σ : oSt) : oRs :=
  obn (ovi (ofd σ x0 8 2)) fun v1 =>
  obn (ovi (ofd σ x0 8 1)) fun v3 =>
  ol_X6_lead_16 n call κ n x0 x1 x3 (v1 + (x2 * v3)) 0 σ
set_option maxHeartbeats 4000000 in
theorem qj_X6_lead_148 {κ : oKv} {n : Nat} {call : oCl} {kc : Nat → List Value → oSt → Option Value × oSt → Prop} {v : Option Value × oSt} {X : Nat → zLv → List Value → oSt → Prop} (hX : oSem RX6 cX6_lead 11 0 none κ kc v X) (hc : ∀ j av s w, call j av s = some w → kc j av s w) {k16 : Option Nat → Int32 → Int64 → Int32 → Int32 → oSt → oRs} (hk16 : ∀ (x0 : Option Nat) (x1 : Int32) (x3 : Int64) (x5 : Int32) (x6 : Int32) (s : oSt), k16 x0 x1 x3 x5 x6 s = some v → X 16 [some (va_rf x0), some (.int x1), none, some (.long x3), none, some (.int x5), some (.int x6), none, none, none, none] [] s) {x0 : Option Nat} {x1 : Int32} {x3 : Int64} {x5 : Int32} {x6 : Int32} {σ : oSt} (h : oj_X6_lead_148 n call κ k16 x0 x1 x3 x5 x6 σ = some v) : X 148 [some (va_rf x0), some (.int x1), none, some (.long x3), none, some (.int x5), some (.int x6), none, none, none, none] [] σ := by
  rw [oj_X6_lead_148] at h
  refine os_iinc (v := x6 + 1) hX dX6_lead_148 rfl rfl (by decide) rfl ?_
  dsimp only [List.set]
  refine os_goto (tgt := 16) hX dX6_lead_151 (by decide) ?_
  exact hk16 _ _ _ _ _ _ h
set_option maxHeartbeats 4000000 in
theorem qj_X6_lead_142 {κ : oKv} {n : Nat} {call : oCl} {kc : Nat → List Value → oSt → Option Value × oSt → Prop} {v : Option Value × oSt} {X : Nat → zLv → List Value → oSt → Prop} (hX : oSem RX6 cX6_lead 11 0 none κ kc v X) (hc : ∀ j av s w, call j av s = some w → kc j av s w) {k16 : Option Nat → Int32 → Int64 → Int32 → Int32 → oSt → oRs} (hk16 : ∀ (x0 : Option Nat) (x1 : Int32) (x3 : Int64) (x5 : Int32) (x6 : Int32) (s : oSt), k16 x0 x1 x3 x5 x6 s = some v → X 16 [some (va_rf x0), some (.int x1), none, some (.long x3), none, some (.int x5), some (.int x6), none, none, none, none] [] s) {k53 : Option Nat → Int32 → Int64 → Int32 → Int32 → Int32 → Int64 → Int32 → oSt → oRs} (hk53 : ∀ (x0 : Option Nat) (x1 : Int32) (x3 : Int64) (x5 : Int32) (x6 : Int32) (x7 : Int32) (x8 : Int64) (x10 : Int32) (s : oSt), k53 x0 x1 x3 x5 x6 x7 x8 x10 s = some v → X 53 [some (va_rf x0), some (.int x1), none, some (.long x3), none, some (.int x5), some (.int x6), some (.int x7), some (.long x8), none, some (.int x10)] [] s) {x0 : Option Nat} {x1 : Int32} {x3 : Int64} {x5 : Int32} {x6 : Int32} {x7 : Int32} {x8 : Int64} {x10 : Int32} {σ : oSt} (h : oj_X6_lead_142 n call κ k16 k53 x0 x1 x3 x5 x6 x7 x8 x10 σ = some v) : X 142 [some (va_rf x0), some (.int x1), none, some (.long x3), none, some (.int x5), some (.int x6), some (.int x7), some (.long x8), none, some (.int x10)] [] σ := by
  rw [oj_X6_lead_142] at h
  refine os_iinc (v := x10 + 1) hX dX6_lead_142 rfl rfl (by decide) rfl ?_
  dsimp only [List.set]
  refine os_goto (tgt := 53) hX dX6_lead_145 (by decide) ?_
  exact hk53 _ _ _ _ _ _ _ _ _ h
set_option maxHeartbeats 4000000 in
theorem ql_X6_lead_53 {κ : oKv} {n : Nat} {call : oCl} {kc : Nat → List Value → oSt → Option Value × oSt → Prop} {v : Option Value × oSt} {X : Nat → zLv → List Value → oSt → Prop} (hX : oSem RX6 cX6_lead 11 0 none κ kc v X) (hc : ∀ j av s w, call j av s = some w → kc j av s w) {k16 : Option Nat → Int32 → Int64 → Int32 → Int32 → oSt → oRs} (hk16 : ∀ (x0 : Option Nat) (x1 : Int32) (x3 : Int64) (x5 : Int32) (x6 : Int32) (s : oSt), k16 x0 x1 x3 x5 x6 s = some v → X 16 [some (va_rf x0), some (.int x1), none, some (.long x3), none, some (.int x5), some (.int x6), none, none, none, none] [] s) : ∀ (f : Nat) (x0 : Option Nat) (x1 : Int32) (x3 : Int64) (x5 : Int32) (x6 : Int32) (x7 : Int32) (x8 : Int64) (x10 : Int32) (σ : oSt), ol_X6_lead_53 n call κ k16 f x0 x1 x3 x5 x6 x7 x8 x10 σ = some v → X 53 [some (va_rf x0), some (.int x1), none, some (.long x3), none, some (.int x5), some (.int x6), some (.int x7), some (.long x8), none, some (.int x10)] [] σ := by
  intro f
  induction f with
  | zero => intro x0 x1 x3 x5 x6 x7 x8 x10 σ h; cases h
  | succ f hk53 =>
    intro x0 x1 x3 x5 x6 x7 x8 x10 σ h
    rw [ol_X6_lead_53] at h
    refine os_lload hX dX6_lead_53 rfl ?_
    refine os_ldc2 (x := 1152921504606846976) hX dX6_lead_55 oCL_RX6_31 ?_
    refine os_lcmp hX dX6_lead_58 ?_
    refine os_if_ge (tgt := 148) hX dX6_lead_59 (by decide) (fun c1 => ?_) (fun c1 => ?_)
    · rw [if_pos c1] at h
      refine os_weak hX (lw := [some (va_rf x0), some (.int x1), none, some (.long x3), none, some (.int x5), some (.int x6), none, none, none, none]) ⟨rfl, rfl, rfl, rfl, rfl, trivial⟩ ?_
      exact qj_X6_lead_148 hX hc hk16 h
    · rw [if_neg c1] at h
      refine os_iload hX dX6_lead_62 rfl ?_
      refine os_aload_n (r := x0) hX dX6_lead_64 rfl rfl ?_
      obtain ⟨v2, e3, h⟩ := obn_e h
      refine ow_get (r := x0) hX dX6_lead_65 oF_RX6_13 (ovi_e e3) ?_
      refine os_icmp_ge (tgt := 148) hX dX6_lead_68 (by decide) (fun c4 => ?_) (fun c4 => ?_)
      · rw [if_pos c4] at h
        refine os_weak hX (lw := [some (va_rf x0), some (.int x1), none, some (.long x3), none, some (.int x5), some (.int x6), none, none, none, none]) ⟨rfl, rfl, rfl, rfl, rfl, trivial⟩ ?_
        exact qj_X6_lead_148 hX hc hk16 h
      · rw [if_neg c4] at h
        refine os_aload_n (r := x0) hX dX6_lead_71 rfl rfl ?_
        obtain ⟨v5, e6, h⟩ := obn_e h
        refine ow_get (r := x0) hX dX6_lead_72 oF_RX6_7 (ovr_e e6) ?_
        refine os_iload hX dX6_lead_75 rfl ?_
        refine os_iload hX dX6_lead_77 rfl ?_
        refine os_iadd hX dX6_lead_79 ?_
        obtain ⟨v7, e8, h⟩ := obn_e h
        refine ow_aj (r := v5) (i := (x5 + x10)) hX dX6_lead_80 e8 ?_
        refine os_ldc2 (x := 1152921504606846976) hX dX6_lead_81 oCL_RX6_31 ?_
        refine os_lcmp hX dX6_lead_84 ?_
        refine os_if_ge (tgt := 142) hX dX6_lead_85 (by decide) (fun c9 => ?_) (fun c9 => ?_)
        · rw [if_pos c9] at h
          exact qj_X6_lead_142 hX hc hk16 hk53 h
        · rw [if_neg c9] at h
          refine os_lload hX dX6_lead_88 rfl ?_
          refine os_lload_n hX dX6_lead_90 rfl rfl ?_
          refine os_ladd hX dX6_lead_91 ?_
          refine os_aload_n (r := x0) hX dX6_lead_92 rfl rfl ?_
          obtain ⟨v10, e11, h⟩ := obn_e h
          refine ow_get (r := x0) hX dX6_lead_93 oF_RX6_7 (ovr_e e11) ?_
          refine os_iload hX dX6_lead_96 rfl ?_
          refine os_iload hX dX6_lead_98 rfl ?_
          refine os_iadd hX dX6_lead_100 ?_
          obtain ⟨v12, e13, h⟩ := obn_e h
          refine ow_aj (r := v10) (i := (x5 + x10)) hX dX6_lead_101 e13 ?_
          refine os_ladd hX dX6_lead_102 ?_
          refine os_aload_n (r := x0) hX dX6_lead_103 rfl rfl ?_
          obtain ⟨v14, e15, h⟩ := obn_e h
          refine ow_get (r := x0) hX dX6_lead_104 oF_RX6_7 (ovr_e e15) ?_
          refine os_iload hX dX6_lead_107 rfl ?_
          refine os_iload hX dX6_lead_109 rfl ?_
          refine os_iadd hX dX6_lead_111 ?_
          obtain ⟨v16, e17, h⟩ := obn_e h
          refine ow_aj (r := v14) (i := (x7 + x10)) hX dX6_lead_112 e17 ?_
          refine os_lcmp hX dX6_lead_113 ?_
          refine os_if_ge (tgt := 142) hX dX6_lead_114 (by decide) (fun c18 => ?_) (fun c18 => ?_)
          · rw [if_pos c18] at h
            exact qj_X6_lead_142 hX hc hk16 hk53 h
          · rw [if_neg c18] at h
            refine os_aload_n (r := x0) hX dX6_lead_117 rfl rfl ?_
            obtain ⟨v19, e20, h⟩ := obn_e h
            refine ow_get (r := x0) hX dX6_lead_118 oF_RX6_7 (ovr_e e20) ?_
            refine os_iload hX dX6_lead_121 rfl ?_
            refine os_iload hX dX6_lead_123 rfl ?_
            refine os_iadd hX dX6_lead_125 ?_
            refine os_lload hX dX6_lead_126 rfl ?_
            refine os_lload_n hX dX6_lead_128 rfl rfl ?_
            refine os_ladd hX dX6_lead_129 ?_
            refine os_aload_n (r := x0) hX dX6_lead_130 rfl rfl ?_
            obtain ⟨v21, e22, h⟩ := obn_e h
            refine ow_get (r := x0) hX dX6_lead_131 oF_RX6_7 (ovr_e e22) ?_
            refine os_iload hX dX6_lead_134 rfl ?_
            refine os_iload hX dX6_lead_136 rfl ?_
            refine os_iadd hX dX6_lead_138 ?_
            obtain ⟨v23, e24, h⟩ := obn_e h
            refine ow_aj (r := v21) (i := (x5 + x10)) hX dX6_lead_139 e24 ?_
            refine os_ladd hX dX6_lead_140 ?_
            obtain ⟨s25, e26, h⟩ := obn_e h
            refine ow_sj (r := v19) (i := (x7 + x10)) (x := ((x8 + x3) + v23)) hX dX6_lead_141 e26 ?_
            exact qj_X6_lead_142 hX hc hk16 hk53 h
set_option maxHeartbeats 4000000 in
theorem ql_X6_lead_16 {κ : oKv} {n : Nat} {call : oCl} {kc : Nat → List Value → oSt → Option Value × oSt → Prop} {v : Option Value × oSt} {X : Nat → zLv → List Value → oSt → Prop} (hX : oSem RX6 cX6_lead 11 0 none κ kc v X) (hc : ∀ j av s w, call j av s = some w → kc j av s w) : ∀ (f : Nat) (x0 : Option Nat) (x1 : Int32) (x3 : Int64) (x5 : Int32) (x6 : Int32) (σ : oSt), ol_X6_lead_16 n call κ f x0 x1 x3 x5 x6 σ = some v → X 16 [some (va_rf x0), some (.int x1), none, some (.long x3), none, some (.int x5), some (.int x6), none, none, none, none] [] σ := by
  intro f
  induction f with
  | zero => intro x0 x1 x3 x5 x6 σ h; cases h
  | succ f hk16 =>
    intro x0 x1 x3 x5 x6 σ h
    rw [ol_X6_lead_16] at h
    refine os_iload hX dX6_lead_16 rfl ?_
    refine os_aload_n (r := x0) hX dX6_lead_18 rfl rfl ?_
    obtain ⟨v1, e2, h⟩ := obn_e h
    refine ow_get (r := x0) hX dX6_lead_19 oF_RX6_13 (ovi_e e2) ?_
    refine os_icmp_ge (tgt := 154) hX dX6_lead_22 (by decide) (fun c3 => ?_) (fun c3 => ?_)
    · rw [if_pos c3] at h
      exact os_vret hX dX6_lead_154 rfl (Option.some.inj h)
    · rw [if_neg c3] at h
      refine os_aload_n (r := x0) hX dX6_lead_25 rfl rfl ?_
      obtain ⟨v4, e5, h⟩ := obn_e h
      refine ow_get (r := x0) hX dX6_lead_26 oF_RX6_17 (ovi_e e5) ?_
      refine os_iload hX dX6_lead_29 rfl ?_
      refine os_aload_n (r := x0) hX dX6_lead_31 rfl rfl ?_
      obtain ⟨v6, e7, h⟩ := obn_e h
      refine ow_get (r := x0) hX dX6_lead_32 oF_RX6_13 (ovi_e e7) ?_
      refine os_imul hX dX6_lead_35 ?_
      refine os_iadd hX dX6_lead_36 ?_
      refine os_istore hX dX6_lead_37 (by decide) rfl ?_
      dsimp only [List.set]
      refine os_aload_n (r := x0) hX dX6_lead_39 rfl rfl ?_
      obtain ⟨v8, e9, h⟩ := obn_e h
      refine ow_get (r := x0) hX dX6_lead_40 oF_RX6_7 (ovr_e e9) ?_
      refine os_iload hX dX6_lead_43 rfl ?_
      refine os_iload_n hX dX6_lead_45 rfl rfl ?_
      refine os_iadd hX dX6_lead_46 ?_
      obtain ⟨v10, e11, h⟩ := obn_e h
      refine ow_aj (r := v8) (i := ((v4 + (x6 * v6)) + x1)) hX dX6_lead_47 e11 ?_
      refine os_lstore hX dX6_lead_48 (by decide) rfl ?_
      dsimp only [List.set]
      refine os_iconst (v := 0) hX dX6_lead_50 (by decide) ?_
      refine os_istore hX dX6_lead_51 (by decide) rfl ?_
      dsimp only [List.set]
      exact ql_X6_lead_53 hX hc hk16 n _ _ _ _ _ _ _ _ _ h
set_option maxHeartbeats 4000000 in
theorem qb_X6_lead {κ : oKv} {n : Nat} {call : oCl} {kc : Nat → List Value → oSt → Option Value × oSt → Prop} {v : Option Value × oSt} {X : Nat → zLv → List Value → oSt → Prop} (hX : oSem RX6 cX6_lead 11 0 none κ kc v X) (hc : ∀ j av s w, call j av s = some w → kc j av s w) {x0 : Option Nat} {x1 : Int32} {x2 : Int32} {x3 : Int64} {σ : oSt} (h : ob_X6_lead n call κ x0 x1 x2 x3 σ = some v) : X 0 [some (va_rf x0), some (.int x1), some (.int x2), some (.long x3), none, none, none, none, none, none, none] [] σ := by
  rw [ob_X6_lead] at h
  refine os_aload_n (r := x0) hX dX6_lead_0 rfl rfl ?_
  obtain ⟨v1, e2, h⟩ := obn_e h
  refine ow_get (r := x0) hX dX6_lead_1 oF_RX6_17 (ovi_e e2) ?_
  refine os_iload_n hX dX6_lead_4 rfl rfl ?_
  refine os_aload_n (r := x0) hX dX6_lead_5 rfl rfl ?_
  obtain ⟨v3, e4, h⟩ := obn_e h
  refine ow_get (r := x0) hX dX6_lead_6 oF_RX6_13 (ovi_e e4) ?_
  refine os_imul hX dX6_lead_9 ?_
  refine os_iadd hX dX6_lead_10 ?_
  refine os_istore hX dX6_lead_11 (by decide) rfl ?_
  dsimp only [List.set]
  refine os_iconst (v := 0) hX dX6_lead_13 (by decide) ?_
  refine os_istore hX dX6_lead_14 (by decide) rfl ?_
  dsimp only [List.set]
  refine os_weak hX (lw := [some (va_rf x0), some (.int x1), none, some (.long x3), none, some (.int (v1 + (x2 * v3))), some (.int 0), none, none, none, none]) ⟨rfl, rfl, rfl, rfl, rfl, trivial⟩ ?_
  exact ql_X6_lead_16 hX hc n _ _ _ _ _ _ h
def oj_X6_tighten_278 (n : Nat) (call : oCl) (κ : oKv) (k98 : Option Nat → Int32 → oSt → oRs) (x0 : Option Nat) (x1 : Int32) (σ : oSt) : oRs :=
  k98 x0 (x1 + 1) σ
def oj_X6_tighten_272 (n : Nat) (call : oCl) (κ : oKv) (k98 : Option Nat → Int32 → oSt → oRs) (k181 : Option Nat → Int32 → Int64 → Int32 → oSt → oRs) (x0 : Option Nat) (x1 : Int32) (x2 : Int64) (x4 : Int32) (σ : oSt) : oRs :=
  k181 x0 x1 x2 (x4 + 1) σ
def ol_X6_tighten_181 (n : Nat) (call : oCl) (κ : oKv) (k98 : Option Nat → Int32 → oSt → oRs) : Nat → Option Nat → Int32 → Int64 → Int32 → oSt → oRs
  | 0, _, _, _, _, _ => none
  | f + 1, x0, x1, x2, x4, σ =>
    if 0 ≤ (lg_cmp x2 1152921504606846976) then
      oj_X6_tighten_278 n call κ k98 x0 x1 σ
    else
      obn (ovi (ofd σ x0 8 1)) fun v2 =>
      if v2 ≤ x4 then
        oj_X6_tighten_278 n call κ k98 x0 x1 σ
      else
        obn (ovr (ofd σ x0 8 0)) fun v5 =>
        obn (ovi (ofd σ x0 8 2)) fun v7 =>
        obn (ovi (ofd σ x0 8 1)) fun v9 =>
        obn (oaj σ v5 ((v7 + ((x4 ^^^ 1) * v9)) + x4)) fun v11 =>
        if 0 ≤ (lg_cmp v11 1152921504606846976) then
          oj_X6_tighten_272 n call κ k98 (ol_X6_tighten_181 n call κ k98 f) x0 x1 x2 x4 σ
        else
          obn (ovi (ofd σ x0 8 2)) fun v14 =>
          obn (ovi (ofd σ x0 8 1)) fun v16 =>
          obn (ovr (ofd σ x0 8 0)) fun v18 =>
          obn (ovr (ofd σ x0 8 0)) fun v20 =>
          obn (oaj σ v20 ((v14 + (x1 * v16)) + x4)) fun v22 =>
          ogd (decide (¬ (2 : Int64) = 0)) (
          obn (osj σ v18 ((v14 + (x1 * v16)) + x4) ((if ((x2 + v11) / 2) < v22 then ((x2 + v11) / 2) else v22))) fun s25 =>
          oj_X6_tighten_272 n call κ k98 (ol_X6_tighten_181 n call κ k98 f) x0 x1 x2 x4 s25)
def oj_X6_tighten_175 (n : Nat) (call : oCl) (κ : oKv) (k98 : Option Nat → Int32 → oSt → oRs) (x0 : Option Nat) (x1 : Int32) (x2 : Int64) (t0 : Option Nat) (t1 : Int32) (σ : oSt) : oRs :=
  ogd (zbo t1) (
  obn (opf σ t0 8 4 (.int t1)) fun s2 =>
  ol_X6_tighten_181 n call κ k98 n x0 x1 x2 0 s2)
def oj_X6_tighten_174 (n : Nat) (call : oCl) (κ : oKv) (k98 : Option Nat → Int32 → oSt → oRs) (x0 : Option Nat) (x1 : Int32) (x2 : Int64) (t0 : Option Nat) (σ : oSt) : oRs :=
  oj_X6_tighten_175 n call κ k98 x0 x1 x2 t0 0 σ
def ol_X6_tighten_98 (n : Nat) (call : oCl) (κ : oKv) : Nat → Option Nat → Int32 → oSt → oRs
  | 0, _, _, _ => none
  | f + 1, x0, x1, σ =>
    obn (ovi (ofd σ x0 8 1)) fun v1 =>
    if v1 ≤ x1 then
      some (none, σ)
    else
      obn (ovi (ofd σ x0 8 4)) fun v4 =>
      if v4 = 0 then
        obn (ovr (ofd σ x0 8 0)) fun v7 =>
        obn (ovi (ofd σ x0 8 2)) fun v9 =>
        obn (ovi (ofd σ x0 8 1)) fun v11 =>
        obn (oaj σ v7 ((v9 + (x1 * v11)) + (x1 ^^^ 1))) fun v13 =>
        if 0 ≤ (lg_cmp v13 1152921504606846976) then
          oj_X6_tighten_174 n call κ (ol_X6_tighten_98 n call κ f) x0 x1 v13 x0 σ
        else
          obn (ovr (ofd σ x0 8 0)) fun v16 =>
          obn (ovi (ofd σ x0 8 2)) fun v18 =>
          obn (ovi (ofd σ x0 8 1)) fun v20 =>
          obn (oaj σ v16 ((v18 + ((x1 ^^^ 1) * v20)) + x1)) fun v22 =>
          if 0 ≤ (lg_cmp (v13 + v22) 0) then
            oj_X6_tighten_174 n call κ (ol_X6_tighten_98 n call κ f) x0 x1 v13 x0 σ
          else
            oj_X6_tighten_175 n call κ (ol_X6_tighten_98 n call κ f) x0 x1 v13 x0 1 σ
      else
        some (none, σ)
def oj_X6_tighten_96 (n : Nat) (call : oCl) (κ : oKv) (x0 : Option Nat) (σ : oSt) : oRs :=
  ol_X6_tighten_98 n call κ n x0 0 σ
def oj_X6_tighten_87 (n : Nat) (call : oCl) (κ : oKv) (k2 : Option Nat → Int32 → oSt → oRs) (x0 : Option Nat) (x1 : Int32) (t0 : Option Nat) (t1 : Int32) (σ : oSt) : oRs :=
  ogd (zbo t1) (
  obn (opf σ t0 8 4 (.int t1)) fun s2 =>
  k2 x0 (x1 + 1) s2)
def oj_X6_tighten_58 (n : Nat) (call : oCl) (κ : oKv) (k2 : Option Nat → Int32 → oSt → oRs) (x0 : Option Nat) (x1 : Int32) (σ : oSt) : oRs :=
  obn (ovr (ofd σ x0 8 0)) fun v1 =>
  obn (ovi (ofd σ x0 8 2)) fun v3 =>
  obn (ovi (ofd σ x0 8 1)) fun v5 =>
  obn (oaj σ v1 ((v3 + (x1 * v5)) + x1)) fun v7 =>
  if 0 ≤ (lg_cmp v7 0) then
    oj_X6_tighten_87 n call κ k2 x0 x1 x0 0 σ
  else
    oj_X6_tighten_87 n call κ k2 x0 x1 x0 1 σ
def ol_X6_tighten_2 (n : Nat) (call : oCl) (κ : oKv) : Nat → Option Nat → Int32 → oSt → oRs
  | 0, _, _, _ => none
  | f + 1, x0, x1, σ =>
    obn (ovi (ofd σ x0 8 1)) fun v1 =>
    if v1 ≤ x1 then
      oj_X6_tighten_96 n call κ x0 σ
    else
      obn (ovi (ofd σ x0 8 4)) fun v4 =>
      if v4 = 0 then
        obn (ovi (ofd σ x0 8 2)) fun v7 =>
        obn (ovi (ofd σ x0 8 1)) fun v9 =>
        obn (ovr (ofd σ x0 8 0)) fun v11 =>
        obn (oaj σ v11 ((v7 + (x1 * v9)) + (x1 ^^^ 1))) fun v13 =>
        if 0 ≤ (lg_cmp v13 1152921504606846976) then
          oj_X6_tighten_58 n call κ (ol_X6_tighten_2 n call κ f) x0 x1 σ
        else
          obn (ovr (ofd σ x0 8 0)) fun v16 =>
          obn (oaj σ v16 ((v7 + (x1 * v9)) + (x1 ^^^ 1))) fun v18 =>
          obn (osj σ v16 ((v7 + (x1 * v9)) + (x1 ^^^ 1)) (v18 &&& (-2))) fun s20 =>
          oj_X6_tighten_58 n call κ (ol_X6_tighten_2 n call κ f) x0 x1 s20
      else
        oj_X6_tighten_96 n call κ x0 σ
def ob_X6_tighten (n : Nat) (call : oCl) (κ : oKv) (x0 : Option Nat) (σ : oSt) : oRs :=
  ol_X6_tighten_2 n call κ n x0 0 σ
set_option maxHeartbeats 4000000 in
theorem qj_X6_tighten_278 {κ : oKv} {n : Nat} {call : oCl} {kc : Nat → List Value → oSt → Option Value × oSt → Prop} {v : Option Value × oSt} {X : Nat → zLv → List Value → oSt → Prop} (hX : oSem RX6 cX6_tighten 8 0 none κ kc v X) (hc : ∀ j av s w, call j av s = some w → kc j av s w) {k98 : Option Nat → Int32 → oSt → oRs} (hk98 : ∀ (x0 : Option Nat) (x1 : Int32) (s : oSt), k98 x0 x1 s = some v → X 98 [some (va_rf x0), some (.int x1), none, none, none, none, none, none] [] s) {x0 : Option Nat} {x1 : Int32} {σ : oSt} (h : oj_X6_tighten_278 n call κ k98 x0 x1 σ = some v) : X 278 [some (va_rf x0), some (.int x1), none, none, none, none, none, none] [] σ := by
  rw [oj_X6_tighten_278] at h
  refine os_iinc (v := x1 + 1) hX dX6_tighten_278 rfl rfl (by decide) (ozlo (i := 0) (r := x0) rfl) ?_
  dsimp only [List.set]
  refine os_goto (tgt := 98) hX dX6_tighten_281 (by decide) ?_
  exact hk98 _ _ _ h
set_option maxHeartbeats 4000000 in
theorem qj_X6_tighten_272 {κ : oKv} {n : Nat} {call : oCl} {kc : Nat → List Value → oSt → Option Value × oSt → Prop} {v : Option Value × oSt} {X : Nat → zLv → List Value → oSt → Prop} (hX : oSem RX6 cX6_tighten 8 0 none κ kc v X) (hc : ∀ j av s w, call j av s = some w → kc j av s w) {k98 : Option Nat → Int32 → oSt → oRs} (hk98 : ∀ (x0 : Option Nat) (x1 : Int32) (s : oSt), k98 x0 x1 s = some v → X 98 [some (va_rf x0), some (.int x1), none, none, none, none, none, none] [] s) {k181 : Option Nat → Int32 → Int64 → Int32 → oSt → oRs} (hk181 : ∀ (x0 : Option Nat) (x1 : Int32) (x2 : Int64) (x4 : Int32) (s : oSt), k181 x0 x1 x2 x4 s = some v → X 181 [some (va_rf x0), some (.int x1), some (.long x2), none, some (.int x4), none, none, none] [] s) {x0 : Option Nat} {x1 : Int32} {x2 : Int64} {x4 : Int32} {σ : oSt} (h : oj_X6_tighten_272 n call κ k98 k181 x0 x1 x2 x4 σ = some v) : X 272 [some (va_rf x0), some (.int x1), some (.long x2), none, some (.int x4), none, none, none] [] σ := by
  rw [oj_X6_tighten_272] at h
  refine os_iinc (v := x4 + 1) hX dX6_tighten_272 rfl rfl (by decide) rfl ?_
  dsimp only [List.set]
  refine os_goto (tgt := 181) hX dX6_tighten_275 (by decide) ?_
  exact hk181 _ _ _ _ _ h
set_option maxHeartbeats 4000000 in
theorem ql_X6_tighten_181 {κ : oKv} {n : Nat} {call : oCl} {kc : Nat → List Value → oSt → Option Value × oSt → Prop} {v : Option Value × oSt} {X : Nat → zLv → List Value → oSt → Prop} (hX : oSem RX6 cX6_tighten 8 0 none κ kc v X) (hc : ∀ j av s w, call j av s = some w → kc j av s w) {k98 : Option Nat → Int32 → oSt → oRs} (hk98 : ∀ (x0 : Option Nat) (x1 : Int32) (s : oSt), k98 x0 x1 s = some v → X 98 [some (va_rf x0), some (.int x1), none, none, none, none, none, none] [] s) : ∀ (f : Nat) (x0 : Option Nat) (x1 : Int32) (x2 : Int64) (x4 : Int32) (σ : oSt), ol_X6_tighten_181 n call κ k98 f x0 x1 x2 x4 σ = some v → X 181 [some (va_rf x0), some (.int x1), some (.long x2), none, some (.int x4), none, none, none] [] σ := by
  intro f
  induction f with
  | zero => intro x0 x1 x2 x4 σ h; cases h
  | succ f hk181 =>
    intro x0 x1 x2 x4 σ h
    rw [ol_X6_tighten_181] at h
    refine os_lload_n hX dX6_tighten_181 rfl rfl ?_
    refine os_ldc2 (x := 1152921504606846976) hX dX6_tighten_182 oCL_RX6_31 ?_
    refine os_lcmp hX dX6_tighten_185 ?_
    refine os_if_ge (tgt := 278) hX dX6_tighten_186 (by decide) (fun c1 => ?_) (fun c1 => ?_)
    · rw [if_pos c1] at h
      refine os_weak hX (lw := [some (va_rf x0), some (.int x1), none, none, none, none, none, none]) ⟨rfl, rfl, trivial⟩ ?_
      exact qj_X6_tighten_278 hX hc hk98 h
    · rw [if_neg c1] at h
      refine os_iload hX dX6_tighten_189 rfl ?_
      refine os_aload_n (r := x0) hX dX6_tighten_191 rfl rfl ?_
      obtain ⟨v2, e3, h⟩ := obn_e h
      refine ow_get (r := x0) hX dX6_tighten_192 oF_RX6_13 (ovi_e e3) ?_
      refine os_icmp_ge (tgt := 278) hX dX6_tighten_195 (by decide) (fun c4 => ?_) (fun c4 => ?_)
      · rw [if_pos c4] at h
        refine os_weak hX (lw := [some (va_rf x0), some (.int x1), none, none, none, none, none, none]) ⟨rfl, rfl, trivial⟩ ?_
        exact qj_X6_tighten_278 hX hc hk98 h
      · rw [if_neg c4] at h
        refine os_aload_n (r := x0) hX dX6_tighten_198 rfl rfl ?_
        obtain ⟨v5, e6, h⟩ := obn_e h
        refine ow_get (r := x0) hX dX6_tighten_199 oF_RX6_7 (ovr_e e6) ?_
        refine os_aload_n (r := x0) hX dX6_tighten_202 rfl rfl ?_
        obtain ⟨v7, e8, h⟩ := obn_e h
        refine ow_get (r := x0) hX dX6_tighten_203 oF_RX6_17 (ovi_e e8) ?_
        refine os_iload hX dX6_tighten_206 rfl ?_
        refine os_iconst (v := 1) hX dX6_tighten_208 (by decide) ?_
        refine os_ixor hX dX6_tighten_209 ?_
        refine os_aload_n (r := x0) hX dX6_tighten_210 rfl rfl ?_
        obtain ⟨v9, e10, h⟩ := obn_e h
        refine ow_get (r := x0) hX dX6_tighten_211 oF_RX6_13 (ovi_e e10) ?_
        refine os_imul hX dX6_tighten_214 ?_
        refine os_iadd hX dX6_tighten_215 ?_
        refine os_iload hX dX6_tighten_216 rfl ?_
        refine os_iadd hX dX6_tighten_218 ?_
        obtain ⟨v11, e12, h⟩ := obn_e h
        refine ow_aj (r := v5) (i := ((v7 + ((x4 ^^^ 1) * v9)) + x4)) hX dX6_tighten_219 e12 ?_
        refine os_lstore hX dX6_tighten_220 (by decide) rfl ?_
        dsimp only [List.set]
        refine os_lload hX dX6_tighten_222 rfl ?_
        refine os_ldc2 (x := 1152921504606846976) hX dX6_tighten_224 oCL_RX6_31 ?_
        refine os_lcmp hX dX6_tighten_227 ?_
        refine os_if_ge (tgt := 272) hX dX6_tighten_228 (by decide) (fun c13 => ?_) (fun c13 => ?_)
        · rw [if_pos c13] at h
          refine os_weak hX (lw := [some (va_rf x0), some (.int x1), some (.long x2), none, some (.int x4), none, none, none]) ⟨rfl, rfl, rfl, rfl, trivial⟩ ?_
          exact qj_X6_tighten_272 hX hc hk98 hk181 h
        · rw [if_neg c13] at h
          refine os_aload_n (r := x0) hX dX6_tighten_231 rfl rfl ?_
          obtain ⟨v14, e15, h⟩ := obn_e h
          refine ow_get (r := x0) hX dX6_tighten_232 oF_RX6_17 (ovi_e e15) ?_
          refine os_iload_n hX dX6_tighten_235 rfl rfl ?_
          refine os_aload_n (r := x0) hX dX6_tighten_236 rfl rfl ?_
          obtain ⟨v16, e17, h⟩ := obn_e h
          refine ow_get (r := x0) hX dX6_tighten_237 oF_RX6_13 (ovi_e e17) ?_
          refine os_imul hX dX6_tighten_240 ?_
          refine os_iadd hX dX6_tighten_241 ?_
          refine os_iload hX dX6_tighten_242 rfl ?_
          refine os_iadd hX dX6_tighten_244 ?_
          refine os_istore hX dX6_tighten_245 (by decide) rfl ?_
          dsimp only [List.set]
          refine os_aload_n (r := x0) hX dX6_tighten_247 rfl rfl ?_
          obtain ⟨v18, e19, h⟩ := obn_e h
          refine ow_get (r := x0) hX dX6_tighten_248 oF_RX6_7 (ovr_e e19) ?_
          refine os_iload hX dX6_tighten_251 rfl ?_
          refine os_aload_n (r := x0) hX dX6_tighten_253 rfl rfl ?_
          obtain ⟨v20, e21, h⟩ := obn_e h
          refine ow_get (r := x0) hX dX6_tighten_254 oF_RX6_7 (ovr_e e21) ?_
          refine os_iload hX dX6_tighten_257 rfl ?_
          obtain ⟨v22, e23, h⟩ := obn_e h
          refine ow_aj (r := v20) (i := ((v14 + (x1 * v16)) + x4)) hX dX6_tighten_259 e23 ?_
          refine os_lload_n hX dX6_tighten_260 rfl rfl ?_
          refine os_lload hX dX6_tighten_261 rfl ?_
          refine os_ladd hX dX6_tighten_263 ?_
          refine os_ldc2 (x := 2) hX dX6_tighten_264 oCL_RX6_60 ?_
          obtain ⟨b24, h⟩ := ogd_e h
          refine os_ldiv hX dX6_tighten_267 (znz_ok b24) ?_
          refine os_mminL hX dX6_tighten_268 omminL_RX6_62 (by simp only [List.map_cons, List.map_nil, List.sum_cons, List.sum_nil, ocat]; exact Nat.le_of_ble_eq_true rfl) ?_
          obtain ⟨s25, e26, h⟩ := obn_e h
          refine ow_sj (r := v18) (i := ((v14 + (x1 * v16)) + x4)) (x := ((if ((x2 + v11) / 2) < v22 then ((x2 + v11) / 2) else v22))) hX dX6_tighten_271 e26 ?_
          refine os_weak hX (lw := [some (va_rf x0), some (.int x1), some (.long x2), none, some (.int x4), none, none, none]) ⟨rfl, rfl, rfl, rfl, trivial⟩ ?_
          exact qj_X6_tighten_272 hX hc hk98 hk181 h
set_option maxHeartbeats 4000000 in
theorem qj_X6_tighten_175 {κ : oKv} {n : Nat} {call : oCl} {kc : Nat → List Value → oSt → Option Value × oSt → Prop} {v : Option Value × oSt} {X : Nat → zLv → List Value → oSt → Prop} (hX : oSem RX6 cX6_tighten 8 0 none κ kc v X) (hc : ∀ j av s w, call j av s = some w → kc j av s w) {k98 : Option Nat → Int32 → oSt → oRs} (hk98 : ∀ (x0 : Option Nat) (x1 : Int32) (s : oSt), k98 x0 x1 s = some v → X 98 [some (va_rf x0), some (.int x1), none, none, none, none, none, none] [] s) {x0 : Option Nat} {x1 : Int32} {x2 : Int64} {t0 : Option Nat} {t1 : Int32} {σ : oSt} (h : oj_X6_tighten_175 n call κ k98 x0 x1 x2 t0 t1 σ = some v) : X 175 [some (va_rf x0), some (.int x1), some (.long x2), none, none, none, none, none] [.int t1, va_rf t0] σ := by
  rw [oj_X6_tighten_175] at h
  obtain ⟨b1, h⟩ := ogd_e h
  obtain ⟨s2, e3, h⟩ := obn_e h
  refine ow_put (r := t0) (x := .int t1) hX dX6_tighten_175 oF_RX6_24 (by decide) (opn_Z oT_8_4 b1) e3 ?_
  refine os_iconst (v := 0) hX dX6_tighten_178 (by decide) ?_
  refine os_istore hX dX6_tighten_179 (by decide) rfl ?_
  dsimp only [List.set]
  exact ql_X6_tighten_181 hX hc hk98 n _ _ _ _ _ h
set_option maxHeartbeats 4000000 in
theorem qj_X6_tighten_174 {κ : oKv} {n : Nat} {call : oCl} {kc : Nat → List Value → oSt → Option Value × oSt → Prop} {v : Option Value × oSt} {X : Nat → zLv → List Value → oSt → Prop} (hX : oSem RX6 cX6_tighten 8 0 none κ kc v X) (hc : ∀ j av s w, call j av s = some w → kc j av s w) {k98 : Option Nat → Int32 → oSt → oRs} (hk98 : ∀ (x0 : Option Nat) (x1 : Int32) (s : oSt), k98 x0 x1 s = some v → X 98 [some (va_rf x0), some (.int x1), none, none, none, none, none, none] [] s) {x0 : Option Nat} {x1 : Int32} {x2 : Int64} {t0 : Option Nat} {σ : oSt} (h : oj_X6_tighten_174 n call κ k98 x0 x1 x2 t0 σ = some v) : X 174 [some (va_rf x0), some (.int x1), some (.long x2), none, none, none, none, none] [va_rf t0] σ := by
  rw [oj_X6_tighten_174] at h
  refine os_iconst (v := 0) hX dX6_tighten_174 (by decide) ?_
  exact qj_X6_tighten_175 hX hc hk98 h
set_option maxHeartbeats 4000000 in
theorem ql_X6_tighten_98 {κ : oKv} {n : Nat} {call : oCl} {kc : Nat → List Value → oSt → Option Value × oSt → Prop} {v : Option Value × oSt} {X : Nat → zLv → List Value → oSt → Prop} (hX : oSem RX6 cX6_tighten 8 0 none κ kc v X) (hc : ∀ j av s w, call j av s = some w → kc j av s w) : ∀ (f : Nat) (x0 : Option Nat) (x1 : Int32) (σ : oSt), ol_X6_tighten_98 n call κ f x0 x1 σ = some v → X 98 [some (va_rf x0), some (.int x1), none, none, none, none, none, none] [] σ := by
  intro f
  induction f with
  | zero => intro x0 x1 σ h; cases h
  | succ f hk98 =>
    intro x0 x1 σ h
    rw [ol_X6_tighten_98] at h
    refine os_iload_n hX dX6_tighten_98 rfl rfl ?_
    refine os_aload_n (r := x0) hX dX6_tighten_99 rfl rfl ?_
    obtain ⟨v1, e2, h⟩ := obn_e h
    refine ow_get (r := x0) hX dX6_tighten_100 oF_RX6_13 (ovi_e e2) ?_
    refine os_icmp_ge (tgt := 284) hX dX6_tighten_103 (by decide) (fun c3 => ?_) (fun c3 => ?_)
    · rw [if_pos c3] at h
      exact os_vret hX dX6_tighten_284 rfl (Option.some.inj h)
    · rw [if_neg c3] at h
      refine os_aload_n (r := x0) hX dX6_tighten_106 rfl rfl ?_
      obtain ⟨v4, e5, h⟩ := obn_e h
      refine ow_get (r := x0) hX dX6_tighten_107 oF_RX6_24 (ovi_e e5) ?_
      refine os_if_ne (tgt := 284) hX dX6_tighten_110 (by decide) (fun c6 => ?_) (fun c6 => ?_)
      · rw [if_neg c6] at h
        exact os_vret hX dX6_tighten_284 rfl (Option.some.inj h)
      · rw [if_pos c6] at h
        refine os_aload_n (r := x0) hX dX6_tighten_113 rfl rfl ?_
        obtain ⟨v7, e8, h⟩ := obn_e h
        refine ow_get (r := x0) hX dX6_tighten_114 oF_RX6_7 (ovr_e e8) ?_
        refine os_aload_n (r := x0) hX dX6_tighten_117 rfl rfl ?_
        obtain ⟨v9, e10, h⟩ := obn_e h
        refine ow_get (r := x0) hX dX6_tighten_118 oF_RX6_17 (ovi_e e10) ?_
        refine os_iload_n hX dX6_tighten_121 rfl rfl ?_
        refine os_aload_n (r := x0) hX dX6_tighten_122 rfl rfl ?_
        obtain ⟨v11, e12, h⟩ := obn_e h
        refine ow_get (r := x0) hX dX6_tighten_123 oF_RX6_13 (ovi_e e12) ?_
        refine os_imul hX dX6_tighten_126 ?_
        refine os_iadd hX dX6_tighten_127 ?_
        refine os_iload_n hX dX6_tighten_128 rfl rfl ?_
        refine os_iconst (v := 1) hX dX6_tighten_129 (by decide) ?_
        refine os_ixor hX dX6_tighten_130 ?_
        refine os_iadd hX dX6_tighten_131 ?_
        obtain ⟨v13, e14, h⟩ := obn_e h
        refine ow_aj (r := v7) (i := ((v9 + (x1 * v11)) + (x1 ^^^ 1))) hX dX6_tighten_132 e14 ?_
        refine os_lstore_n hX dX6_tighten_133 rfl (by decide) rfl ?_
        dsimp only [List.set]
        refine os_aload_n (r := x0) hX dX6_tighten_134 rfl rfl ?_
        refine os_lload_n hX dX6_tighten_135 rfl rfl ?_
        refine os_ldc2 (x := 1152921504606846976) hX dX6_tighten_136 oCL_RX6_31 ?_
        refine os_lcmp hX dX6_tighten_139 ?_
        refine os_if_ge (tgt := 174) hX dX6_tighten_140 (by decide) (fun c15 => ?_) (fun c15 => ?_)
        · rw [if_pos c15] at h
          exact qj_X6_tighten_174 hX hc hk98 h
        · rw [if_neg c15] at h
          refine os_lload_n hX dX6_tighten_143 rfl rfl ?_
          refine os_aload_n (r := x0) hX dX6_tighten_144 rfl rfl ?_
          obtain ⟨v16, e17, h⟩ := obn_e h
          refine ow_get (r := x0) hX dX6_tighten_145 oF_RX6_7 (ovr_e e17) ?_
          refine os_aload_n (r := x0) hX dX6_tighten_148 rfl rfl ?_
          obtain ⟨v18, e19, h⟩ := obn_e h
          refine ow_get (r := x0) hX dX6_tighten_149 oF_RX6_17 (ovi_e e19) ?_
          refine os_iload_n hX dX6_tighten_152 rfl rfl ?_
          refine os_iconst (v := 1) hX dX6_tighten_153 (by decide) ?_
          refine os_ixor hX dX6_tighten_154 ?_
          refine os_aload_n (r := x0) hX dX6_tighten_155 rfl rfl ?_
          obtain ⟨v20, e21, h⟩ := obn_e h
          refine ow_get (r := x0) hX dX6_tighten_156 oF_RX6_13 (ovi_e e21) ?_
          refine os_imul hX dX6_tighten_159 ?_
          refine os_iadd hX dX6_tighten_160 ?_
          refine os_iload_n hX dX6_tighten_161 rfl rfl ?_
          refine os_iadd hX dX6_tighten_162 ?_
          obtain ⟨v22, e23, h⟩ := obn_e h
          refine ow_aj (r := v16) (i := ((v18 + ((x1 ^^^ 1) * v20)) + x1)) hX dX6_tighten_163 e23 ?_
          refine os_ladd hX dX6_tighten_164 ?_
          refine os_lconst (v := 0) hX dX6_tighten_165 (by decide) ?_
          refine os_lcmp hX dX6_tighten_166 ?_
          refine os_if_ge (tgt := 174) hX dX6_tighten_167 (by decide) (fun c24 => ?_) (fun c24 => ?_)
          · rw [if_pos c24] at h
            exact qj_X6_tighten_174 hX hc hk98 h
          · rw [if_neg c24] at h
            refine os_iconst (v := 1) hX dX6_tighten_170 (by decide) ?_
            refine os_goto (tgt := 175) hX dX6_tighten_171 (by decide) ?_
            exact qj_X6_tighten_175 hX hc hk98 h
set_option maxHeartbeats 4000000 in
theorem qj_X6_tighten_96 {κ : oKv} {n : Nat} {call : oCl} {kc : Nat → List Value → oSt → Option Value × oSt → Prop} {v : Option Value × oSt} {X : Nat → zLv → List Value → oSt → Prop} (hX : oSem RX6 cX6_tighten 8 0 none κ kc v X) (hc : ∀ j av s w, call j av s = some w → kc j av s w) {x0 : Option Nat} {σ : oSt} (h : oj_X6_tighten_96 n call κ x0 σ = some v) : X 96 [some (va_rf x0), none, none, none, none, none, none, none] [] σ := by
  rw [oj_X6_tighten_96] at h
  refine os_iconst (v := 0) hX dX6_tighten_96 (by decide) ?_
  refine os_istore_n hX dX6_tighten_97 rfl (by decide) (ozlo (i := 0) (r := x0) rfl) ?_
  dsimp only [List.set]
  exact ql_X6_tighten_98 hX hc n _ _ _ h
set_option maxHeartbeats 4000000 in
theorem qj_X6_tighten_87 {κ : oKv} {n : Nat} {call : oCl} {kc : Nat → List Value → oSt → Option Value × oSt → Prop} {v : Option Value × oSt} {X : Nat → zLv → List Value → oSt → Prop} (hX : oSem RX6 cX6_tighten 8 0 none κ kc v X) (hc : ∀ j av s w, call j av s = some w → kc j av s w) {k2 : Option Nat → Int32 → oSt → oRs} (hk2 : ∀ (x0 : Option Nat) (x1 : Int32) (s : oSt), k2 x0 x1 s = some v → X 2 [some (va_rf x0), some (.int x1), none, none, none, none, none, none] [] s) {x0 : Option Nat} {x1 : Int32} {t0 : Option Nat} {t1 : Int32} {σ : oSt} (h : oj_X6_tighten_87 n call κ k2 x0 x1 t0 t1 σ = some v) : X 87 [some (va_rf x0), some (.int x1), none, none, none, none, none, none] [.int t1, va_rf t0] σ := by
  rw [oj_X6_tighten_87] at h
  obtain ⟨b1, h⟩ := ogd_e h
  obtain ⟨s2, e3, h⟩ := obn_e h
  refine ow_put (r := t0) (x := .int t1) hX dX6_tighten_87 oF_RX6_24 (by decide) (opn_Z oT_8_4 b1) e3 ?_
  refine os_iinc (v := x1 + 1) hX dX6_tighten_90 rfl rfl (by decide) (ozlo (i := 0) (r := x0) rfl) ?_
  dsimp only [List.set]
  refine os_goto (tgt := 2) hX dX6_tighten_93 (by decide) ?_
  exact hk2 _ _ _ h
set_option maxHeartbeats 4000000 in
theorem qj_X6_tighten_58 {κ : oKv} {n : Nat} {call : oCl} {kc : Nat → List Value → oSt → Option Value × oSt → Prop} {v : Option Value × oSt} {X : Nat → zLv → List Value → oSt → Prop} (hX : oSem RX6 cX6_tighten 8 0 none κ kc v X) (hc : ∀ j av s w, call j av s = some w → kc j av s w) {k2 : Option Nat → Int32 → oSt → oRs} (hk2 : ∀ (x0 : Option Nat) (x1 : Int32) (s : oSt), k2 x0 x1 s = some v → X 2 [some (va_rf x0), some (.int x1), none, none, none, none, none, none] [] s) {x0 : Option Nat} {x1 : Int32} {σ : oSt} (h : oj_X6_tighten_58 n call κ k2 x0 x1 σ = some v) : X 58 [some (va_rf x0), some (.int x1), none, none, none, none, none, none] [] σ := by
  rw [oj_X6_tighten_58] at h
  refine os_aload_n (r := x0) hX dX6_tighten_58 rfl rfl ?_
  refine os_aload_n (r := x0) hX dX6_tighten_59 rfl rfl ?_
  obtain ⟨v1, e2, h⟩ := obn_e h
  refine ow_get (r := x0) hX dX6_tighten_60 oF_RX6_7 (ovr_e e2) ?_
  refine os_aload_n (r := x0) hX dX6_tighten_63 rfl rfl ?_
  obtain ⟨v3, e4, h⟩ := obn_e h
  refine ow_get (r := x0) hX dX6_tighten_64 oF_RX6_17 (ovi_e e4) ?_
  refine os_iload_n hX dX6_tighten_67 rfl rfl ?_
  refine os_aload_n (r := x0) hX dX6_tighten_68 rfl rfl ?_
  obtain ⟨v5, e6, h⟩ := obn_e h
  refine ow_get (r := x0) hX dX6_tighten_69 oF_RX6_13 (ovi_e e6) ?_
  refine os_imul hX dX6_tighten_72 ?_
  refine os_iadd hX dX6_tighten_73 ?_
  refine os_iload_n hX dX6_tighten_74 rfl rfl ?_
  refine os_iadd hX dX6_tighten_75 ?_
  obtain ⟨v7, e8, h⟩ := obn_e h
  refine ow_aj (r := v1) (i := ((v3 + (x1 * v5)) + x1)) hX dX6_tighten_76 e8 ?_
  refine os_lconst (v := 0) hX dX6_tighten_77 (by decide) ?_
  refine os_lcmp hX dX6_tighten_78 ?_
  refine os_if_ge (tgt := 86) hX dX6_tighten_79 (by decide) (fun c9 => ?_) (fun c9 => ?_)
  · rw [if_pos c9] at h
    refine os_iconst (v := 0) hX dX6_tighten_86 (by decide) ?_
    exact qj_X6_tighten_87 hX hc hk2 h
  · rw [if_neg c9] at h
    refine os_iconst (v := 1) hX dX6_tighten_82 (by decide) ?_
    refine os_goto (tgt := 87) hX dX6_tighten_83 (by decide) ?_
    exact qj_X6_tighten_87 hX hc hk2 h
set_option maxHeartbeats 4000000 in
theorem ql_X6_tighten_2 {κ : oKv} {n : Nat} {call : oCl} {kc : Nat → List Value → oSt → Option Value × oSt → Prop} {v : Option Value × oSt} {X : Nat → zLv → List Value → oSt → Prop} (hX : oSem RX6 cX6_tighten 8 0 none κ kc v X) (hc : ∀ j av s w, call j av s = some w → kc j av s w) : ∀ (f : Nat) (x0 : Option Nat) (x1 : Int32) (σ : oSt), ol_X6_tighten_2 n call κ f x0 x1 σ = some v → X 2 [some (va_rf x0), some (.int x1), none, none, none, none, none, none] [] σ := by
  intro f
  induction f with
  | zero => intro x0 x1 σ h; cases h
  | succ f hk2 =>
    intro x0 x1 σ h
    rw [ol_X6_tighten_2] at h
    refine os_iload_n hX dX6_tighten_2 rfl rfl ?_
    refine os_aload_n (r := x0) hX dX6_tighten_3 rfl rfl ?_
    obtain ⟨v1, e2, h⟩ := obn_e h
    refine ow_get (r := x0) hX dX6_tighten_4 oF_RX6_13 (ovi_e e2) ?_
    refine os_icmp_ge (tgt := 96) hX dX6_tighten_7 (by decide) (fun c3 => ?_) (fun c3 => ?_)
    · rw [if_pos c3] at h
      refine os_weak hX (lw := [some (va_rf x0), none, none, none, none, none, none, none]) ⟨rfl, trivial⟩ ?_
      exact qj_X6_tighten_96 hX hc h
    · rw [if_neg c3] at h
      refine os_aload_n (r := x0) hX dX6_tighten_10 rfl rfl ?_
      obtain ⟨v4, e5, h⟩ := obn_e h
      refine ow_get (r := x0) hX dX6_tighten_11 oF_RX6_24 (ovi_e e5) ?_
      refine os_if_ne (tgt := 96) hX dX6_tighten_14 (by decide) (fun c6 => ?_) (fun c6 => ?_)
      · rw [if_neg c6] at h
        refine os_weak hX (lw := [some (va_rf x0), none, none, none, none, none, none, none]) ⟨rfl, trivial⟩ ?_
        exact qj_X6_tighten_96 hX hc h
      · rw [if_pos c6] at h
        refine os_aload_n (r := x0) hX dX6_tighten_17 rfl rfl ?_
        obtain ⟨v7, e8, h⟩ := obn_e h
        refine ow_get (r := x0) hX dX6_tighten_18 oF_RX6_17 (ovi_e e8) ?_
        refine os_iload_n hX dX6_tighten_21 rfl rfl ?_
        refine os_aload_n (r := x0) hX dX6_tighten_22 rfl rfl ?_
        obtain ⟨v9, e10, h⟩ := obn_e h
        refine ow_get (r := x0) hX dX6_tighten_23 oF_RX6_13 (ovi_e e10) ?_
        refine os_imul hX dX6_tighten_26 ?_
        refine os_iadd hX dX6_tighten_27 ?_
        refine os_iload_n hX dX6_tighten_28 rfl rfl ?_
        refine os_iconst (v := 1) hX dX6_tighten_29 (by decide) ?_
        refine os_ixor hX dX6_tighten_30 ?_
        refine os_iadd hX dX6_tighten_31 ?_
        refine os_istore_n hX dX6_tighten_32 rfl (by decide) rfl ?_
        dsimp only [List.set]
        refine os_aload_n (r := x0) hX dX6_tighten_33 rfl rfl ?_
        obtain ⟨v11, e12, h⟩ := obn_e h
        refine ow_get (r := x0) hX dX6_tighten_34 oF_RX6_7 (ovr_e e12) ?_
        refine os_iload_n hX dX6_tighten_37 rfl rfl ?_
        obtain ⟨v13, e14, h⟩ := obn_e h
        refine ow_aj (r := v11) (i := ((v7 + (x1 * v9)) + (x1 ^^^ 1))) hX dX6_tighten_38 e14 ?_
        refine os_ldc2 (x := 1152921504606846976) hX dX6_tighten_39 oCL_RX6_31 ?_
        refine os_lcmp hX dX6_tighten_42 ?_
        refine os_if_ge (tgt := 58) hX dX6_tighten_43 (by decide) (fun c15 => ?_) (fun c15 => ?_)
        · rw [if_pos c15] at h
          refine os_weak hX (lw := [some (va_rf x0), some (.int x1), none, none, none, none, none, none]) ⟨rfl, rfl, trivial⟩ ?_
          exact qj_X6_tighten_58 hX hc hk2 h
        · rw [if_neg c15] at h
          refine os_aload_n (r := x0) hX dX6_tighten_46 rfl rfl ?_
          obtain ⟨v16, e17, h⟩ := obn_e h
          refine ow_get (r := x0) hX dX6_tighten_47 oF_RX6_7 (ovr_e e17) ?_
          refine os_iload_n hX dX6_tighten_50 rfl rfl ?_
          refine os_dup2 hX dX6_tighten_51 rfl (ocat v16) ?_
          obtain ⟨v18, e19, h⟩ := obn_e h
          refine ow_aj (r := v16) (i := ((v7 + (x1 * v9)) + (x1 ^^^ 1))) hX dX6_tighten_52 e19 ?_
          refine os_ldc2 (x := (-2)) hX dX6_tighten_53 oCL_RX6_58 ?_
          refine os_land hX dX6_tighten_56 ?_
          obtain ⟨s20, e21, h⟩ := obn_e h
          refine ow_sj (r := v16) (i := ((v7 + (x1 * v9)) + (x1 ^^^ 1))) (x := (v18 &&& (-2))) hX dX6_tighten_57 e21 ?_
          refine os_weak hX (lw := [some (va_rf x0), some (.int x1), none, none, none, none, none, none]) ⟨rfl, rfl, trivial⟩ ?_
          exact qj_X6_tighten_58 hX hc hk2 h
set_option maxHeartbeats 4000000 in
theorem qb_X6_tighten {κ : oKv} {n : Nat} {call : oCl} {kc : Nat → List Value → oSt → Option Value × oSt → Prop} {v : Option Value × oSt} {X : Nat → zLv → List Value → oSt → Prop} (hX : oSem RX6 cX6_tighten 8 0 none κ kc v X) (hc : ∀ j av s w, call j av s = some w → kc j av s w) {x0 : Option Nat} {σ : oSt} (h : ob_X6_tighten n call κ x0 σ = some v) : X 0 [some (va_rf x0), none, none, none, none, none, none, none] [] σ := by
  rw [ob_X6_tighten] at h
  refine os_iconst (v := 0) hX dX6_tighten_0 (by decide) ?_
  refine os_istore_n hX dX6_tighten_1 rfl (by decide) (ozlo (i := 0) (r := x0) rfl) ?_
  dsimp only [List.set]
  exact ql_X6_tighten_2 hX hc n _ _ _ h
def oj_X6_limit_21 (n : Nat) (call : oCl) (κ : oKv) (t0 : Option Nat) (σ : oSt) : oRs :=
  obn (opf σ t0 8 4 (.int 1)) fun s1 =>
  some (none, s1)
def ob_X6_limit (n : Nat) (call : oCl) (κ : oKv) (x0 : Option Nat) (x1 : Int32) (x2 : Int32) (x3 : Int64) (σ : oSt) : oRs :=
  if x1 = (x2 ^^^ 1) then
    obn (ovi (ofd σ x0 8 4)) fun v44 =>
    if v44 = 0 then
      if 0 ≤ (lg_cmp x3 0) then
        obn (opf σ x0 8 4 (.int 0)) fun s48 =>
        some (none, s48)
      else
        oj_X6_limit_21 n call κ x0 σ
    else
      oj_X6_limit_21 n call κ x0 σ
  else
    obn (ovi (ofd σ x0 8 2)) fun v2 =>
    obn (ovi (ofd σ x0 8 1)) fun v4 =>
    obn (ovi (ofd σ x0 8 2)) fun v6 =>
    obn (ovi (ofd σ x0 8 1)) fun v8 =>
    obn (ovi (ofd σ x0 8 4)) fun v10 =>
    if v10 = 0 then
      obn (ovr (ofd σ x0 8 0)) fun v13 =>
      obn (oaj σ v13 ((v2 + ((x2 ^^^ 1) * v4)) + x1)) fun v15 =>
      if 0 < (lg_cmp v15 x3) then
        obn (ovi (ofd σ x0 8 3)) fun v18 =>
        if v18 = 0 then
          obn (ovr (ofd σ x0 8 0)) fun v21 =>
          obn (osj σ v21 ((v2 + ((x2 ^^^ 1) * v4)) + x1) x3) fun s23 =>
          obn (ovr (ofd s23 x0 8 0)) fun v25 =>
          obn (osj s23 v25 ((v6 + ((x1 ^^^ 1) * v8)) + x2) x3) fun s27 =>
          some (none, s27)
        else
          obn (oob σ x0 8) fun a29 =>
          ocv (call 42 [va_rf x0, .int (x2 ^^^ 1), .int x1, .long x3] σ) fun s31 =>
          obn (oob s31 x0 8) fun a34 =>
          ocv (call 42 [va_rf x0, .int (x1 ^^^ 1), .int x2, .long x3] s31) fun s36 =>
          obn (oob s36 x0 8) fun a39 =>
          ocv (call 43 [va_rf x0] s36) fun s41 =>
          some (none, s41)
      else
        some (none, σ)
    else
      some (none, σ)
set_option maxHeartbeats 4000000 in
theorem qj_X6_limit_21 {κ : oKv} {n : Nat} {call : oCl} {kc : Nat → List Value → oSt → Option Value × oSt → Prop} {v : Option Value × oSt} {X : Nat → zLv → List Value → oSt → Prop} (hX : oSem RX6 cX6_limit 7 0 none κ kc v X) (hc : ∀ j av s w, call j av s = some w → kc j av s w) {t0 : Option Nat} {σ : oSt} (h : oj_X6_limit_21 n call κ t0 σ = some v) : X 21 [none, none, none, none, none, none, none] [va_rf t0] σ := by
  rw [oj_X6_limit_21] at h
  refine os_iconst (v := 1) hX dX6_limit_21 (by decide) ?_
  refine os_goto (tgt := 26) hX dX6_limit_22 (by decide) ?_
  obtain ⟨s1, e2, h⟩ := obn_e h
  refine ow_put (r := t0) (x := .int 1) hX dX6_limit_26 oF_RX6_24 (by decide) (opn_Z oT_8_4 (by decide)) e2 ?_
  exact os_vret hX dX6_limit_29 rfl (Option.some.inj h)
set_option maxHeartbeats 4000000 in
theorem qb_X6_limit {κ : oKv} {n : Nat} {call : oCl} {kc : Nat → List Value → oSt → Option Value × oSt → Prop} {v : Option Value × oSt} {X : Nat → zLv → List Value → oSt → Prop} (hX : oSem RX6 cX6_limit 7 0 none κ kc v X) (hc : ∀ j av s w, call j av s = some w → kc j av s w) {x0 : Option Nat} {x1 : Int32} {x2 : Int32} {x3 : Int64} {σ : oSt} (h : ob_X6_limit n call κ x0 x1 x2 x3 σ = some v) : X 0 [some (va_rf x0), some (.int x1), some (.int x2), some (.long x3), none, none, none] [] σ := by
  rw [ob_X6_limit] at h
  refine os_iload_n hX dX6_limit_0 rfl rfl ?_
  refine os_iload_n hX dX6_limit_1 rfl rfl ?_
  refine os_iconst (v := 1) hX dX6_limit_2 (by decide) ?_
  refine os_ixor hX dX6_limit_3 ?_
  refine os_icmp_ne (tgt := 30) hX dX6_limit_4 (by decide) (fun c1 => ?_) (fun c1 => ?_)
  · rw [if_neg c1] at h
    refine os_aload_n (r := x0) hX dX6_limit_30 rfl rfl ?_
    obtain ⟨v2, e3, h⟩ := obn_e h
    refine ow_get (r := x0) hX dX6_limit_31 oF_RX6_17 (ovi_e e3) ?_
    refine os_iload_n hX dX6_limit_34 rfl rfl ?_
    refine os_iconst (v := 1) hX dX6_limit_35 (by decide) ?_
    refine os_ixor hX dX6_limit_36 ?_
    refine os_aload_n (r := x0) hX dX6_limit_37 rfl rfl ?_
    obtain ⟨v4, e5, h⟩ := obn_e h
    refine ow_get (r := x0) hX dX6_limit_38 oF_RX6_13 (ovi_e e5) ?_
    refine os_imul hX dX6_limit_41 ?_
    refine os_iadd hX dX6_limit_42 ?_
    refine os_iload_n hX dX6_limit_43 rfl rfl ?_
    refine os_iadd hX dX6_limit_44 ?_
    refine os_istore hX dX6_limit_45 (by decide) rfl ?_
    dsimp only [List.set]
    refine os_aload_n (r := x0) hX dX6_limit_47 rfl rfl ?_
    obtain ⟨v6, e7, h⟩ := obn_e h
    refine ow_get (r := x0) hX dX6_limit_48 oF_RX6_17 (ovi_e e7) ?_
    refine os_iload_n hX dX6_limit_51 rfl rfl ?_
    refine os_iconst (v := 1) hX dX6_limit_52 (by decide) ?_
    refine os_ixor hX dX6_limit_53 ?_
    refine os_aload_n (r := x0) hX dX6_limit_54 rfl rfl ?_
    obtain ⟨v8, e9, h⟩ := obn_e h
    refine ow_get (r := x0) hX dX6_limit_55 oF_RX6_13 (ovi_e e9) ?_
    refine os_imul hX dX6_limit_58 ?_
    refine os_iadd hX dX6_limit_59 ?_
    refine os_iload_n hX dX6_limit_60 rfl rfl ?_
    refine os_iadd hX dX6_limit_61 ?_
    refine os_istore hX dX6_limit_62 (by decide) rfl ?_
    dsimp only [List.set]
    refine os_aload_n (r := x0) hX dX6_limit_64 rfl rfl ?_
    obtain ⟨v10, e11, h⟩ := obn_e h
    refine ow_get (r := x0) hX dX6_limit_65 oF_RX6_24 (ovi_e e11) ?_
    refine os_if_ne (tgt := 83) hX dX6_limit_68 (by decide) (fun c12 => ?_) (fun c12 => ?_)
    · rw [if_neg c12] at h
      exact os_vret hX dX6_limit_83 rfl (Option.some.inj h)
    · rw [if_pos c12] at h
      refine os_aload_n (r := x0) hX dX6_limit_71 rfl rfl ?_
      obtain ⟨v13, e14, h⟩ := obn_e h
      refine ow_get (r := x0) hX dX6_limit_72 oF_RX6_7 (ovr_e e14) ?_
      refine os_iload hX dX6_limit_75 rfl ?_
      obtain ⟨v15, e16, h⟩ := obn_e h
      refine ow_aj (r := v13) (i := ((v2 + ((x2 ^^^ 1) * v4)) + x1)) hX dX6_limit_77 e16 ?_
      refine os_lload_n hX dX6_limit_78 rfl rfl ?_
      refine os_lcmp hX dX6_limit_79 ?_
      refine os_if_gt (tgt := 84) hX dX6_limit_80 (by decide) (fun c17 => ?_) (fun c17 => ?_)
      · rw [if_pos c17] at h
        refine os_aload_n (r := x0) hX dX6_limit_84 rfl rfl ?_
        obtain ⟨v18, e19, h⟩ := obn_e h
        refine ow_get (r := x0) hX dX6_limit_85 oF_RX6_20 (ovi_e e19) ?_
        refine os_if_eq (tgt := 116) hX dX6_limit_88 (by decide) (fun c20 => ?_) (fun c20 => ?_)
        · rw [if_pos c20] at h
          refine os_aload_n (r := x0) hX dX6_limit_116 rfl rfl ?_
          obtain ⟨v21, e22, h⟩ := obn_e h
          refine ow_get (r := x0) hX dX6_limit_117 oF_RX6_7 (ovr_e e22) ?_
          refine os_iload hX dX6_limit_120 rfl ?_
          refine os_lload_n hX dX6_limit_122 rfl rfl ?_
          obtain ⟨s23, e24, h⟩ := obn_e h
          refine ow_sj (r := v21) (i := ((v2 + ((x2 ^^^ 1) * v4)) + x1)) (x := x3) hX dX6_limit_123 e24 ?_
          refine os_aload_n (r := x0) hX dX6_limit_124 rfl rfl ?_
          obtain ⟨v25, e26, h⟩ := obn_e h
          refine ow_get (r := x0) hX dX6_limit_125 oF_RX6_7 (ovr_e e26) ?_
          refine os_iload hX dX6_limit_128 rfl ?_
          refine os_lload_n hX dX6_limit_130 rfl rfl ?_
          obtain ⟨s27, e28, h⟩ := obn_e h
          refine ow_sj (r := v25) (i := ((v6 + ((x1 ^^^ 1) * v8)) + x2)) (x := x3) hX dX6_limit_131 e28 ?_
          exact os_vret hX dX6_limit_132 rfl (Option.some.inj h)
        · rw [if_neg c20] at h
          refine os_aload_n (r := x0) hX dX6_limit_91 rfl rfl ?_
          refine os_iload_n hX dX6_limit_92 rfl rfl ?_
          refine os_iconst (v := 1) hX dX6_limit_93 (by decide) ?_
          refine os_ixor hX dX6_limit_94 ?_
          refine os_iload_n hX dX6_limit_95 rfl rfl ?_
          refine os_lload_n hX dX6_limit_96 rfl rfl ?_
          obtain ⟨a29, e30, h⟩ := obn_e h
          obtain ⟨s31, e32, h⟩ := ocv_e h
          refine oc_RX6_51 (rb := x0) (a1 := .int (x2 ^^^ 1)) (a2 := .int x1) (a3 := .long x3) hX dX6_limit_97 (Nat.le_of_ble_eq_true rfl) e30 (hc _ _ _ _ e32) ?_
          refine os_aload_n (r := x0) hX dX6_limit_100 rfl rfl ?_
          refine os_iload_n hX dX6_limit_101 rfl rfl ?_
          refine os_iconst (v := 1) hX dX6_limit_102 (by decide) ?_
          refine os_ixor hX dX6_limit_103 ?_
          refine os_iload_n hX dX6_limit_104 rfl rfl ?_
          refine os_lload_n hX dX6_limit_105 rfl rfl ?_
          obtain ⟨a34, e35, h⟩ := obn_e h
          obtain ⟨s36, e37, h⟩ := ocv_e h
          refine oc_RX6_51 (rb := x0) (a1 := .int (x1 ^^^ 1)) (a2 := .int x2) (a3 := .long x3) hX dX6_limit_106 (Nat.le_of_ble_eq_true rfl) e35 (hc _ _ _ _ e37) ?_
          refine os_aload_n (r := x0) hX dX6_limit_109 rfl rfl ?_
          obtain ⟨a39, e40, h⟩ := obn_e h
          obtain ⟨s41, e42, h⟩ := ocv_e h
          refine oc_RX6_55 (rb := x0)  hX dX6_limit_110 (Nat.le_of_ble_eq_true rfl) e40 (hc _ _ _ _ e42) ?_
          refine os_goto (tgt := 132) hX dX6_limit_113 (by decide) ?_
          exact os_vret hX dX6_limit_132 rfl (Option.some.inj h)
      · rw [if_neg c17] at h
        exact os_vret hX dX6_limit_83 rfl (Option.some.inj h)
  · rw [if_pos c1] at h
    refine os_aload_n (r := x0) hX dX6_limit_7 rfl rfl ?_
    refine os_aload_n (r := x0) hX dX6_limit_8 rfl rfl ?_
    obtain ⟨v44, e45, h⟩ := obn_e h
    refine ow_get (r := x0) hX dX6_limit_9 oF_RX6_24 (ovi_e e45) ?_
    refine os_if_ne (tgt := 21) hX dX6_limit_12 (by decide) (fun c46 => ?_) (fun c46 => ?_)
    · rw [if_neg c46] at h
      refine os_weak hX (lw := [none, none, none, none, none, none, none]) trivial ?_
      exact qj_X6_limit_21 hX hc h
    · rw [if_pos c46] at h
      refine os_lload_n hX dX6_limit_15 rfl rfl ?_
      refine os_lconst (v := 0) hX dX6_limit_16 (by decide) ?_
      refine os_lcmp hX dX6_limit_17 ?_
      refine os_if_ge (tgt := 25) hX dX6_limit_18 (by decide) (fun c47 => ?_) (fun c47 => ?_)
      · rw [if_pos c47] at h
        refine os_iconst (v := 0) hX dX6_limit_25 (by decide) ?_
        obtain ⟨s48, e49, h⟩ := obn_e h
        refine ow_put (r := x0) (x := .int 0) hX dX6_limit_26 oF_RX6_24 (by decide) (opn_Z oT_8_4 (by decide)) e49 ?_
        exact os_vret hX dX6_limit_29 rfl (Option.some.inj h)
      · rw [if_neg c47] at h
        refine os_weak hX (lw := [none, none, none, none, none, none, none]) trivial ?_
        exact qj_X6_limit_21 hX hc h
def ol_X2_insteadOf_2 (n : Nat) (call : oCl) (κ : oKv) : Nat → Option Nat → Option Nat → Int32 → oSt → oRs
  | 0, _, _, _, _ => none
  | f + 1, x0, x1, x2, σ =>
    obn (ovr (ofd σ x0 4 9)) fun v1 =>
    if v1 = none then
      some (some (va_rf none), σ)
    else
      if x1 = none then
        some (some (va_rf none), σ)
      else
        obn (ovr (ofd σ x0 4 9)) fun v5 =>
        obn (oln2 κ σ v5) fun v7 =>
        if v7 ≤ x2 then
          some (some (va_rf none), σ)
        else
          obn (ovr (ofd σ x0 4 9)) fun v10 =>
          obn (oar σ v10 x2) fun v12 =>
          if v12 = x1 then
            obn (ovr (ofd σ x0 4 10)) fun v15 =>
            obn (oar σ v15 x2) fun v17 =>
            some (some (va_rf v17), σ)
          else
            ol_X2_insteadOf_2 n call κ f x0 x1 (x2 + 1) σ
def ob_X2_insteadOf (n : Nat) (call : oCl) (κ : oKv) (x0 : Option Nat) (x1 : Option Nat) (σ : oSt) : oRs :=
  ol_X2_insteadOf_2 n call κ n x0 x1 0 σ
set_option maxHeartbeats 4000000 in
theorem ql_X2_insteadOf_2 {κ : oKv} {n : Nat} {call : oCl} {kc : Nat → List Value → oSt → Option Value × oSt → Prop} {v : Option Value × oSt} {X : Nat → zLv → List Value → oSt → Prop} (hX : oSem RX2 cX2_insteadOf 3 0 (some (.object "LiquidTongue$Sum")) κ kc v X) (hc : ∀ j av s w, call j av s = some w → kc j av s w) : ∀ (f : Nat) (x0 : Option Nat) (x1 : Option Nat) (x2 : Int32) (σ : oSt), ol_X2_insteadOf_2 n call κ f x0 x1 x2 σ = some v → X 2 [some (va_rf x0), some (va_rf x1), some (.int x2)] [] σ := by
  intro f
  induction f with
  | zero => intro x0 x1 x2 σ h; cases h
  | succ f hk2 =>
    intro x0 x1 x2 σ h
    rw [ol_X2_insteadOf_2] at h
    refine os_aload_n (r := x0) hX dX2_insteadOf_2 rfl rfl ?_
    obtain ⟨v1, e2, h⟩ := obn_e h
    refine ow_get (r := x0) hX dX2_insteadOf_3 oF_RX2_17 (ovr_e e2) ?_
    refine os_ifnull (r := v1) (tgt := 45) hX dX2_insteadOf_6 (by decide) (fun c3 => ?_) (fun c3 => ?_)
    · rw [if_pos c3] at h
      refine os_null hX dX2_insteadOf_45 ?_
      exact os_aret (r := none) hX dX2_insteadOf_46 rfl (Option.some.inj h)
    · rw [if_neg c3] at h
      refine os_aload_n (r := x1) hX dX2_insteadOf_9 rfl rfl ?_
      refine os_ifnull (r := x1) (tgt := 45) hX dX2_insteadOf_10 (by decide) (fun c4 => ?_) (fun c4 => ?_)
      · rw [if_pos c4] at h
        refine os_null hX dX2_insteadOf_45 ?_
        exact os_aret (r := none) hX dX2_insteadOf_46 rfl (Option.some.inj h)
      · rw [if_neg c4] at h
        refine os_iload_n hX dX2_insteadOf_13 rfl rfl ?_
        refine os_aload_n (r := x0) hX dX2_insteadOf_14 rfl rfl ?_
        obtain ⟨v5, e6, h⟩ := obn_e h
        refine ow_get (r := x0) hX dX2_insteadOf_15 oF_RX2_17 (ovr_e e6) ?_
        obtain ⟨v7, e8, h⟩ := obn_e h
        refine ow_len (r := v5) hX dX2_insteadOf_18 e8 ?_
        refine os_icmp_ge (tgt := 45) hX dX2_insteadOf_19 (by decide) (fun c9 => ?_) (fun c9 => ?_)
        · rw [if_pos c9] at h
          refine os_null hX dX2_insteadOf_45 ?_
          exact os_aret (r := none) hX dX2_insteadOf_46 rfl (Option.some.inj h)
        · rw [if_neg c9] at h
          refine os_aload_n (r := x0) hX dX2_insteadOf_22 rfl rfl ?_
          obtain ⟨v10, e11, h⟩ := obn_e h
          refine ow_get (r := x0) hX dX2_insteadOf_23 oF_RX2_17 (ovr_e e11) ?_
          refine os_iload_n hX dX2_insteadOf_26 rfl rfl ?_
          obtain ⟨v12, e13, h⟩ := obn_e h
          refine ow_ar (r := v10) (i := x2) hX dX2_insteadOf_27 e13 ?_
          refine os_aload_n (r := x1) hX dX2_insteadOf_28 rfl rfl ?_
          refine os_acmp_ne (rx := v12) (ry := x1) (tgt := 39) hX dX2_insteadOf_29 (by decide) (fun c14 => ?_) (fun c14 => ?_)
          · rw [if_neg c14] at h
            refine os_iinc (v := x2 + 1) hX dX2_insteadOf_39 rfl rfl (by decide) (ozlo (i := 1) (r := x1) rfl) ?_
            dsimp only [List.set]
            refine os_goto (tgt := 2) hX dX2_insteadOf_42 (by decide) ?_
            exact hk2 _ _ _ _ h
          · rw [if_pos c14] at h
            refine os_aload_n (r := x0) hX dX2_insteadOf_32 rfl rfl ?_
            obtain ⟨v15, e16, h⟩ := obn_e h
            refine ow_get (r := x0) hX dX2_insteadOf_33 oF_RX2_21 (ovr_e e16) ?_
            refine os_iload_n hX dX2_insteadOf_36 rfl rfl ?_
            obtain ⟨v17, e18, h⟩ := obn_e h
            refine ow_ar (r := v15) (i := x2) hX dX2_insteadOf_37 e18 ?_
            exact os_aret (r := v17) hX dX2_insteadOf_38 rfl (Option.some.inj h)
set_option maxHeartbeats 4000000 in
theorem qb_X2_insteadOf {κ : oKv} {n : Nat} {call : oCl} {kc : Nat → List Value → oSt → Option Value × oSt → Prop} {v : Option Value × oSt} {X : Nat → zLv → List Value → oSt → Prop} (hX : oSem RX2 cX2_insteadOf 3 0 (some (.object "LiquidTongue$Sum")) κ kc v X) (hc : ∀ j av s w, call j av s = some w → kc j av s w) {x0 : Option Nat} {x1 : Option Nat} {σ : oSt} (h : ob_X2_insteadOf n call κ x0 x1 σ = some v) : X 0 [some (va_rf x0), some (va_rf x1), none] [] σ := by
  rw [ob_X2_insteadOf] at h
  refine os_iconst (v := 0) hX dX2_insteadOf_0 (by decide) ?_
  refine os_istore_n hX dX2_insteadOf_1 rfl (by decide) (ozlo (i := 1) (r := x1) rfl) ?_
  dsimp only [List.set]
  exact ql_X2_insteadOf_2 hX hc n _ _ _ _ h
def oj_X2_recall_128 (n : Nat) (call : oCl) (κ : oKv) (x0 : Option Nat) (x3 : Option Nat) (t0 : Option Nat) (t1 : Option Nat) (σ : oSt) : oRs :=
  obn (opf σ t0 4 13 (va_rf t1)) fun s1 =>
  obn (ovi (ofd s1 x0 4 12)) fun v3 =>
  obn (ovr (ofd s1 x3 11 1)) fun v5 =>
  obn (oai s1 v5 .int 0) fun v7 =>
  obn (opf s1 x0 4 12 (.int (v3 * v7))) fun s9 =>
  some (none, s9)
def oj_X2_recall_65 (n : Nat) (call : oCl) (κ : oKv) (x0 : Option Nat) (x2 : Option Nat) (t0 : Option Nat) (t1 : Option Nat) (σ : oSt) : oRs :=
  obn (opf σ t0 4 13 (va_rf t1)) fun s1 =>
  obn (ovr (ofd s1 x2 11 1)) fun v3 =>
  obn (oai s1 v3 .int 0) fun v5 =>
  obn (opf s1 x0 4 12 (.int v5)) fun s7 =>
  obn (ovr (ofd s7 x0 4 13)) fun v9 =>
  obn (oob s7 x0 4) fun a11 =>
  orn (call 45 [va_rf x0, va_rf v9] s7) fun r15 s13 =>
  if r15 = none then
    some (none, s13)
  else
    obn (ovl (ofd s13 x0 4 14)) fun v17 =>
    obn (ovi (ofd s13 x0 4 12)) fun v19 =>
    obn (ovl (ofd s13 r15 11 3)) fun v21 =>
    obn (opf s13 x0 4 14 (.long (v17 + (v19.toInt64 * v21)))) fun s23 =>
    obn (ovi (ofd s23 r15 11 2)) fun v25 =>
    if v25 = 0 then
      oj_X2_recall_128 n call κ x0 r15 x0 none s23
    else
      obn (ovr (ofd s23 r15 11 0)) fun v28 =>
      obn (oar s23 v28 0) fun v30 =>
      oj_X2_recall_128 n call κ x0 r15 x0 v30 s23
def ob_X2_recall (n : Nat) (call : oCl) (κ : oKv) (x0 : Option Nat) (x1 : Int32) (σ : oSt) : oRs :=
  if x1 < 0 then
    some (none, σ)
  else
    obn (ovr (ofd σ x0 4 1)) fun v2 =>
    obn (ovi (ofd σ v2 4 7)) fun v4 =>
    if x1 < v4 then
      obn (ovr (ofd σ x0 4 1)) fun v7 =>
      obn (ovr (ofd σ v7 4 6)) fun v9 =>
      obn (oar σ v9 x1) fun v11 =>
      obn (ovr (ofd σ x0 4 1)) fun v13 =>
      obn (ovr (ofd σ v13 4 5)) fun v15 =>
      obn (oai σ v15 .int x1) fun v17 =>
      obn (opf σ x0 4 11 (.int v17)) fun s19 =>
      obn (ovl (ofd s19 v11 11 3)) fun v21 =>
      obn (opf s19 x0 4 14 (.long v21)) fun s23 =>
      obn (ovi (ofd s23 v11 11 2)) fun v25 =>
      if v25 = 0 then
        oj_X2_recall_65 n call κ x0 v11 x0 none s23
      else
        obn (ovr (ofd s23 v11 11 0)) fun v28 =>
        obn (oar s23 v28 0) fun v30 =>
        oj_X2_recall_65 n call κ x0 v11 x0 v30 s23
    else
      some (none, σ)
set_option maxHeartbeats 4000000 in
theorem qj_X2_recall_128 {κ : oKv} {n : Nat} {call : oCl} {kc : Nat → List Value → oSt → Option Value × oSt → Prop} {v : Option Value × oSt} {X : Nat → zLv → List Value → oSt → Prop} (hX : oSem RX2 cX2_recall 4 0 none κ kc v X) (hc : ∀ j av s w, call j av s = some w → kc j av s w) {x0 : Option Nat} {x3 : Option Nat} {t0 : Option Nat} {t1 : Option Nat} {σ : oSt} (h : oj_X2_recall_128 n call κ x0 x3 t0 t1 σ = some v) : X 128 [some (va_rf x0), none, none, some (va_rf x3)] [va_rf t1, va_rf t0] σ := by
  rw [oj_X2_recall_128] at h
  obtain ⟨s1, e2, h⟩ := obn_e h
  refine ow_put (r := t0) (x := va_rf t1) hX dX2_recall_128 oF_RX2_63 (by decide) (orf_n (Or.inl ⟨_, oT_4_13⟩) t1) e2 ?_
  refine os_aload_n (r := x0) hX dX2_recall_131 rfl rfl ?_
  refine os_dup hX dX2_recall_132 (ocat x0) ?_
  obtain ⟨v3, e4, h⟩ := obn_e h
  refine ow_get (r := x0) hX dX2_recall_133 oF_RX2_70 (ovi_e e4) ?_
  refine os_aload_n (r := x3) hX dX2_recall_136 rfl rfl ?_
  obtain ⟨v5, e6, h⟩ := obn_e h
  refine ow_get (r := x3) hX dX2_recall_137 oF_RX2_67 (ovr_e e6) ?_
  refine os_iconst (v := 0) hX dX2_recall_140 (by decide) ?_
  obtain ⟨v7, e8, h⟩ := obn_e h
  refine ow_ai (r := v5) (i := 0) hX dX2_recall_141 e8 ?_
  refine os_imul hX dX2_recall_142 ?_
  obtain ⟨s9, e10, h⟩ := obn_e h
  refine ow_put (r := x0) (x := .int (v3 * v7)) hX dX2_recall_143 oF_RX2_70 (by decide) (opn_I oT_4_12) e10 ?_
  exact os_vret hX dX2_recall_146 rfl (Option.some.inj h)
set_option maxHeartbeats 4000000 in
theorem qj_X2_recall_65 {κ : oKv} {n : Nat} {call : oCl} {kc : Nat → List Value → oSt → Option Value × oSt → Prop} {v : Option Value × oSt} {X : Nat → zLv → List Value → oSt → Prop} (hX : oSem RX2 cX2_recall 4 0 none κ kc v X) (hc : ∀ j av s w, call j av s = some w → kc j av s w) {x0 : Option Nat} {x2 : Option Nat} {t0 : Option Nat} {t1 : Option Nat} {σ : oSt} (h : oj_X2_recall_65 n call κ x0 x2 t0 t1 σ = some v) : X 65 [some (va_rf x0), none, some (va_rf x2), none] [va_rf t1, va_rf t0] σ := by
  rw [oj_X2_recall_65] at h
  obtain ⟨s1, e2, h⟩ := obn_e h
  refine ow_put (r := t0) (x := va_rf t1) hX dX2_recall_65 oF_RX2_63 (by decide) (orf_n (Or.inl ⟨_, oT_4_13⟩) t1) e2 ?_
  refine os_aload_n (r := x0) hX dX2_recall_68 rfl rfl ?_
  refine os_aload_n (r := x2) hX dX2_recall_69 rfl rfl ?_
  obtain ⟨v3, e4, h⟩ := obn_e h
  refine ow_get (r := x2) hX dX2_recall_70 oF_RX2_67 (ovr_e e4) ?_
  refine os_iconst (v := 0) hX dX2_recall_73 (by decide) ?_
  obtain ⟨v5, e6, h⟩ := obn_e h
  refine ow_ai (r := v3) (i := 0) hX dX2_recall_74 e6 ?_
  obtain ⟨s7, e8, h⟩ := obn_e h
  refine ow_put (r := x0) (x := .int v5) hX dX2_recall_75 oF_RX2_70 (by decide) (opn_I oT_4_12) e8 ?_
  refine os_aload_n (r := x0) hX dX2_recall_78 rfl rfl ?_
  refine os_aload_n (r := x0) hX dX2_recall_79 rfl rfl ?_
  obtain ⟨v9, e10, h⟩ := obn_e h
  refine ow_get (r := x0) hX dX2_recall_80 oF_RX2_63 (ovr_e e10) ?_
  obtain ⟨a11, e12, h⟩ := obn_e h
  obtain ⟨r15, s13, e14, h⟩ := orn_e h
  refine oc_RX2_72 (rb := x0) (a1 := va_rf v9) hX dX2_recall_83 (Nat.le_of_ble_eq_true rfl) e12 (hc _ _ _ _ e14) ?_
  refine os_astore_n (r := r15) hX dX2_recall_86 rfl (by decide) (ozlo (i := 2) (r := x2) rfl) ?_
  dsimp only [List.set]
  refine os_aload_n (r := r15) hX dX2_recall_87 rfl rfl ?_
  refine os_ifnull (r := r15) (tgt := 146) hX dX2_recall_88 (by decide) (fun c16 => ?_) (fun c16 => ?_)
  · rw [if_pos c16] at h
    exact os_vret hX dX2_recall_146 rfl (Option.some.inj h)
  · rw [if_neg c16] at h
    refine os_aload_n (r := x0) hX dX2_recall_91 rfl rfl ?_
    refine os_dup hX dX2_recall_92 (ocat x0) ?_
    obtain ⟨v17, e18, h⟩ := obn_e h
    refine ow_get (r := x0) hX dX2_recall_93 oF_RX2_58 (ovl_e e18) ?_
    refine os_aload_n (r := x0) hX dX2_recall_96 rfl rfl ?_
    obtain ⟨v19, e20, h⟩ := obn_e h
    refine ow_get (r := x0) hX dX2_recall_97 oF_RX2_70 (ovi_e e20) ?_
    refine os_i2l hX dX2_recall_100 ?_
    refine os_aload_n (r := r15) hX dX2_recall_101 rfl rfl ?_
    obtain ⟨v21, e22, h⟩ := obn_e h
    refine ow_get (r := r15) hX dX2_recall_102 oF_RX2_54 (ovl_e e22) ?_
    refine os_lmul hX dX2_recall_105 ?_
    refine os_ladd hX dX2_recall_106 ?_
    obtain ⟨s23, e24, h⟩ := obn_e h
    refine ow_put (r := x0) (x := .long (v17 + (v19.toInt64 * v21))) hX dX2_recall_107 oF_RX2_58 (by decide) (opn_J oT_4_14) e24 ?_
    refine os_aload_n (r := x0) hX dX2_recall_110 rfl rfl ?_
    refine os_aload_n (r := r15) hX dX2_recall_111 rfl rfl ?_
    obtain ⟨v25, e26, h⟩ := obn_e h
    refine ow_get (r := r15) hX dX2_recall_112 oF_RX2_59 (ovi_e e26) ?_
    refine os_if_ne (tgt := 122) hX dX2_recall_115 (by decide) (fun c27 => ?_) (fun c27 => ?_)
    · rw [if_neg c27] at h
      refine os_aload_n (r := r15) hX dX2_recall_122 rfl rfl ?_
      obtain ⟨v28, e29, h⟩ := obn_e h
      refine ow_get (r := r15) hX dX2_recall_123 oF_RX2_60 (ovr_e e29) ?_
      refine os_iconst (v := 0) hX dX2_recall_126 (by decide) ?_
      obtain ⟨v30, e31, h⟩ := obn_e h
      refine ow_ar (r := v28) (i := 0) hX dX2_recall_127 e31 ?_
      refine os_weak hX (lw := [some (va_rf x0), none, none, some (va_rf r15)]) ⟨rfl, rfl, trivial⟩ ?_
      exact qj_X2_recall_128 hX hc h
    · rw [if_pos c27] at h
      refine os_null hX dX2_recall_118 ?_
      refine os_goto (tgt := 128) hX dX2_recall_119 (by decide) ?_
      refine os_weak hX (lw := [some (va_rf x0), none, none, some (va_rf r15)]) ⟨rfl, rfl, trivial⟩ ?_
      exact qj_X2_recall_128 hX hc h
set_option maxHeartbeats 4000000 in
theorem qb_X2_recall {κ : oKv} {n : Nat} {call : oCl} {kc : Nat → List Value → oSt → Option Value × oSt → Prop} {v : Option Value × oSt} {X : Nat → zLv → List Value → oSt → Prop} (hX : oSem RX2 cX2_recall 4 0 none κ kc v X) (hc : ∀ j av s w, call j av s = some w → kc j av s w) {x0 : Option Nat} {x1 : Int32} {σ : oSt} (h : ob_X2_recall n call κ x0 x1 σ = some v) : X 0 [some (va_rf x0), some (.int x1), none, none] [] σ := by
  rw [ob_X2_recall] at h
  refine os_iload_n hX dX2_recall_0 rfl rfl ?_
  refine os_if_lt (tgt := 15) hX dX2_recall_1 (by decide) (fun c1 => ?_) (fun c1 => ?_)
  · rw [if_pos c1] at h
    exact os_vret hX dX2_recall_15 rfl (Option.some.inj h)
  · rw [if_neg c1] at h
    refine os_iload_n hX dX2_recall_4 rfl rfl ?_
    refine os_aload_n (r := x0) hX dX2_recall_5 rfl rfl ?_
    obtain ⟨v2, e3, h⟩ := obn_e h
    refine ow_get (r := x0) hX dX2_recall_6 oF_RX2_13 (ovr_e e3) ?_
    obtain ⟨v4, e5, h⟩ := obn_e h
    refine ow_get (r := v2) hX dX2_recall_9 oF_RX2_48 (ovi_e e5) ?_
    refine os_icmp_lt (tgt := 16) hX dX2_recall_12 (by decide) (fun c6 => ?_) (fun c6 => ?_)
    · rw [if_pos c6] at h
      refine os_aload_n (r := x0) hX dX2_recall_16 rfl rfl ?_
      obtain ⟨v7, e8, h⟩ := obn_e h
      refine ow_get (r := x0) hX dX2_recall_17 oF_RX2_13 (ovr_e e8) ?_
      obtain ⟨v9, e10, h⟩ := obn_e h
      refine ow_get (r := v7) hX dX2_recall_20 oF_RX2_45 (ovr_e e10) ?_
      refine os_iload_n hX dX2_recall_23 rfl rfl ?_
      obtain ⟨v11, e12, h⟩ := obn_e h
      refine ow_ar (r := v9) (i := x1) hX dX2_recall_24 e12 ?_
      refine os_astore_n (r := v11) hX dX2_recall_25 rfl (by decide) rfl ?_
      dsimp only [List.set]
      refine os_aload_n (r := x0) hX dX2_recall_26 rfl rfl ?_
      refine os_aload_n (r := x0) hX dX2_recall_27 rfl rfl ?_
      obtain ⟨v13, e14, h⟩ := obn_e h
      refine ow_get (r := x0) hX dX2_recall_28 oF_RX2_13 (ovr_e e14) ?_
      obtain ⟨v15, e16, h⟩ := obn_e h
      refine ow_get (r := v13) hX dX2_recall_31 oF_RX2_41 (ovr_e e16) ?_
      refine os_iload_n hX dX2_recall_34 rfl rfl ?_
      obtain ⟨v17, e18, h⟩ := obn_e h
      refine ow_ai (r := v15) (i := x1) hX dX2_recall_35 e18 ?_
      obtain ⟨s19, e20, h⟩ := obn_e h
      refine ow_put (r := x0) (x := .int v17) hX dX2_recall_36 oF_RX2_51 (by decide) (opn_I oT_4_11) e20 ?_
      refine os_aload_n (r := x0) hX dX2_recall_39 rfl rfl ?_
      refine os_aload_n (r := v11) hX dX2_recall_40 rfl rfl ?_
      obtain ⟨v21, e22, h⟩ := obn_e h
      refine ow_get (r := v11) hX dX2_recall_41 oF_RX2_54 (ovl_e e22) ?_
      obtain ⟨s23, e24, h⟩ := obn_e h
      refine ow_put (r := x0) (x := .long v21) hX dX2_recall_44 oF_RX2_58 (by decide) (opn_J oT_4_14) e24 ?_
      refine os_aload_n (r := x0) hX dX2_recall_47 rfl rfl ?_
      refine os_aload_n (r := v11) hX dX2_recall_48 rfl rfl ?_
      obtain ⟨v25, e26, h⟩ := obn_e h
      refine ow_get (r := v11) hX dX2_recall_49 oF_RX2_59 (ovi_e e26) ?_
      refine os_if_ne (tgt := 59) hX dX2_recall_52 (by decide) (fun c27 => ?_) (fun c27 => ?_)
      · rw [if_neg c27] at h
        refine os_aload_n (r := v11) hX dX2_recall_59 rfl rfl ?_
        obtain ⟨v28, e29, h⟩ := obn_e h
        refine ow_get (r := v11) hX dX2_recall_60 oF_RX2_60 (ovr_e e29) ?_
        refine os_iconst (v := 0) hX dX2_recall_63 (by decide) ?_
        obtain ⟨v30, e31, h⟩ := obn_e h
        refine ow_ar (r := v28) (i := 0) hX dX2_recall_64 e31 ?_
        refine os_weak hX (lw := [some (va_rf x0), none, some (va_rf v11), none]) ⟨rfl, rfl, trivial⟩ ?_
        exact qj_X2_recall_65 hX hc h
      · rw [if_pos c27] at h
        refine os_null hX dX2_recall_55 ?_
        refine os_goto (tgt := 65) hX dX2_recall_56 (by decide) ?_
        refine os_weak hX (lw := [some (va_rf x0), none, some (va_rf v11), none]) ⟨rfl, rfl, trivial⟩ ?_
        exact qj_X2_recall_65 hX hc h
    · rw [if_neg c6] at h
      exact os_vret hX dX2_recall_15 rfl (Option.some.inj h)
