/-! the methods of the class as plain functions (143 to 155) -/
def oj_X7_readRec_62 (n : Nat) (call : oCl) (κ : oKv) (x0 : Option Nat) (x1 : Option Nat) (x2 : Int32) (σ : oSt) : oRs :=
  obn (oob σ x0 9) fun a1 =>
  ocv (call 108 [va_rf x0, .int 61] σ) fun s3 =>
  obn (oob s3 x0 9) fun a6 =>
  orn (call 135 [va_rf x0, .int (x2 + 1)] s3) fun r10 s8 =>
  obn (opf s8 x1 7 12 (va_rf r10)) fun s11 =>
  obn (oob s11 x0 9) fun a13 =>
  ocv (call 108 [va_rf x0, .int 208] s11) fun s15 =>
  obn (ovi (ofd s15 x0 9 12)) fun v18 =>
  obn (ovr (ofd s15 x1 7 11)) fun v20 =>
  obn (oob s15 v20 1) fun a22 =>
  oin (call 236 [va_rf v20] s15) fun r26 s24 =>
  obn (opf s24 x0 9 12 (.int (v18 - r26))) fun s27 =>
  obn (oob s27 x0 9) fun a29 =>
  orn (call 135 [va_rf x0, .int (x2 + 1)] s27) fun r33 s31 =>
  obn (opf s31 x1 7 13 (va_rf r33)) fun s34 =>
  obn (ovi (ofd s34 x0 9 12)) fun v36 =>
  obn (opf s34 x0 9 12 (.int (v36 - 1))) fun s38 =>
  some (none, s38)
def oj_X7_readRec_51 (n : Nat) (call : oCl) (κ : oKv) (k34 : Option Nat → Option Nat → Int32 → Int32 → oSt → oRs) (x0 : Option Nat) (x1 : Option Nat) (x2 : Int32) (x3 : Int32) (σ : oSt) : oRs :=
  obn (oob σ x0 9) fun a1 =>
  ocv (call 132 [va_rf x0, va_rf x1] σ) fun s3 =>
  k34 x0 x1 x2 (x3 + 1) s3
def ol_X7_readRec_34 (n : Nat) (call : oCl) (κ : oKv) : Nat → Option Nat → Option Nat → Int32 → Int32 → oSt → oRs
  | 0, _, _, _, _, _ => none
  | f + 1, x0, x1, x2, x3, σ =>
    if 4 ≤ x3 then
      oj_X7_readRec_62 n call κ x0 x1 x2 σ
    else
      if x3 = 0 then
        oj_X7_readRec_51 n call κ (ol_X7_readRec_34 n call κ f) x0 x1 x2 x3 σ
      else
        obn (oob σ x0 9) fun a3 =>
        oin (call 104 [va_rf x0] σ) fun r7 s5 =>
        if r7 = 1 then
          oj_X7_readRec_51 n call κ (ol_X7_readRec_34 n call κ f) x0 x1 x2 x3 s5
        else
          oj_X7_readRec_62 n call κ x0 x1 x2 s5
def ob_X7_readRec (n : Nat) (call : oCl) (κ : oKv) (x0 : Option Nat) (x1 : Option Nat) (x2 : Int32) (σ : oSt) : oRs :=
  obn (opf σ x1 7 0 (.int 219)) fun s1 =>
  obn (oob s1 x0 9) fun a3 =>
  ocv (call 105 [va_rf x0] s1) fun s5 =>
  obn (oob s5 x0 9) fun a8 =>
  ocv (call 131 [va_rf x0, va_rf x1] s5) fun s10 =>
  obn (oob s10 x0 9) fun a13 =>
  orn (call 115 [va_rf x0] s10) fun r17 s15 =>
  obn (opf s15 x1 7 10 (va_rf r17)) fun s18 =>
  obn (ovr (ofd s18 x1 7 10)) fun v20 =>
  obn (oob s18 x0 9) fun a22 =>
  ocv (call 116 [va_rf x0, va_rf v20] s18) fun s24 =>
  ol_X7_readRec_34 n call κ n x0 x1 x2 0 s24
set_option maxHeartbeats 4000000 in
theorem qj_X7_readRec_62 {κ : oKv} {n : Nat} {call : oCl} {kc : Nat → List Value → oSt → Option Value × oSt → Prop} {v : Option Value × oSt} {X : Nat → zLv → List Value → oSt → Prop} (hX : oSem RX7 cX7_readRec 4 0 none κ kc v X) (hc : ∀ j av s w, call j av s = some w → kc j av s w) {x0 : Option Nat} {x1 : Option Nat} {x2 : Int32} {σ : oSt} (h : oj_X7_readRec_62 n call κ x0 x1 x2 σ = some v) : X 62 [some (va_rf x0), some (va_rf x1), some (.int x2), none] [] σ := by
  rw [oj_X7_readRec_62] at h
  refine os_aload_n (r := x0) hX dX7_readRec_62 rfl rfl ?_
  refine os_bipush (v := 61) hX dX7_readRec_63 (by decide) ?_
  obtain ⟨a1, e2, h⟩ := obn_e h
  obtain ⟨s3, e4, h⟩ := ocv_e h
  refine oc_RX7_109 (rb := x0) (a1 := .int 61) hX dX7_readRec_65 (Nat.le_of_ble_eq_true rfl) e2 (hc _ _ _ _ e4) ?_
  refine os_aload_n (r := x1) hX dX7_readRec_68 rfl rfl ?_
  refine os_aload_n (r := x0) hX dX7_readRec_69 rfl rfl ?_
  refine os_iload_n hX dX7_readRec_70 rfl rfl ?_
  refine os_iconst (v := 1) hX dX7_readRec_71 (by decide) ?_
  refine os_iadd hX dX7_readRec_72 ?_
  obtain ⟨a6, e7, h⟩ := obn_e h
  obtain ⟨r10, s8, e9, h⟩ := orn_e h
  refine oc_RX7_70 (rb := x0) (a1 := .int (x2 + 1)) hX dX7_readRec_73 (by simp only [List.map_cons, List.map_nil, List.sum_cons, List.sum_nil, ocat]; exact Nat.le_of_ble_eq_true rfl) e7 (hc _ _ _ _ e9) ?_
  obtain ⟨s11, e12, h⟩ := obn_e h
  refine ow_put (r := x1) (x := va_rf r10) hX dX7_readRec_76 oF_RX7_212 (by decide) (orf_n (Or.inl ⟨_, oT_7_12⟩) r10) e12 ?_
  refine os_aload_n (r := x0) hX dX7_readRec_79 rfl rfl ?_
  refine os_sipush (v := 208) hX dX7_readRec_80 (by decide) ?_
  obtain ⟨a13, e14, h⟩ := obn_e h
  obtain ⟨s15, e16, h⟩ := ocv_e h
  refine oc_RX7_109 (rb := x0) (a1 := .int 208) hX dX7_readRec_83 (Nat.le_of_ble_eq_true rfl) e14 (hc _ _ _ _ e16) ?_
  refine os_aload_n (r := x0) hX dX7_readRec_86 rfl rfl ?_
  refine os_dup hX dX7_readRec_87 (ocat x0) ?_
  obtain ⟨v18, e19, h⟩ := obn_e h
  refine ow_get (r := x0) hX dX7_readRec_88 oF_RX7_103 (ovi_e e19) ?_
  refine os_aload_n (r := x1) hX dX7_readRec_91 rfl rfl ?_
  obtain ⟨v20, e21, h⟩ := obn_e h
  refine ow_get (r := x1) hX dX7_readRec_92 oF_RX7_235 (ovr_e e21) ?_
  obtain ⟨a22, e23, h⟩ := obn_e h
  obtain ⟨r26, s24, e25, h⟩ := oin_e h
  refine oc_RX7_238 (rb := v20)  hX dX7_readRec_95 (by simp only [List.map_cons, List.map_nil, List.sum_cons, List.sum_nil, ocat]; exact Nat.le_of_ble_eq_true rfl) e23 (hc _ _ _ _ e25) ?_
  refine os_isub hX dX7_readRec_98 ?_
  obtain ⟨s27, e28, h⟩ := obn_e h
  refine ow_put (r := x0) (x := .int (v18 - r26)) hX dX7_readRec_99 oF_RX7_103 (by decide) (opn_I oT_9_12) e28 ?_
  refine os_aload_n (r := x1) hX dX7_readRec_102 rfl rfl ?_
  refine os_aload_n (r := x0) hX dX7_readRec_103 rfl rfl ?_
  refine os_iload_n hX dX7_readRec_104 rfl rfl ?_
  refine os_iconst (v := 1) hX dX7_readRec_105 (by decide) ?_
  refine os_iadd hX dX7_readRec_106 ?_
  obtain ⟨a29, e30, h⟩ := obn_e h
  obtain ⟨r33, s31, e32, h⟩ := orn_e h
  refine oc_RX7_70 (rb := x0) (a1 := .int (x2 + 1)) hX dX7_readRec_107 (by simp only [List.map_cons, List.map_nil, List.sum_cons, List.sum_nil, ocat]; exact Nat.le_of_ble_eq_true rfl) e30 (hc _ _ _ _ e32) ?_
  obtain ⟨s34, e35, h⟩ := obn_e h
  refine ow_put (r := x1) (x := va_rf r33) hX dX7_readRec_110 oF_RX7_223 (by decide) (orf_n (Or.inl ⟨_, oT_7_13⟩) r33) e35 ?_
  refine os_aload_n (r := x0) hX dX7_readRec_113 rfl rfl ?_
  refine os_dup hX dX7_readRec_114 (ocat x0) ?_
  obtain ⟨v36, e37, h⟩ := obn_e h
  refine ow_get (r := x0) hX dX7_readRec_115 oF_RX7_103 (ovi_e e37) ?_
  refine os_iconst (v := 1) hX dX7_readRec_118 (by decide) ?_
  refine os_isub hX dX7_readRec_119 ?_
  obtain ⟨s38, e39, h⟩ := obn_e h
  refine ow_put (r := x0) (x := .int (v36 - 1)) hX dX7_readRec_120 oF_RX7_103 (by decide) (opn_I oT_9_12) e39 ?_
  exact os_vret hX dX7_readRec_123 rfl (Option.some.inj h)
set_option maxHeartbeats 4000000 in
theorem qj_X7_readRec_51 {κ : oKv} {n : Nat} {call : oCl} {kc : Nat → List Value → oSt → Option Value × oSt → Prop} {v : Option Value × oSt} {X : Nat → zLv → List Value → oSt → Prop} (hX : oSem RX7 cX7_readRec 4 0 none κ kc v X) (hc : ∀ j av s w, call j av s = some w → kc j av s w) {k34 : Option Nat → Option Nat → Int32 → Int32 → oSt → oRs} (hk34 : ∀ (x0 : Option Nat) (x1 : Option Nat) (x2 : Int32) (x3 : Int32) (s : oSt), k34 x0 x1 x2 x3 s = some v → X 34 [some (va_rf x0), some (va_rf x1), some (.int x2), some (.int x3)] [] s) {x0 : Option Nat} {x1 : Option Nat} {x2 : Int32} {x3 : Int32} {σ : oSt} (h : oj_X7_readRec_51 n call κ k34 x0 x1 x2 x3 σ = some v) : X 51 [some (va_rf x0), some (va_rf x1), some (.int x2), some (.int x3)] [] σ := by
  rw [oj_X7_readRec_51] at h
  refine os_aload_n (r := x0) hX dX7_readRec_51 rfl rfl ?_
  refine os_aload_n (r := x1) hX dX7_readRec_52 rfl rfl ?_
  obtain ⟨a1, e2, h⟩ := obn_e h
  obtain ⟨s3, e4, h⟩ := ocv_e h
  refine oc_RX7_232 (rb := x0) (a1 := va_rf x1) hX dX7_readRec_53 (Nat.le_of_ble_eq_true rfl) e2 (hc _ _ _ _ e4) ?_
  refine os_iinc (v := x3 + 1) hX dX7_readRec_56 rfl rfl (by decide) rfl ?_
  dsimp only [List.set]
  refine os_goto (tgt := 34) hX dX7_readRec_59 (by decide) ?_
  exact hk34 _ _ _ _ _ h
set_option maxHeartbeats 4000000 in
theorem ql_X7_readRec_34 {κ : oKv} {n : Nat} {call : oCl} {kc : Nat → List Value → oSt → Option Value × oSt → Prop} {v : Option Value × oSt} {X : Nat → zLv → List Value → oSt → Prop} (hX : oSem RX7 cX7_readRec 4 0 none κ kc v X) (hc : ∀ j av s w, call j av s = some w → kc j av s w) : ∀ (f : Nat) (x0 : Option Nat) (x1 : Option Nat) (x2 : Int32) (x3 : Int32) (σ : oSt), ol_X7_readRec_34 n call κ f x0 x1 x2 x3 σ = some v → X 34 [some (va_rf x0), some (va_rf x1), some (.int x2), some (.int x3)] [] σ := by
  intro f
  induction f with
  | zero => intro x0 x1 x2 x3 σ h; cases h
  | succ f hk34 =>
    intro x0 x1 x2 x3 σ h
    rw [ol_X7_readRec_34] at h
    refine os_iload_n hX dX7_readRec_34 rfl rfl ?_
    refine os_iconst (v := 4) hX dX7_readRec_35 (by decide) ?_
    refine os_icmp_ge (tgt := 62) hX dX7_readRec_36 (by decide) (fun c1 => ?_) (fun c1 => ?_)
    · rw [if_pos c1] at h
      refine os_weak hX (lw := [some (va_rf x0), some (va_rf x1), some (.int x2), none]) ⟨rfl, rfl, rfl, trivial⟩ ?_
      exact qj_X7_readRec_62 hX hc h
    · rw [if_neg c1] at h
      refine os_iload_n hX dX7_readRec_39 rfl rfl ?_
      refine os_if_eq (tgt := 51) hX dX7_readRec_40 (by decide) (fun c2 => ?_) (fun c2 => ?_)
      · rw [if_pos c2] at h
        exact qj_X7_readRec_51 hX hc hk34 h
      · rw [if_neg c2] at h
        refine os_aload_n (r := x0) hX dX7_readRec_43 rfl rfl ?_
        obtain ⟨a3, e4, h⟩ := obn_e h
        obtain ⟨r7, s5, e6, h⟩ := oin_e h
        refine oc_RX7_57 (rb := x0)  hX dX7_readRec_44 (Nat.le_of_ble_eq_true rfl) e4 (hc _ _ _ _ e6) ?_
        refine os_iconst (v := 1) hX dX7_readRec_47 (by decide) ?_
        refine os_icmp_ne (tgt := 62) hX dX7_readRec_48 (by decide) (fun c8 => ?_) (fun c8 => ?_)
        · rw [if_neg c8] at h
          refine os_weak hX (lw := [some (va_rf x0), some (va_rf x1), some (.int x2), none]) ⟨rfl, rfl, rfl, trivial⟩ ?_
          exact qj_X7_readRec_62 hX hc h
        · rw [if_pos c8] at h
          exact qj_X7_readRec_51 hX hc hk34 h
set_option maxHeartbeats 4000000 in
theorem qb_X7_readRec {κ : oKv} {n : Nat} {call : oCl} {kc : Nat → List Value → oSt → Option Value × oSt → Prop} {v : Option Value × oSt} {X : Nat → zLv → List Value → oSt → Prop} (hX : oSem RX7 cX7_readRec 4 0 none κ kc v X) (hc : ∀ j av s w, call j av s = some w → kc j av s w) {x0 : Option Nat} {x1 : Option Nat} {x2 : Int32} {σ : oSt} (h : ob_X7_readRec n call κ x0 x1 x2 σ = some v) : X 0 [some (va_rf x0), some (va_rf x1), some (.int x2), none] [] σ := by
  rw [ob_X7_readRec] at h
  refine os_aload_n (r := x1) hX dX7_readRec_0 rfl rfl ?_
  refine os_sipush (v := 219) hX dX7_readRec_1 (by decide) ?_
  obtain ⟨s1, e2, h⟩ := obn_e h
  refine ow_put (r := x1) (x := .int 219) hX dX7_readRec_4 oF_RX7_226 (by decide) (opn_I oT_7_0) e2 ?_
  refine os_aload_n (r := x0) hX dX7_readRec_7 rfl rfl ?_
  obtain ⟨a3, e4, h⟩ := obn_e h
  obtain ⟨s5, e6, h⟩ := ocv_e h
  refine oc_RX7_98 (rb := x0)  hX dX7_readRec_8 (Nat.le_of_ble_eq_true rfl) e4 (hc _ _ _ _ e6) ?_
  refine os_aload_n (r := x0) hX dX7_readRec_11 rfl rfl ?_
  refine os_aload_n (r := x1) hX dX7_readRec_12 rfl rfl ?_
  obtain ⟨a8, e9, h⟩ := obn_e h
  obtain ⟨s10, e11, h⟩ := ocv_e h
  refine oc_RX7_228 (rb := x0) (a1 := va_rf x1) hX dX7_readRec_13 (Nat.le_of_ble_eq_true rfl) e9 (hc _ _ _ _ e11) ?_
  refine os_aload_n (r := x1) hX dX7_readRec_16 rfl rfl ?_
  refine os_aload_n (r := x0) hX dX7_readRec_17 rfl rfl ?_
  obtain ⟨a13, e14, h⟩ := obn_e h
  obtain ⟨r17, s15, e16, h⟩ := orn_e h
  refine oc_RX7_124 (rb := x0)  hX dX7_readRec_18 (by simp only [List.map_cons, List.map_nil, List.sum_cons, List.sum_nil, ocat]; exact Nat.le_of_ble_eq_true rfl) e14 (hc _ _ _ _ e16) ?_
  obtain ⟨s18, e19, h⟩ := obn_e h
  refine ow_put (r := x1) (x := va_rf r17) hX dX7_readRec_21 oF_RX7_221 (by decide) (orf_n (Or.inl ⟨_, oT_7_10⟩) r17) e19 ?_
  refine os_aload_n (r := x0) hX dX7_readRec_24 rfl rfl ?_
  refine os_aload_n (r := x1) hX dX7_readRec_25 rfl rfl ?_
  obtain ⟨v20, e21, h⟩ := obn_e h
  refine ow_get (r := x1) hX dX7_readRec_26 oF_RX7_221 (ovr_e e21) ?_
  obtain ⟨a22, e23, h⟩ := obn_e h
  obtain ⟨s24, e25, h⟩ := ocv_e h
  refine oc_RX7_131 (rb := x0) (a1 := va_rf v20) hX dX7_readRec_29 (Nat.le_of_ble_eq_true rfl) e23 (hc _ _ _ _ e25) ?_
  refine os_iconst (v := 0) hX dX7_readRec_32 (by decide) ?_
  refine os_istore_n hX dX7_readRec_33 rfl (by decide) rfl ?_
  dsimp only [List.set]
  exact ql_X7_readRec_34 hX hc n _ _ _ _ _ h
def ob_X7_readSet (n : Nat) (call : oCl) (κ : oKv) (x0 : Option Nat) (x1 : Option Nat) (x2 : Int32) (σ : oSt) : oRs :=
  obn (oob σ x0 9) fun a1 =>
  ocv (call 105 [va_rf x0] σ) fun s3 =>
  obn (oob s3 x0 9) fun a6 =>
  ocv (call 133 [va_rf x0, va_rf x1] s3) fun s8 =>
  obn (oob s8 x0 9) fun a11 =>
  ocv (call 108 [va_rf x0, .int 61] s8) fun s13 =>
  obn (oob s13 x0 9) fun a16 =>
  orn (call 121 [va_rf x0] s13) fun r20 s18 =>
  obn (opf s18 x1 7 16 (va_rf r20)) fun s21 =>
  obn (oob s21 x0 9) fun a23 =>
  ocv (call 108 [va_rf x0, .int 59] s21) fun s25 =>
  obn (oob s25 x0 9) fun a28 =>
  orn (call 135 [va_rf x0, .int (x2 + 1)] s25) fun r32 s30 =>
  obn (opf s30 x1 7 12 (va_rf r32)) fun s33 =>
  some (none, s33)
set_option maxHeartbeats 4000000 in
theorem qb_X7_readSet {κ : oKv} {n : Nat} {call : oCl} {kc : Nat → List Value → oSt → Option Value × oSt → Prop} {v : Option Value × oSt} {X : Nat → zLv → List Value → oSt → Prop} (hX : oSem RX7 cX7_readSet 3 0 none κ kc v X) (hc : ∀ j av s w, call j av s = some w → kc j av s w) {x0 : Option Nat} {x1 : Option Nat} {x2 : Int32} {σ : oSt} (h : ob_X7_readSet n call κ x0 x1 x2 σ = some v) : X 0 [some (va_rf x0), some (va_rf x1), some (.int x2)] [] σ := by
  rw [ob_X7_readSet] at h
  refine os_aload_n (r := x0) hX dX7_readSet_0 rfl rfl ?_
  obtain ⟨a1, e2, h⟩ := obn_e h
  obtain ⟨s3, e4, h⟩ := ocv_e h
  refine oc_RX7_98 (rb := x0)  hX dX7_readSet_1 (Nat.le_of_ble_eq_true rfl) e2 (hc _ _ _ _ e4) ?_
  refine os_aload_n (r := x0) hX dX7_readSet_4 rfl rfl ?_
  refine os_aload_n (r := x1) hX dX7_readSet_5 rfl rfl ?_
  obtain ⟨a6, e7, h⟩ := obn_e h
  obtain ⟨s8, e9, h⟩ := ocv_e h
  refine oc_RX7_252 (rb := x0) (a1 := va_rf x1) hX dX7_readSet_6 (Nat.le_of_ble_eq_true rfl) e7 (hc _ _ _ _ e9) ?_
  refine os_aload_n (r := x0) hX dX7_readSet_9 rfl rfl ?_
  refine os_bipush (v := 61) hX dX7_readSet_10 (by decide) ?_
  obtain ⟨a11, e12, h⟩ := obn_e h
  obtain ⟨s13, e14, h⟩ := ocv_e h
  refine oc_RX7_109 (rb := x0) (a1 := .int 61) hX dX7_readSet_12 (Nat.le_of_ble_eq_true rfl) e12 (hc _ _ _ _ e14) ?_
  refine os_aload_n (r := x1) hX dX7_readSet_15 rfl rfl ?_
  refine os_aload_n (r := x0) hX dX7_readSet_16 rfl rfl ?_
  obtain ⟨a16, e17, h⟩ := obn_e h
  obtain ⟨r20, s18, e19, h⟩ := orn_e h
  refine oc_RX7_185 (rb := x0)  hX dX7_readSet_17 (by simp only [List.map_cons, List.map_nil, List.sum_cons, List.sum_nil, ocat]; exact Nat.le_of_ble_eq_true rfl) e17 (hc _ _ _ _ e19) ?_
  obtain ⟨s21, e22, h⟩ := obn_e h
  refine ow_put (r := x1) (x := va_rf r20) hX dX7_readSet_20 oF_RX7_255 (by decide) (orf_n (Or.inl ⟨_, oT_7_16⟩) r20) e22 ?_
  refine os_aload_n (r := x0) hX dX7_readSet_23 rfl rfl ?_
  refine os_bipush (v := 59) hX dX7_readSet_24 (by decide) ?_
  obtain ⟨a23, e24, h⟩ := obn_e h
  obtain ⟨s25, e26, h⟩ := ocv_e h
  refine oc_RX7_109 (rb := x0) (a1 := .int 59) hX dX7_readSet_26 (Nat.le_of_ble_eq_true rfl) e24 (hc _ _ _ _ e26) ?_
  refine os_aload_n (r := x1) hX dX7_readSet_29 rfl rfl ?_
  refine os_aload_n (r := x0) hX dX7_readSet_30 rfl rfl ?_
  refine os_iload_n hX dX7_readSet_31 rfl rfl ?_
  refine os_iconst (v := 1) hX dX7_readSet_32 (by decide) ?_
  refine os_iadd hX dX7_readSet_33 ?_
  obtain ⟨a28, e29, h⟩ := obn_e h
  obtain ⟨r32, s30, e31, h⟩ := orn_e h
  refine oc_RX7_70 (rb := x0) (a1 := .int (x2 + 1)) hX dX7_readSet_34 (by simp only [List.map_cons, List.map_nil, List.sum_cons, List.sum_nil, ocat]; exact Nat.le_of_ble_eq_true rfl) e29 (hc _ _ _ _ e31) ?_
  obtain ⟨s33, e34, h⟩ := obn_e h
  refine ow_put (r := x1) (x := va_rf r32) hX dX7_readSet_37 oF_RX7_212 (by decide) (orf_n (Or.inl ⟨_, oT_7_12⟩) r32) e34 ?_
  exact os_vret hX dX7_readSet_40 rfl (Option.some.inj h)
def oj_X7_readProgram_72 (n : Nat) (call : oCl) (κ : oKv) (x0 : Option Nat) (σ : oSt) : oRs :=
  obn (oob σ x0 9) fun a1 =>
  orn (call 135 [va_rf x0, .int 0] σ) fun r5 s3 =>
  obn (opf s3 x0 9 10 (va_rf r5)) fun s6 =>
  obn (oob s6 x0 9) fun a8 =>
  oin (call 104 [va_rf x0] s6) fun r12 s10 =>
  if r12 = 0 then
    some (none, s10)
  else
    obn (oob s10 x0 9) fun a14 =>
    ocv (call 107 [va_rf x0] s10) fun s16 =>
    some (none, s16)
def ol_X7_readProgram_36 (n : Nat) (call : oCl) (κ : oKv) : Nat → Option Nat → oSt → oRs
  | 0, _, _ => none
  | f + 1, x0, σ =>
    obn (ovi (ofd σ x0 9 9)) fun v1 =>
    if 6 ≤ v1 then
      oj_X7_readProgram_72 n call κ x0 σ
    else
      obn (oob σ x0 9) fun a4 =>
      oin (call 104 [va_rf x0] σ) fun r8 s6 =>
      if r8 = 209 then
        obn (oob s6 x0 9) fun a10 =>
        ocv (call 117 [va_rf x0] s6) fun s12 =>
        obn (ovi (ofd s12 x0 9 9)) fun v15 =>
        obn (opf s12 x0 9 9 (.int (v15 + 1))) fun s17 =>
        ol_X7_readProgram_36 n call κ f x0 s17
      else
        oj_X7_readProgram_72 n call κ x0 s6
def ol_X7_readProgram_0 (n : Nat) (call : oCl) (κ : oKv) : Nat → Option Nat → oSt → oRs
  | 0, _, _ => none
  | f + 1, x0, σ =>
    obn (ovi (ofd σ x0 9 8)) fun v1 =>
    if 6 ≤ v1 then
      ol_X7_readProgram_36 n call κ n x0 σ
    else
      obn (oob σ x0 9) fun a4 =>
      oin (call 104 [va_rf x0] σ) fun r8 s6 =>
      if r8 = 218 then
        obn (oob s6 x0 9) fun a10 =>
        ocv (call 112 [va_rf x0] s6) fun s12 =>
        obn (ovi (ofd s12 x0 9 8)) fun v15 =>
        obn (opf s12 x0 9 8 (.int (v15 + 1))) fun s17 =>
        ol_X7_readProgram_0 n call κ f x0 s17
      else
        ol_X7_readProgram_36 n call κ n x0 s6
def ob_X7_readProgram (n : Nat) (call : oCl) (κ : oKv) (x0 : Option Nat) (σ : oSt) : oRs :=
  ol_X7_readProgram_0 n call κ n x0 σ
set_option maxHeartbeats 4000000 in
theorem qj_X7_readProgram_72 {κ : oKv} {n : Nat} {call : oCl} {kc : Nat → List Value → oSt → Option Value × oSt → Prop} {v : Option Value × oSt} {X : Nat → zLv → List Value → oSt → Prop} (hX : oSem RX7 cX7_readProgram 1 0 none κ kc v X) (hc : ∀ j av s w, call j av s = some w → kc j av s w) {x0 : Option Nat} {σ : oSt} (h : oj_X7_readProgram_72 n call κ x0 σ = some v) : X 72 [some (va_rf x0)] [] σ := by
  rw [oj_X7_readProgram_72] at h
  refine os_aload_n (r := x0) hX dX7_readProgram_72 rfl rfl ?_
  refine os_aload_n (r := x0) hX dX7_readProgram_73 rfl rfl ?_
  refine os_iconst (v := 0) hX dX7_readProgram_74 (by decide) ?_
  obtain ⟨a1, e2, h⟩ := obn_e h
  obtain ⟨r5, s3, e4, h⟩ := orn_e h
  refine oc_RX7_70 (rb := x0) (a1 := .int 0) hX dX7_readProgram_75 (by simp only [List.map_cons, List.map_nil, List.sum_cons, List.sum_nil, ocat]; exact Nat.le_of_ble_eq_true rfl) e2 (hc _ _ _ _ e4) ?_
  obtain ⟨s6, e7, h⟩ := obn_e h
  refine ow_put (r := x0) (x := va_rf r5) hX dX7_readProgram_78 oF_RX7_74 (by decide) (orf_n (Or.inl ⟨_, oT_9_10⟩) r5) e7 ?_
  refine os_aload_n (r := x0) hX dX7_readProgram_81 rfl rfl ?_
  obtain ⟨a8, e9, h⟩ := obn_e h
  obtain ⟨r12, s10, e11, h⟩ := oin_e h
  refine oc_RX7_57 (rb := x0)  hX dX7_readProgram_82 (Nat.le_of_ble_eq_true rfl) e9 (hc _ _ _ _ e11) ?_
  refine os_if_eq (tgt := 92) hX dX7_readProgram_85 (by decide) (fun c13 => ?_) (fun c13 => ?_)
  · rw [if_pos c13] at h
    exact os_vret hX dX7_readProgram_92 rfl (Option.some.inj h)
  · rw [if_neg c13] at h
    refine os_aload_n (r := x0) hX dX7_readProgram_88 rfl rfl ?_
    obtain ⟨a14, e15, h⟩ := obn_e h
    obtain ⟨s16, e17, h⟩ := ocv_e h
    refine oc_RX7_78 (rb := x0)  hX dX7_readProgram_89 (Nat.le_of_ble_eq_true rfl) e15 (hc _ _ _ _ e17) ?_
    exact os_vret hX dX7_readProgram_92 rfl (Option.some.inj h)
set_option maxHeartbeats 4000000 in
theorem ql_X7_readProgram_36 {κ : oKv} {n : Nat} {call : oCl} {kc : Nat → List Value → oSt → Option Value × oSt → Prop} {v : Option Value × oSt} {X : Nat → zLv → List Value → oSt → Prop} (hX : oSem RX7 cX7_readProgram 1 0 none κ kc v X) (hc : ∀ j av s w, call j av s = some w → kc j av s w) : ∀ (f : Nat) (x0 : Option Nat) (σ : oSt), ol_X7_readProgram_36 n call κ f x0 σ = some v → X 36 [some (va_rf x0)] [] σ := by
  intro f
  induction f with
  | zero => intro x0 σ h; cases h
  | succ f hk36 =>
    intro x0 σ h
    rw [ol_X7_readProgram_36] at h
    refine os_aload_n (r := x0) hX dX7_readProgram_36 rfl rfl ?_
    obtain ⟨v1, e2, h⟩ := obn_e h
    refine ow_get (r := x0) hX dX7_readProgram_37 oF_RX7_64 (ovi_e e2) ?_
    refine os_bipush (v := 6) hX dX7_readProgram_40 (by decide) ?_
    refine os_icmp_ge (tgt := 72) hX dX7_readProgram_42 (by decide) (fun c3 => ?_) (fun c3 => ?_)
    · rw [if_pos c3] at h
      exact qj_X7_readProgram_72 hX hc h
    · rw [if_neg c3] at h
      refine os_aload_n (r := x0) hX dX7_readProgram_45 rfl rfl ?_
      obtain ⟨a4, e5, h⟩ := obn_e h
      obtain ⟨r8, s6, e7, h⟩ := oin_e h
      refine oc_RX7_57 (rb := x0)  hX dX7_readProgram_46 (Nat.le_of_ble_eq_true rfl) e5 (hc _ _ _ _ e7) ?_
      refine os_sipush (v := 209) hX dX7_readProgram_49 (by decide) ?_
      refine os_icmp_ne (tgt := 72) hX dX7_readProgram_52 (by decide) (fun c9 => ?_) (fun c9 => ?_)
      · rw [if_neg c9] at h
        exact qj_X7_readProgram_72 hX hc h
      · rw [if_pos c9] at h
        refine os_aload_n (r := x0) hX dX7_readProgram_55 rfl rfl ?_
        obtain ⟨a10, e11, h⟩ := obn_e h
        obtain ⟨s12, e13, h⟩ := ocv_e h
        refine oc_RX7_67 (rb := x0)  hX dX7_readProgram_56 (Nat.le_of_ble_eq_true rfl) e11 (hc _ _ _ _ e13) ?_
        refine os_aload_n (r := x0) hX dX7_readProgram_59 rfl rfl ?_
        refine os_dup hX dX7_readProgram_60 (ocat x0) ?_
        obtain ⟨v15, e16, h⟩ := obn_e h
        refine ow_get (r := x0) hX dX7_readProgram_61 oF_RX7_64 (ovi_e e16) ?_
        refine os_iconst (v := 1) hX dX7_readProgram_64 (by decide) ?_
        refine os_iadd hX dX7_readProgram_65 ?_
        obtain ⟨s17, e18, h⟩ := obn_e h
        refine ow_put (r := x0) (x := .int (v15 + 1)) hX dX7_readProgram_66 oF_RX7_64 (by decide) (opn_I oT_9_9) e18 ?_
        refine os_goto (tgt := 36) hX dX7_readProgram_69 (by decide) ?_
        exact hk36 _ _ h
set_option maxHeartbeats 4000000 in
theorem ql_X7_readProgram_0 {κ : oKv} {n : Nat} {call : oCl} {kc : Nat → List Value → oSt → Option Value × oSt → Prop} {v : Option Value × oSt} {X : Nat → zLv → List Value → oSt → Prop} (hX : oSem RX7 cX7_readProgram 1 0 none κ kc v X) (hc : ∀ j av s w, call j av s = some w → kc j av s w) : ∀ (f : Nat) (x0 : Option Nat) (σ : oSt), ol_X7_readProgram_0 n call κ f x0 σ = some v → X 0 [some (va_rf x0)] [] σ := by
  intro f
  induction f with
  | zero => intro x0 σ h; cases h
  | succ f hk0 =>
    intro x0 σ h
    rw [ol_X7_readProgram_0] at h
    refine os_aload_n (r := x0) hX dX7_readProgram_0 rfl rfl ?_
    obtain ⟨v1, e2, h⟩ := obn_e h
    refine ow_get (r := x0) hX dX7_readProgram_1 oF_RX7_54 (ovi_e e2) ?_
    refine os_bipush (v := 6) hX dX7_readProgram_4 (by decide) ?_
    refine os_icmp_ge (tgt := 36) hX dX7_readProgram_6 (by decide) (fun c3 => ?_) (fun c3 => ?_)
    · rw [if_pos c3] at h
      exact ql_X7_readProgram_36 hX hc n _ _ h
    · rw [if_neg c3] at h
      refine os_aload_n (r := x0) hX dX7_readProgram_9 rfl rfl ?_
      obtain ⟨a4, e5, h⟩ := obn_e h
      obtain ⟨r8, s6, e7, h⟩ := oin_e h
      refine oc_RX7_57 (rb := x0)  hX dX7_readProgram_10 (Nat.le_of_ble_eq_true rfl) e5 (hc _ _ _ _ e7) ?_
      refine os_sipush (v := 218) hX dX7_readProgram_13 (by decide) ?_
      refine os_icmp_ne (tgt := 36) hX dX7_readProgram_16 (by decide) (fun c9 => ?_) (fun c9 => ?_)
      · rw [if_neg c9] at h
        exact ql_X7_readProgram_36 hX hc n _ _ h
      · rw [if_pos c9] at h
        refine os_aload_n (r := x0) hX dX7_readProgram_19 rfl rfl ?_
        obtain ⟨a10, e11, h⟩ := obn_e h
        obtain ⟨s12, e13, h⟩ := ocv_e h
        refine oc_RX7_61 (rb := x0)  hX dX7_readProgram_20 (Nat.le_of_ble_eq_true rfl) e11 (hc _ _ _ _ e13) ?_
        refine os_aload_n (r := x0) hX dX7_readProgram_23 rfl rfl ?_
        refine os_dup hX dX7_readProgram_24 (ocat x0) ?_
        obtain ⟨v15, e16, h⟩ := obn_e h
        refine ow_get (r := x0) hX dX7_readProgram_25 oF_RX7_54 (ovi_e e16) ?_
        refine os_iconst (v := 1) hX dX7_readProgram_28 (by decide) ?_
        refine os_iadd hX dX7_readProgram_29 ?_
        obtain ⟨s17, e18, h⟩ := obn_e h
        refine ow_put (r := x0) (x := .int (v15 + 1)) hX dX7_readProgram_30 oF_RX7_54 (by decide) (opn_I oT_9_8) e18 ?_
        refine os_goto (tgt := 0) hX dX7_readProgram_33 (by decide) ?_
        exact hk0 _ _ h
set_option maxHeartbeats 4000000 in
theorem qb_X7_readProgram {κ : oKv} {n : Nat} {call : oCl} {kc : Nat → List Value → oSt → Option Value × oSt → Prop} {v : Option Value × oSt} {X : Nat → zLv → List Value → oSt → Prop} (hX : oSem RX7 cX7_readProgram 1 0 none κ kc v X) (hc : ∀ j av s w, call j av s = some w → kc j av s w) {x0 : Option Nat} {σ : oSt} (h : ob_X7_readProgram n call κ x0 σ = some v) : X 0 [some (va_rf x0)] [] σ := by
  rw [ob_X7_readProgram] at h
  exact ql_X7_readProgram_0 hX hc n _ _ h
def ob_X10_make (n : Nat) (call : oCl) (κ : oKv) (x0 : Option Nat) (x1 : Int32) (σ : oSt) : oRs :=
  obn (ovi (ofd σ x0 12 6)) fun v1 =>
  obn (ovr (ofd σ x0 12 0)) fun v3 =>
  obn (oln2 κ σ v3) fun v5 =>
  if v1 = v5 then
    some (some (.int 0), σ)
  else
    obn (ovr (ofd σ x0 12 0)) fun v8 =>
    obn (ovi (ofd σ x0 12 6)) fun v10 =>
    obn (osi σ v8 .int v10 x1) fun s12 =>
    obn (ovr (ofd s12 x0 12 3)) fun v14 =>
    obn (ovi (ofd s12 x0 12 6)) fun v16 =>
    obn (ovi (ofd s12 x0 12 6)) fun v18 =>
    obn (osi s12 v14 .int v16 v18) fun s20 =>
    obn (ovi (ofd s20 x0 12 6)) fun v22 =>
    obn (opf s20 x0 12 6 (.int (v22 + 1))) fun s24 =>
    obn (ovi (ofd s24 x0 12 6)) fun v26 =>
    some (some (.int (v26 - 1)), s24)
set_option maxHeartbeats 4000000 in
theorem qb_X10_make {κ : oKv} {n : Nat} {call : oCl} {kc : Nat → List Value → oSt → Option Value × oSt → Prop} {v : Option Value × oSt} {X : Nat → zLv → List Value → oSt → Prop} (hX : oSem RX10 cX10_make 2 0 (some .int) κ kc v X) (hc : ∀ j av s w, call j av s = some w → kc j av s w) {x0 : Option Nat} {x1 : Int32} {σ : oSt} (h : ob_X10_make n call κ x0 x1 σ = some v) : X 0 [some (va_rf x0), some (.int x1)] [] σ := by
  rw [ob_X10_make] at h
  refine os_aload_n (r := x0) hX dX10_make_0 rfl rfl ?_
  obtain ⟨v1, e2, h⟩ := obn_e h
  refine ow_get (r := x0) hX dX10_make_1 oF_RX10_86 (ovi_e e2) ?_
  refine os_aload_n (r := x0) hX dX10_make_4 rfl rfl ?_
  obtain ⟨v3, e4, h⟩ := obn_e h
  refine ow_get (r := x0) hX dX10_make_5 oF_RX10_18 (ovr_e e4) ?_
  obtain ⟨v5, e6, h⟩ := obn_e h
  refine ow_len (r := v3) hX dX10_make_8 e6 ?_
  refine os_icmp_ne (tgt := 14) hX dX10_make_9 (by decide) (fun c7 => ?_) (fun c7 => ?_)
  · rw [if_neg c7] at h
    refine os_aload_n (r := x0) hX dX10_make_14 rfl rfl ?_
    obtain ⟨v8, e9, h⟩ := obn_e h
    refine ow_get (r := x0) hX dX10_make_15 oF_RX10_18 (ovr_e e9) ?_
    refine os_aload_n (r := x0) hX dX10_make_18 rfl rfl ?_
    obtain ⟨v10, e11, h⟩ := obn_e h
    refine ow_get (r := x0) hX dX10_make_19 oF_RX10_86 (ovi_e e11) ?_
    refine os_iload_n hX dX10_make_22 rfl rfl ?_
    obtain ⟨s12, e13, h⟩ := obn_e h
    refine ow_si (r := v8) (i := v10) (x := x1) hX dX10_make_23 e13 ?_
    refine os_aload_n (r := x0) hX dX10_make_24 rfl rfl ?_
    obtain ⟨v14, e15, h⟩ := obn_e h
    refine ow_get (r := x0) hX dX10_make_25 oF_RX10_28 (ovr_e e15) ?_
    refine os_aload_n (r := x0) hX dX10_make_28 rfl rfl ?_
    obtain ⟨v16, e17, h⟩ := obn_e h
    refine ow_get (r := x0) hX dX10_make_29 oF_RX10_86 (ovi_e e17) ?_
    refine os_aload_n (r := x0) hX dX10_make_32 rfl rfl ?_
    obtain ⟨v18, e19, h⟩ := obn_e h
    refine ow_get (r := x0) hX dX10_make_33 oF_RX10_86 (ovi_e e19) ?_
    obtain ⟨s20, e21, h⟩ := obn_e h
    refine ow_si (r := v14) (i := v16) (x := v18) hX dX10_make_36 e21 ?_
    refine os_aload_n (r := x0) hX dX10_make_37 rfl rfl ?_
    refine os_dup hX dX10_make_38 (ocat x0) ?_
    obtain ⟨v22, e23, h⟩ := obn_e h
    refine ow_get (r := x0) hX dX10_make_39 oF_RX10_86 (ovi_e e23) ?_
    refine os_iconst (v := 1) hX dX10_make_42 (by decide) ?_
    refine os_iadd hX dX10_make_43 ?_
    obtain ⟨s24, e25, h⟩ := obn_e h
    refine ow_put (r := x0) (x := .int (v22 + 1)) hX dX10_make_44 oF_RX10_86 (by decide) (opn_I oT_12_6) e25 ?_
    refine os_aload_n (r := x0) hX dX10_make_47 rfl rfl ?_
    obtain ⟨v26, e27, h⟩ := obn_e h
    refine ow_get (r := x0) hX dX10_make_48 oF_RX10_86 (ovi_e e27) ?_
    refine os_iconst (v := 1) hX dX10_make_51 (by decide) ?_
    refine os_isub hX dX10_make_52 ?_
    exact os_iret hX dX10_make_53 rfl (Option.some.inj h)
  · rw [if_pos c7] at h
    refine os_iconst (v := 0) hX dX10_make_12 (by decide) ?_
    exact os_iret hX dX10_make_13 rfl (Option.some.inj h)
def ob_X10_init (n : Nat) (call : oCl) (κ : oKv) (x0 : Option Nat) (x1 : Int32) (σ : oSt) : oRs :=
  obn (x0) fun a1 =>
  obn (opf σ x0 12 8 (.int (-1))) fun s3 =>
  obn (opf s3 x0 12 9 (.int (-1))) fun s5 =>
  ogd (onn ((4 * x1) + 8)) (
  olet (onew s5 (.inl (.int, ((4 * x1) + 8).toNatClampNeg, .inl (fun _ => 0))) ((4 * x1) + 8).toNatClampNeg) fun s7 =>
  obn (opf s7 x0 12 0 (va_rf (some s5.2.1))) fun s10 =>
  ogd (onn ((4 * x1) + 8)) (
  olet (onew s10 (.inl (.int, ((4 * x1) + 8).toNatClampNeg, .inl (fun _ => 0))) ((4 * x1) + 8).toNatClampNeg) fun s12 =>
  obn (opf s12 x0 12 1 (va_rf (some s10.2.1))) fun s15 =>
  ogd (onn ((4 * x1) + 8)) (
  olet (onew s15 (.inl (.int, ((4 * x1) + 8).toNatClampNeg, .inl (fun _ => 0))) ((4 * x1) + 8).toNatClampNeg) fun s17 =>
  obn (opf s17 x0 12 2 (va_rf (some s15.2.1))) fun s20 =>
  ogd (onn ((4 * x1) + 8)) (
  olet (onew s20 (.inl (.int, ((4 * x1) + 8).toNatClampNeg, .inl (fun _ => 0))) ((4 * x1) + 8).toNatClampNeg) fun s22 =>
  obn (opf s22 x0 12 3 (va_rf (some s20.2.1))) fun s25 =>
  ogd (onn ((4 * x1) + 8)) (
  olet (onew s25 (.inl (.int, ((4 * x1) + 8).toNatClampNeg, .inl (fun _ => 0))) ((4 * x1) + 8).toNatClampNeg) fun s27 =>
  obn (opf s27 x0 12 4 (va_rf (some s25.2.1))) fun s30 =>
  ogd (onn (3 * ((4 * x1) + 8))) (
  olet (onew s30 (.inl (.int, (3 * ((4 * x1) + 8)).toNatClampNeg, .inl (fun _ => 0))) (3 * ((4 * x1) + 8)).toNatClampNeg) fun s32 =>
  obn (opf s32 x0 12 5 (va_rf (some s30.2.1))) fun s35 =>
  obn (oob s35 x0 12) fun a37 =>
  oin (call 146 [va_rf x0, .int 210] s35) fun r41 s39 =>
  obn (oob s39 x0 12) fun a42 =>
  oin (call 146 [va_rf x0, .int 202] s39) fun r46 s44 =>
  obn (oob s44 x0 12) fun a47 =>
  oin (call 146 [va_rf x0, .int 200] s44) fun r51 s49 =>
  obn (oob s49 x0 12) fun a52 =>
  oin (call 146 [va_rf x0, .int 213] s49) fun r56 s54 =>
  some (none, s54)))))))
set_option maxHeartbeats 4000000 in
theorem qb_X10_init {κ : oKv} {n : Nat} {call : oCl} {kc : Nat → List Value → oSt → Option Value × oSt → Prop} {v : Option Value × oSt} {X : Nat → zLv → List Value → oSt → Prop} (hX : oSem RX10 cX10_init 3 2 none κ kc v X) (hc : ∀ j av s w, call j av s = some w → kc j av s w) {x0 : Option Nat} {x1 : Int32} {σ : oSt} (h : ob_X10_init n call κ x0 x1 σ = some v) : X 0 [some (va_rf x0), some (.int x1), none] [] σ := by
  rw [ob_X10_init] at h
  refine os_aload_n (r := x0) hX dX10_init_0 rfl rfl ?_
  obtain ⟨a1, e2, h⟩ := obn_e h
  refine ow_oI (r := x0) hX dX10_init_1 oI_RX10_3 (Nat.le_of_ble_eq_true rfl) e2 ?_
  refine os_aload_n (r := x0) hX dX10_init_4 rfl rfl ?_
  refine os_iconst (v := (-1)) hX dX10_init_5 (by decide) ?_
  obtain ⟨s3, e4, h⟩ := obn_e h
  refine ow_put (r := x0) (x := .int (-1)) hX dX10_init_6 oF_RX10_9 (by decide) (opn_I oT_12_8) e4 ?_
  refine os_aload_n (r := x0) hX dX10_init_9 rfl rfl ?_
  refine os_iconst (v := (-1)) hX dX10_init_10 (by decide) ?_
  obtain ⟨s5, e6, h⟩ := obn_e h
  refine ow_put (r := x0) (x := .int (-1)) hX dX10_init_11 oF_RX10_15 (by decide) (opn_I oT_12_9) e6 ?_
  refine os_iconst (v := 4) hX dX10_init_14 (by decide) ?_
  refine os_iload_n hX dX10_init_15 rfl rfl ?_
  refine os_imul hX dX10_init_16 ?_
  refine os_bipush (v := 8) hX dX10_init_17 (by decide) ?_
  refine os_iadd hX dX10_init_19 ?_
  refine os_istore_n hX dX10_init_20 rfl (by decide) rfl ?_
  dsimp only [List.set]
  refine os_aload_n (r := x0) hX dX10_init_21 rfl rfl ?_
  refine os_iload_n hX dX10_init_22 rfl rfl ?_
  obtain ⟨b9, h⟩ := ogd_e h
  obtain ⟨s7, e8, h⟩ := olet_e h
  refine os_newI hX dX10_init_23 (onn_e b9).1 (onn_e b9).2 ?_
  rw [← e8]
  obtain ⟨s10, e11, h⟩ := obn_e h
  refine ow_putF (r := x0) (x := va_rf (some s5.2.1)) hX dX10_init_25 oF_RX10_18 (by decide) rfl rfl (orf_n (Or.inr ⟨_, oT_12_0⟩) (some s5.2.1)) e11 ?_
  refine os_aload_n (r := x0) hX dX10_init_28 rfl rfl ?_
  refine os_iload_n hX dX10_init_29 rfl rfl ?_
  obtain ⟨b14, h⟩ := ogd_e h
  obtain ⟨s12, e13, h⟩ := olet_e h
  refine os_newI hX dX10_init_30 (onn_e b14).1 (onn_e b14).2 ?_
  rw [← e13]
  obtain ⟨s15, e16, h⟩ := obn_e h
  refine ow_putF (r := x0) (x := va_rf (some s10.2.1)) hX dX10_init_32 oF_RX10_22 (by decide) rfl rfl (orf_n (Or.inr ⟨_, oT_12_1⟩) (some s10.2.1)) e16 ?_
  refine os_aload_n (r := x0) hX dX10_init_35 rfl rfl ?_
  refine os_iload_n hX dX10_init_36 rfl rfl ?_
  obtain ⟨b19, h⟩ := ogd_e h
  obtain ⟨s17, e18, h⟩ := olet_e h
  refine os_newI hX dX10_init_37 (onn_e b19).1 (onn_e b19).2 ?_
  rw [← e18]
  obtain ⟨s20, e21, h⟩ := obn_e h
  refine ow_putF (r := x0) (x := va_rf (some s15.2.1)) hX dX10_init_39 oF_RX10_25 (by decide) rfl rfl (orf_n (Or.inr ⟨_, oT_12_2⟩) (some s15.2.1)) e21 ?_
  refine os_aload_n (r := x0) hX dX10_init_42 rfl rfl ?_
  refine os_iload_n hX dX10_init_43 rfl rfl ?_
  obtain ⟨b24, h⟩ := ogd_e h
  obtain ⟨s22, e23, h⟩ := olet_e h
  refine os_newI hX dX10_init_44 (onn_e b24).1 (onn_e b24).2 ?_
  rw [← e23]
  obtain ⟨s25, e26, h⟩ := obn_e h
  refine ow_putF (r := x0) (x := va_rf (some s20.2.1)) hX dX10_init_46 oF_RX10_28 (by decide) rfl rfl (orf_n (Or.inr ⟨_, oT_12_3⟩) (some s20.2.1)) e26 ?_
  refine os_aload_n (r := x0) hX dX10_init_49 rfl rfl ?_
  refine os_iload_n hX dX10_init_50 rfl rfl ?_
  obtain ⟨b29, h⟩ := ogd_e h
  obtain ⟨s27, e28, h⟩ := olet_e h
  refine os_newI hX dX10_init_51 (onn_e b29).1 (onn_e b29).2 ?_
  rw [← e28]
  obtain ⟨s30, e31, h⟩ := obn_e h
  refine ow_putF (r := x0) (x := va_rf (some s25.2.1)) hX dX10_init_53 oF_RX10_31 (by decide) rfl rfl (orf_n (Or.inr ⟨_, oT_12_4⟩) (some s25.2.1)) e31 ?_
  refine os_aload_n (r := x0) hX dX10_init_56 rfl rfl ?_
  refine os_iconst (v := 3) hX dX10_init_57 (by decide) ?_
  refine os_iload_n hX dX10_init_58 rfl rfl ?_
  refine os_imul hX dX10_init_59 ?_
  obtain ⟨b34, h⟩ := ogd_e h
  obtain ⟨s32, e33, h⟩ := olet_e h
  refine os_newI hX dX10_init_60 (onn_e b34).1 (onn_e b34).2 ?_
  rw [← e33]
  obtain ⟨s35, e36, h⟩ := obn_e h
  refine ow_putF (r := x0) (x := va_rf (some s30.2.1)) hX dX10_init_62 oF_RX10_34 (by decide) rfl rfl (orf_n (Or.inr ⟨_, oT_12_5⟩) (some s30.2.1)) e36 ?_
  refine os_aload_n (r := x0) hX dX10_init_65 rfl rfl ?_
  refine os_sipush (v := 210) hX dX10_init_66 (by decide) ?_
  obtain ⟨a37, e38, h⟩ := obn_e h
  obtain ⟨r41, s39, e40, h⟩ := oin_e h
  refine oc_RX10_37 (rb := x0) (a1 := .int 210) hX dX10_init_69 (Nat.le_of_ble_eq_true rfl) e38 (hc _ _ _ _ e40) ?_
  refine os_pop hX dX10_init_72 rfl ?_
  refine os_aload_n (r := x0) hX dX10_init_73 rfl rfl ?_
  refine os_sipush (v := 202) hX dX10_init_74 (by decide) ?_
  obtain ⟨a42, e43, h⟩ := obn_e h
  obtain ⟨r46, s44, e45, h⟩ := oin_e h
  refine oc_RX10_37 (rb := x0) (a1 := .int 202) hX dX10_init_77 (Nat.le_of_ble_eq_true rfl) e43 (hc _ _ _ _ e45) ?_
  refine os_pop hX dX10_init_80 rfl ?_
  refine os_aload_n (r := x0) hX dX10_init_81 rfl rfl ?_
  refine os_sipush (v := 200) hX dX10_init_82 (by decide) ?_
  obtain ⟨a47, e48, h⟩ := obn_e h
  obtain ⟨r51, s49, e50, h⟩ := oin_e h
  refine oc_RX10_37 (rb := x0) (a1 := .int 200) hX dX10_init_85 (Nat.le_of_ble_eq_true rfl) e48 (hc _ _ _ _ e50) ?_
  refine os_pop hX dX10_init_88 rfl ?_
  refine os_aload_n (r := x0) hX dX10_init_89 rfl rfl ?_
  refine os_sipush (v := 213) hX dX10_init_90 (by decide) ?_
  obtain ⟨a52, e53, h⟩ := obn_e h
  obtain ⟨r56, s54, e55, h⟩ := oin_e h
  refine oc_RX10_37 (rb := x0) (a1 := .int 213) hX dX10_init_93 (Nat.le_of_ble_eq_true rfl) e53 (hc _ _ _ _ e55) ?_
  refine os_pop hX dX10_init_96 rfl ?_
  exact os_vret hX dX10_init_97 rfl (Option.some.inj h)
def ob_X10_basic (n : Nat) (call : oCl) (κ : oKv) (x0 : Int32) (σ : oSt) : oRs :=
  if x0 = 202 then
    some (some (.int 1), σ)
  else
    if x0 = 200 then
      some (some (.int 2), σ)
    else
      if x0 = 213 then
        some (some (.int 3), σ)
      else
        some (some (.int 0), σ)
set_option maxHeartbeats 4000000 in
theorem qb_X10_basic {κ : oKv} {n : Nat} {call : oCl} {kc : Nat → List Value → oSt → Option Value × oSt → Prop} {v : Option Value × oSt} {X : Nat → zLv → List Value → oSt → Prop} (hX : oSem RX10 cX10_basic 1 1 (some .int) κ kc v X) (hc : ∀ j av s w, call j av s = some w → kc j av s w) {x0 : Int32} {σ : oSt} (h : ob_X10_basic n call κ x0 σ = some v) : X 0 [some (.int x0)] [] σ := by
  rw [ob_X10_basic] at h
  refine os_iload_n hX dX10_basic_0 rfl rfl ?_
  refine os_sipush (v := 202) hX dX10_basic_1 (by decide) ?_
  refine os_icmp_ne (tgt := 11) hX dX10_basic_4 (by decide) (fun c1 => ?_) (fun c1 => ?_)
  · rw [if_neg c1] at h
    refine os_iload_n hX dX10_basic_11 rfl rfl ?_
    refine os_sipush (v := 200) hX dX10_basic_12 (by decide) ?_
    refine os_icmp_ne (tgt := 22) hX dX10_basic_15 (by decide) (fun c2 => ?_) (fun c2 => ?_)
    · rw [if_neg c2] at h
      refine os_iload_n hX dX10_basic_22 rfl rfl ?_
      refine os_sipush (v := 213) hX dX10_basic_23 (by decide) ?_
      refine os_icmp_ne (tgt := 33) hX dX10_basic_26 (by decide) (fun c3 => ?_) (fun c3 => ?_)
      · rw [if_neg c3] at h
        refine os_iconst (v := 0) hX dX10_basic_33 (by decide) ?_
        exact os_iret hX dX10_basic_34 rfl (Option.some.inj h)
      · rw [if_pos c3] at h
        refine os_iconst (v := 3) hX dX10_basic_29 (by decide) ?_
        refine os_goto (tgt := 34) hX dX10_basic_30 (by decide) ?_
        exact os_iret hX dX10_basic_34 rfl (Option.some.inj h)
    · rw [if_pos c2] at h
      refine os_iconst (v := 2) hX dX10_basic_18 (by decide) ?_
      refine os_goto (tgt := 34) hX dX10_basic_19 (by decide) ?_
      exact os_iret hX dX10_basic_34 rfl (Option.some.inj h)
  · rw [if_pos c1] at h
    refine os_iconst (v := 1) hX dX10_basic_7 (by decide) ?_
    refine os_goto (tgt := 34) hX dX10_basic_8 (by decide) ?_
    exact os_iret hX dX10_basic_34 rfl (Option.some.inj h)
def ob_X10_function (n : Nat) (call : oCl) (κ : oKv) (x0 : Option Nat) (x1 : Int32) (x2 : Int32) (σ : oSt) : oRs :=
  obn (oob σ x0 12) fun a1 =>
  oin (call 146 [va_rf x0, .int 206] σ) fun r5 s3 =>
  obn (ovr (ofd s3 x0 12 1)) fun v6 =>
  obn (osi s3 v6 .int r5 x1) fun s8 =>
  obn (ovr (ofd s8 x0 12 2)) fun v10 =>
  obn (osi s8 v10 .int r5 x2) fun s12 =>
  some (some (.int r5), s12)
set_option maxHeartbeats 4000000 in
theorem qb_X10_function {κ : oKv} {n : Nat} {call : oCl} {kc : Nat → List Value → oSt → Option Value × oSt → Prop} {v : Option Value × oSt} {X : Nat → zLv → List Value → oSt → Prop} (hX : oSem RX10 cX10_function 4 0 (some .int) κ kc v X) (hc : ∀ j av s w, call j av s = some w → kc j av s w) {x0 : Option Nat} {x1 : Int32} {x2 : Int32} {σ : oSt} (h : ob_X10_function n call κ x0 x1 x2 σ = some v) : X 0 [some (va_rf x0), some (.int x1), some (.int x2), none] [] σ := by
  rw [ob_X10_function] at h
  refine os_aload_n (r := x0) hX dX10_function_0 rfl rfl ?_
  refine os_sipush (v := 206) hX dX10_function_1 (by decide) ?_
  obtain ⟨a1, e2, h⟩ := obn_e h
  obtain ⟨r5, s3, e4, h⟩ := oin_e h
  refine oc_RX10_37 (rb := x0) (a1 := .int 206) hX dX10_function_4 (Nat.le_of_ble_eq_true rfl) e2 (hc _ _ _ _ e4) ?_
  refine os_istore_n hX dX10_function_7 rfl (by decide) rfl ?_
  dsimp only [List.set]
  refine os_aload_n (r := x0) hX dX10_function_8 rfl rfl ?_
  obtain ⟨v6, e7, h⟩ := obn_e h
  refine ow_get (r := x0) hX dX10_function_9 oF_RX10_22 (ovr_e e7) ?_
  refine os_iload_n hX dX10_function_12 rfl rfl ?_
  refine os_iload_n hX dX10_function_13 rfl rfl ?_
  obtain ⟨s8, e9, h⟩ := obn_e h
  refine ow_si (r := v6) (i := r5) (x := x1) hX dX10_function_14 e9 ?_
  refine os_aload_n (r := x0) hX dX10_function_15 rfl rfl ?_
  obtain ⟨v10, e11, h⟩ := obn_e h
  refine ow_get (r := x0) hX dX10_function_16 oF_RX10_25 (ovr_e e11) ?_
  refine os_iload_n hX dX10_function_19 rfl rfl ?_
  refine os_iload_n hX dX10_function_20 rfl rfl ?_
  obtain ⟨s12, e13, h⟩ := obn_e h
  refine ow_si (r := v10) (i := r5) (x := x2) hX dX10_function_21 e13 ?_
  refine os_iload_n hX dX10_function_22 rfl rfl ?_
  exact os_iret hX dX10_function_23 rfl (Option.some.inj h)
def oj_X10_unify_222 (n : Nat) (call : oCl) (κ : oKv) (k25 : Option Nat → Int32 → Int32 → oSt → oRs) (x0 : Option Nat) (x3 : Int32) (x4 : Int32) (σ : oSt) : oRs :=
  k25 x0 x3 (x4 + 1) σ
def ol_X10_unify_25 (n : Nat) (call : oCl) (κ : oKv) : Nat → Option Nat → Int32 → Int32 → oSt → oRs
  | 0, _, _, _, _ => none
  | f + 1, x0, x3, x4, σ =>
    if 1000000 ≤ x4 then
      some (some (.int 1), σ)
    else
      if x3 < 2 then
        some (some (.int 1), σ)
      else
        obn (ovr (ofd σ x0 12 5)) fun v3 =>
        obn (oai σ v3 .int (x3 + (-1))) fun v5 =>
        obn (oob σ x0 12) fun a7 =>
        oin (call 21 [va_rf x0, .int v5] σ) fun r11 s9 =>
        obn (ovr (ofd s9 x0 12 5)) fun v12 =>
        obn (oai s9 v12 .int ((x3 + (-1)) + (-1))) fun v14 =>
        obn (oob s9 x0 12) fun a16 =>
        oin (call 21 [va_rf x0, .int v14] s9) fun r20 s18 =>
        if r11 = r20 then
          oj_X10_unify_222 n call κ (ol_X10_unify_25 n call κ f) x0 ((x3 + (-1)) + (-1)) x4 s18
        else
          obn (ovr (ofd s18 x0 12 0)) fun v22 =>
          obn (oai s18 v22 .int r11) fun v24 =>
          if v24 = 0 then
            obn (ovr (ofd s18 x0 12 3)) fun v82 =>
            obn (osi s18 v82 .int r11 r20) fun s84 =>
            oj_X10_unify_222 n call κ (ol_X10_unify_25 n call κ f) x0 ((x3 + (-1)) + (-1)) x4 s84
          else
            obn (ovr (ofd s18 x0 12 0)) fun v27 =>
            obn (oai s18 v27 .int r20) fun v29 =>
            if v29 = 0 then
              obn (ovr (ofd s18 x0 12 3)) fun v78 =>
              obn (osi s18 v78 .int r20 r11) fun s80 =>
              oj_X10_unify_222 n call κ (ol_X10_unify_25 n call κ f) x0 ((x3 + (-1)) + (-1)) x4 s80
            else
              obn (ovr (ofd s18 x0 12 0)) fun v32 =>
              obn (oai s18 v32 .int r11) fun v34 =>
              if v34 = 206 then
                obn (ovr (ofd s18 x0 12 0)) fun v37 =>
                obn (oai s18 v37 .int r20) fun v39 =>
                if v39 = 206 then
                  obn (ovr (ofd s18 x0 12 3)) fun v42 =>
                  obn (osi s18 v42 .int r11 r20) fun s44 =>
                  obn (ovr (ofd s44 x0 12 5)) fun v46 =>
                  obn (ovr (ofd s44 x0 12 2)) fun v48 =>
                  obn (oai s44 v48 .int r11) fun v50 =>
                  obn (osi s44 v46 .int ((x3 + (-1)) + (-1)) v50) fun s52 =>
                  obn (ovr (ofd s52 x0 12 5)) fun v54 =>
                  obn (ovr (ofd s52 x0 12 2)) fun v56 =>
                  obn (oai s52 v56 .int r20) fun v58 =>
                  obn (osi s52 v54 .int (((x3 + (-1)) + (-1)) + 1) v58) fun s60 =>
                  obn (ovr (ofd s60 x0 12 5)) fun v62 =>
                  obn (ovr (ofd s60 x0 12 1)) fun v64 =>
                  obn (oai s60 v64 .int r11) fun v66 =>
                  obn (osi s60 v62 .int ((((x3 + (-1)) + (-1)) + 1) + 1) v66) fun s68 =>
                  obn (ovr (ofd s68 x0 12 5)) fun v70 =>
                  obn (ovr (ofd s68 x0 12 1)) fun v72 =>
                  obn (oai s68 v72 .int r20) fun v74 =>
                  obn (osi s68 v70 .int (((((x3 + (-1)) + (-1)) + 1) + 1) + 1) v74) fun s76 =>
                  oj_X10_unify_222 n call κ (ol_X10_unify_25 n call κ f) x0 ((((((x3 + (-1)) + (-1)) + 1) + 1) + 1) + 1) x4 s76
                else
                  some (some (.int 0), s18)
              else
                some (some (.int 0), s18)
def ob_X10_unify (n : Nat) (call : oCl) (κ : oKv) (x0 : Option Nat) (x1 : Int32) (x2 : Int32) (σ : oSt) : oRs :=
  obn (ovr (ofd σ x0 12 5)) fun v1 =>
  obn (osi σ v1 .int 0 x1) fun s3 =>
  obn (ovr (ofd s3 x0 12 5)) fun v5 =>
  obn (osi s3 v5 .int (0 + 1) x2) fun s7 =>
  ol_X10_unify_25 n call κ n x0 ((0 + 1) + 1) 0 s7
set_option maxHeartbeats 4000000 in
theorem qj_X10_unify_222 {κ : oKv} {n : Nat} {call : oCl} {kc : Nat → List Value → oSt → Option Value × oSt → Prop} {v : Option Value × oSt} {X : Nat → zLv → List Value → oSt → Prop} (hX : oSem RX10 cX10_unify 7 0 (some .boolean) κ kc v X) (hc : ∀ j av s w, call j av s = some w → kc j av s w) {k25 : Option Nat → Int32 → Int32 → oSt → oRs} (hk25 : ∀ (x0 : Option Nat) (x3 : Int32) (x4 : Int32) (s : oSt), k25 x0 x3 x4 s = some v → X 25 [some (va_rf x0), none, none, some (.int x3), some (.int x4), none, none] [] s) {x0 : Option Nat} {x3 : Int32} {x4 : Int32} {σ : oSt} (h : oj_X10_unify_222 n call κ k25 x0 x3 x4 σ = some v) : X 222 [some (va_rf x0), none, none, some (.int x3), some (.int x4), none, none] [] σ := by
  rw [oj_X10_unify_222] at h
  refine os_iinc (v := x4 + 1) hX dX10_unify_222 rfl rfl (by decide) rfl ?_
  dsimp only [List.set]
  refine os_goto (tgt := 25) hX dX10_unify_225 (by decide) ?_
  exact hk25 _ _ _ _ h
set_option maxHeartbeats 4000000 in
theorem ql_X10_unify_25 {κ : oKv} {n : Nat} {call : oCl} {kc : Nat → List Value → oSt → Option Value × oSt → Prop} {v : Option Value × oSt} {X : Nat → zLv → List Value → oSt → Prop} (hX : oSem RX10 cX10_unify 7 0 (some .boolean) κ kc v X) (hc : ∀ j av s w, call j av s = some w → kc j av s w) : ∀ (f : Nat) (x0 : Option Nat) (x3 : Int32) (x4 : Int32) (σ : oSt), ol_X10_unify_25 n call κ f x0 x3 x4 σ = some v → X 25 [some (va_rf x0), none, none, some (.int x3), some (.int x4), none, none] [] σ := by
  intro f
  induction f with
  | zero => intro x0 x3 x4 σ h; cases h
  | succ f hk25 =>
    intro x0 x3 x4 σ h
    rw [ol_X10_unify_25] at h
    refine os_iload hX dX10_unify_25 rfl ?_
    refine os_ldc (x := 1000000) hX dX10_unify_27 oCI_RX10_99 ?_
    refine os_icmp_ge (tgt := 228) hX dX10_unify_29 (by decide) (fun c1 => ?_) (fun c1 => ?_)
    · rw [if_pos c1] at h
      refine os_iconst (v := 1) hX dX10_unify_228 (by decide) ?_
      exact os_nret (ty := .boolean) hX dX10_unify_229 rfl rfl (by decide) (Option.some.inj h)
    · rw [if_neg c1] at h
      refine os_iload_n hX dX10_unify_32 rfl rfl ?_
      refine os_iconst (v := 2) hX dX10_unify_33 (by decide) ?_
      refine os_icmp_lt (tgt := 228) hX dX10_unify_34 (by decide) (fun c2 => ?_) (fun c2 => ?_)
      · rw [if_pos c2] at h
        refine os_iconst (v := 1) hX dX10_unify_228 (by decide) ?_
        exact os_nret (ty := .boolean) hX dX10_unify_229 rfl rfl (by decide) (Option.some.inj h)
      · rw [if_neg c2] at h
        refine os_aload_n (r := x0) hX dX10_unify_37 rfl rfl ?_
        refine os_aload_n (r := x0) hX dX10_unify_38 rfl rfl ?_
        obtain ⟨v3, e4, h⟩ := obn_e h
        refine ow_get (r := x0) hX dX10_unify_39 oF_RX10_34 (ovr_e e4) ?_
        refine os_iinc (v := x3 + (-1)) hX dX10_unify_42 rfl rfl (by decide) rfl ?_
        dsimp only [List.set]
        refine os_iload_n hX dX10_unify_45 rfl rfl ?_
        obtain ⟨v5, e6, h⟩ := obn_e h
        refine ow_ai (r := v3) (i := (x3 + (-1))) hX dX10_unify_46 e6 ?_
        obtain ⟨a7, e8, h⟩ := obn_e h
        obtain ⟨r11, s9, e10, h⟩ := oin_e h
        refine oc_RX10_89 (rb := x0) (a1 := .int v5) hX dX10_unify_47 (Nat.le_of_ble_eq_true rfl) e8 (hc _ _ _ _ e10) ?_
        refine os_istore hX dX10_unify_50 (by decide) rfl ?_
        dsimp only [List.set]
        refine os_aload_n (r := x0) hX dX10_unify_52 rfl rfl ?_
        refine os_aload_n (r := x0) hX dX10_unify_53 rfl rfl ?_
        obtain ⟨v12, e13, h⟩ := obn_e h
        refine ow_get (r := x0) hX dX10_unify_54 oF_RX10_34 (ovr_e e13) ?_
        refine os_iinc (v := (x3 + (-1)) + (-1)) hX dX10_unify_57 rfl rfl (by decide) rfl ?_
        dsimp only [List.set]
        refine os_iload_n hX dX10_unify_60 rfl rfl ?_
        obtain ⟨v14, e15, h⟩ := obn_e h
        refine ow_ai (r := v12) (i := ((x3 + (-1)) + (-1))) hX dX10_unify_61 e15 ?_
        obtain ⟨a16, e17, h⟩ := obn_e h
        obtain ⟨r20, s18, e19, h⟩ := oin_e h
        refine oc_RX10_89 (rb := x0) (a1 := .int v14) hX dX10_unify_62 (Nat.le_of_ble_eq_true rfl) e17 (hc _ _ _ _ e19) ?_
        refine os_istore hX dX10_unify_65 (by decide) rfl ?_
        dsimp only [List.set]
        refine os_iload hX dX10_unify_67 rfl ?_
        refine os_iload hX dX10_unify_69 rfl ?_
        refine os_icmp_ne (tgt := 77) hX dX10_unify_71 (by decide) (fun c21 => ?_) (fun c21 => ?_)
        · rw [if_neg c21] at h
          refine os_aload_n (r := x0) hX dX10_unify_77 rfl rfl ?_
          obtain ⟨v22, e23, h⟩ := obn_e h
          refine ow_get (r := x0) hX dX10_unify_78 oF_RX10_18 (ovr_e e23) ?_
          refine os_iload hX dX10_unify_81 rfl ?_
          obtain ⟨v24, e25, h⟩ := obn_e h
          refine ow_ai (r := v22) (i := r11) hX dX10_unify_83 e25 ?_
          refine os_if_ne (tgt := 99) hX dX10_unify_84 (by decide) (fun c26 => ?_) (fun c26 => ?_)
          · rw [if_neg c26] at h
            refine os_aload_n (r := x0) hX dX10_unify_99 rfl rfl ?_
            obtain ⟨v27, e28, h⟩ := obn_e h
            refine ow_get (r := x0) hX dX10_unify_100 oF_RX10_18 (ovr_e e28) ?_
            refine os_iload hX dX10_unify_103 rfl ?_
            obtain ⟨v29, e30, h⟩ := obn_e h
            refine ow_ai (r := v27) (i := r20) hX dX10_unify_105 e30 ?_
            refine os_if_ne (tgt := 121) hX dX10_unify_106 (by decide) (fun c31 => ?_) (fun c31 => ?_)
            · rw [if_neg c31] at h
              refine os_aload_n (r := x0) hX dX10_unify_121 rfl rfl ?_
              obtain ⟨v32, e33, h⟩ := obn_e h
              refine ow_get (r := x0) hX dX10_unify_122 oF_RX10_18 (ovr_e e33) ?_
              refine os_iload hX dX10_unify_125 rfl ?_
              obtain ⟨v34, e35, h⟩ := obn_e h
              refine ow_ai (r := v32) (i := r11) hX dX10_unify_127 e35 ?_
              refine os_sipush (v := 206) hX dX10_unify_128 (by decide) ?_
              refine os_icmp_ne (tgt := 147) hX dX10_unify_131 (by decide) (fun c36 => ?_) (fun c36 => ?_)
              · rw [if_neg c36] at h
                refine os_iconst (v := 0) hX dX10_unify_147 (by decide) ?_
                exact os_nret (ty := .boolean) hX dX10_unify_148 rfl rfl (by decide) (Option.some.inj h)
              · rw [if_pos c36] at h
                refine os_aload_n (r := x0) hX dX10_unify_134 rfl rfl ?_
                obtain ⟨v37, e38, h⟩ := obn_e h
                refine ow_get (r := x0) hX dX10_unify_135 oF_RX10_18 (ovr_e e38) ?_
                refine os_iload hX dX10_unify_138 rfl ?_
                obtain ⟨v39, e40, h⟩ := obn_e h
                refine ow_ai (r := v37) (i := r20) hX dX10_unify_140 e40 ?_
                refine os_sipush (v := 206) hX dX10_unify_141 (by decide) ?_
                refine os_icmp_eq (tgt := 149) hX dX10_unify_144 (by decide) (fun c41 => ?_) (fun c41 => ?_)
                · rw [if_pos c41] at h
                  refine os_aload_n (r := x0) hX dX10_unify_149 rfl rfl ?_
                  obtain ⟨v42, e43, h⟩ := obn_e h
                  refine ow_get (r := x0) hX dX10_unify_150 oF_RX10_28 (ovr_e e43) ?_
                  refine os_iload hX dX10_unify_153 rfl ?_
                  refine os_iload hX dX10_unify_155 rfl ?_
                  obtain ⟨s44, e45, h⟩ := obn_e h
                  refine ow_si (r := v42) (i := r11) (x := r20) hX dX10_unify_157 e45 ?_
                  refine os_aload_n (r := x0) hX dX10_unify_158 rfl rfl ?_
                  obtain ⟨v46, e47, h⟩ := obn_e h
                  refine ow_get (r := x0) hX dX10_unify_159 oF_RX10_34 (ovr_e e47) ?_
                  refine os_iload_n hX dX10_unify_162 rfl rfl ?_
                  refine os_iinc (v := ((x3 + (-1)) + (-1)) + 1) hX dX10_unify_163 rfl rfl (by decide) rfl ?_
                  dsimp only [List.set]
                  refine os_aload_n (r := x0) hX dX10_unify_166 rfl rfl ?_
                  obtain ⟨v48, e49, h⟩ := obn_e h
                  refine ow_get (r := x0) hX dX10_unify_167 oF_RX10_25 (ovr_e e49) ?_
                  refine os_iload hX dX10_unify_170 rfl ?_
                  obtain ⟨v50, e51, h⟩ := obn_e h
                  refine ow_ai (r := v48) (i := r11) hX dX10_unify_172 e51 ?_
                  obtain ⟨s52, e53, h⟩ := obn_e h
                  refine ow_si (r := v46) (i := ((x3 + (-1)) + (-1))) (x := v50) hX dX10_unify_173 e53 ?_
                  refine os_aload_n (r := x0) hX dX10_unify_174 rfl rfl ?_
                  obtain ⟨v54, e55, h⟩ := obn_e h
                  refine ow_get (r := x0) hX dX10_unify_175 oF_RX10_34 (ovr_e e55) ?_
                  refine os_iload_n hX dX10_unify_178 rfl rfl ?_
                  refine os_iinc (v := (((x3 + (-1)) + (-1)) + 1) + 1) hX dX10_unify_179 rfl rfl (by decide) rfl ?_
                  dsimp only [List.set]
                  refine os_aload_n (r := x0) hX dX10_unify_182 rfl rfl ?_
                  obtain ⟨v56, e57, h⟩ := obn_e h
                  refine ow_get (r := x0) hX dX10_unify_183 oF_RX10_25 (ovr_e e57) ?_
                  refine os_iload hX dX10_unify_186 rfl ?_
                  obtain ⟨v58, e59, h⟩ := obn_e h
                  refine ow_ai (r := v56) (i := r20) hX dX10_unify_188 e59 ?_
                  obtain ⟨s60, e61, h⟩ := obn_e h
                  refine ow_si (r := v54) (i := (((x3 + (-1)) + (-1)) + 1)) (x := v58) hX dX10_unify_189 e61 ?_
                  refine os_aload_n (r := x0) hX dX10_unify_190 rfl rfl ?_
                  obtain ⟨v62, e63, h⟩ := obn_e h
                  refine ow_get (r := x0) hX dX10_unify_191 oF_RX10_34 (ovr_e e63) ?_
                  refine os_iload_n hX dX10_unify_194 rfl rfl ?_
                  refine os_iinc (v := ((((x3 + (-1)) + (-1)) + 1) + 1) + 1) hX dX10_unify_195 rfl rfl (by decide) rfl ?_
                  dsimp only [List.set]
                  refine os_aload_n (r := x0) hX dX10_unify_198 rfl rfl ?_
                  obtain ⟨v64, e65, h⟩ := obn_e h
                  refine ow_get (r := x0) hX dX10_unify_199 oF_RX10_22 (ovr_e e65) ?_
                  refine os_iload hX dX10_unify_202 rfl ?_
                  obtain ⟨v66, e67, h⟩ := obn_e h
                  refine ow_ai (r := v64) (i := r11) hX dX10_unify_204 e67 ?_
                  obtain ⟨s68, e69, h⟩ := obn_e h
                  refine ow_si (r := v62) (i := ((((x3 + (-1)) + (-1)) + 1) + 1)) (x := v66) hX dX10_unify_205 e69 ?_
                  refine os_aload_n (r := x0) hX dX10_unify_206 rfl rfl ?_
                  obtain ⟨v70, e71, h⟩ := obn_e h
                  refine ow_get (r := x0) hX dX10_unify_207 oF_RX10_34 (ovr_e e71) ?_
                  refine os_iload_n hX dX10_unify_210 rfl rfl ?_
                  refine os_iinc (v := (((((x3 + (-1)) + (-1)) + 1) + 1) + 1) + 1) hX dX10_unify_211 rfl rfl (by decide) rfl ?_
                  dsimp only [List.set]
                  refine os_aload_n (r := x0) hX dX10_unify_214 rfl rfl ?_
                  obtain ⟨v72, e73, h⟩ := obn_e h
                  refine ow_get (r := x0) hX dX10_unify_215 oF_RX10_22 (ovr_e e73) ?_
                  refine os_iload hX dX10_unify_218 rfl ?_
                  obtain ⟨v74, e75, h⟩ := obn_e h
                  refine ow_ai (r := v72) (i := r20) hX dX10_unify_220 e75 ?_
                  obtain ⟨s76, e77, h⟩ := obn_e h
                  refine ow_si (r := v70) (i := (((((x3 + (-1)) + (-1)) + 1) + 1) + 1)) (x := v74) hX dX10_unify_221 e77 ?_
                  refine os_weak hX (lw := [some (va_rf x0), none, none, some (.int ((((((x3 + (-1)) + (-1)) + 1) + 1) + 1) + 1)), some (.int x4), none, none]) ⟨rfl, rfl, rfl, trivial⟩ ?_
                  exact qj_X10_unify_222 hX hc hk25 h
                · rw [if_neg c41] at h
                  refine os_iconst (v := 0) hX dX10_unify_147 (by decide) ?_
                  exact os_nret (ty := .boolean) hX dX10_unify_148 rfl rfl (by decide) (Option.some.inj h)
            · rw [if_pos c31] at h
              refine os_aload_n (r := x0) hX dX10_unify_109 rfl rfl ?_
              obtain ⟨v78, e79, h⟩ := obn_e h
              refine ow_get (r := x0) hX dX10_unify_110 oF_RX10_28 (ovr_e e79) ?_
              refine os_iload hX dX10_unify_113 rfl ?_
              refine os_iload hX dX10_unify_115 rfl ?_
              obtain ⟨s80, e81, h⟩ := obn_e h
              refine ow_si (r := v78) (i := r20) (x := r11) hX dX10_unify_117 e81 ?_
              refine os_goto (tgt := 222) hX dX10_unify_118 (by decide) ?_
              refine os_weak hX (lw := [some (va_rf x0), none, none, some (.int ((x3 + (-1)) + (-1))), some (.int x4), none, none]) ⟨rfl, rfl, rfl, trivial⟩ ?_
              exact qj_X10_unify_222 hX hc hk25 h
          · rw [if_pos c26] at h
            refine os_aload_n (r := x0) hX dX10_unify_87 rfl rfl ?_
            obtain ⟨v82, e83, h⟩ := obn_e h
            refine ow_get (r := x0) hX dX10_unify_88 oF_RX10_28 (ovr_e e83) ?_
            refine os_iload hX dX10_unify_91 rfl ?_
            refine os_iload hX dX10_unify_93 rfl ?_
            obtain ⟨s84, e85, h⟩ := obn_e h
            refine ow_si (r := v82) (i := r11) (x := r20) hX dX10_unify_95 e85 ?_
            refine os_goto (tgt := 222) hX dX10_unify_96 (by decide) ?_
            refine os_weak hX (lw := [some (va_rf x0), none, none, some (.int ((x3 + (-1)) + (-1))), some (.int x4), none, none]) ⟨rfl, rfl, rfl, trivial⟩ ?_
            exact qj_X10_unify_222 hX hc hk25 h
        · rw [if_pos c21] at h
          refine os_goto (tgt := 222) hX dX10_unify_74 (by decide) ?_
          refine os_weak hX (lw := [some (va_rf x0), none, none, some (.int ((x3 + (-1)) + (-1))), some (.int x4), none, none]) ⟨rfl, rfl, rfl, trivial⟩ ?_
          exact qj_X10_unify_222 hX hc hk25 h
set_option maxHeartbeats 4000000 in
theorem qb_X10_unify {κ : oKv} {n : Nat} {call : oCl} {kc : Nat → List Value → oSt → Option Value × oSt → Prop} {v : Option Value × oSt} {X : Nat → zLv → List Value → oSt → Prop} (hX : oSem RX10 cX10_unify 7 0 (some .boolean) κ kc v X) (hc : ∀ j av s w, call j av s = some w → kc j av s w) {x0 : Option Nat} {x1 : Int32} {x2 : Int32} {σ : oSt} (h : ob_X10_unify n call κ x0 x1 x2 σ = some v) : X 0 [some (va_rf x0), some (.int x1), some (.int x2), none, none, none, none] [] σ := by
  rw [ob_X10_unify] at h
  refine os_iconst (v := 0) hX dX10_unify_0 (by decide) ?_
  refine os_istore_n hX dX10_unify_1 rfl (by decide) rfl ?_
  dsimp only [List.set]
  refine os_aload_n (r := x0) hX dX10_unify_2 rfl rfl ?_
  obtain ⟨v1, e2, h⟩ := obn_e h
  refine ow_get (r := x0) hX dX10_unify_3 oF_RX10_34 (ovr_e e2) ?_
  refine os_iload_n hX dX10_unify_6 rfl rfl ?_
  refine os_iinc (v := 0 + 1) hX dX10_unify_7 rfl rfl (by decide) rfl ?_
  dsimp only [List.set]
  refine os_iload_n hX dX10_unify_10 rfl rfl ?_
  obtain ⟨s3, e4, h⟩ := obn_e h
  refine ow_si (r := v1) (i := 0) (x := x1) hX dX10_unify_11 e4 ?_
  refine os_aload_n (r := x0) hX dX10_unify_12 rfl rfl ?_
  obtain ⟨v5, e6, h⟩ := obn_e h
  refine ow_get (r := x0) hX dX10_unify_13 oF_RX10_34 (ovr_e e6) ?_
  refine os_iload_n hX dX10_unify_16 rfl rfl ?_
  refine os_iinc (v := (0 + 1) + 1) hX dX10_unify_17 rfl rfl (by decide) rfl ?_
  dsimp only [List.set]
  refine os_iload_n hX dX10_unify_20 rfl rfl ?_
  obtain ⟨s7, e8, h⟩ := obn_e h
  refine ow_si (r := v5) (i := (0 + 1)) (x := x2) hX dX10_unify_21 e8 ?_
  refine os_iconst (v := 0) hX dX10_unify_22 (by decide) ?_
  refine os_istore hX dX10_unify_23 (by decide) rfl ?_
  dsimp only [List.set]
  refine os_weak hX (lw := [some (va_rf x0), none, none, some (.int ((0 + 1) + 1)), some (.int 0), none, none]) ⟨rfl, rfl, rfl, trivial⟩ ?_
  exact ql_X10_unify_25 hX hc n _ _ _ _ h
def oj_X10_isFinite_163 (n : Nat) (call : oCl) (κ : oKv) (k22 : Option Nat → Int32 → Int32 → oSt → oRs) (x0 : Option Nat) (x2 : Int32) (x3 : Int32) (σ : oSt) : oRs :=
  k22 x0 x2 (x3 + 1) σ
def oj_X10_isFinite_69 (n : Nat) (call : oCl) (κ : oKv) (k22 : Option Nat → Int32 → Int32 → oSt → oRs) (x0 : Option Nat) (x2 : Int32) (x3 : Int32) (x4 : Int32) (σ : oSt) : oRs :=
  obn (ovr (ofd σ x0 12 4)) fun v1 =>
  obn (osi σ v1 .int x4 2) fun s3 =>
  oj_X10_isFinite_163 n call κ k22 x0 (x2 + (-1)) x3 s3
def ol_X10_isFinite_22 (n : Nat) (call : oCl) (κ : oKv) : Nat → Option Nat → Int32 → Int32 → oSt → oRs
  | 0, _, _, _, _ => none
  | f + 1, x0, x2, x3, σ =>
    if 1000000 ≤ x3 then
      some (some (.int 1), σ)
    else
      if x2 ≤ 0 then
        some (some (.int 1), σ)
      else
        obn (ovr (ofd σ x0 12 5)) fun v3 =>
        obn (oai σ v3 .int (x2 - 1)) fun v5 =>
        obn (oob σ x0 12) fun a7 =>
        oin (call 21 [va_rf x0, .int v5] σ) fun r11 s9 =>
        obn (ovr (ofd s9 x0 12 4)) fun v12 =>
        obn (oai s9 v12 .int r11) fun v14 =>
        if v14 = 0 then
          obn (ovr (ofd s9 x0 12 0)) fun v17 =>
          obn (oai s9 v17 .int r11) fun v19 =>
          if v19 = 206 then
            obn (ovr (ofd s9 x0 12 4)) fun v22 =>
            obn (osi s9 v22 .int r11 1) fun s24 =>
            obn (ovr (ofd s24 x0 12 1)) fun v26 =>
            obn (oai s24 v26 .int r11) fun v28 =>
            obn (oob s24 x0 12) fun a30 =>
            oin (call 21 [va_rf x0, .int v28] s24) fun r34 s32 =>
            obn (ovr (ofd s32 x0 12 2)) fun v35 =>
            obn (oai s32 v35 .int r11) fun v37 =>
            obn (oob s32 x0 12) fun a39 =>
            oin (call 21 [va_rf x0, .int v37] s32) fun r43 s41 =>
            obn (ovr (ofd s41 x0 12 4)) fun v44 =>
            obn (oai s41 v44 .int r34) fun v46 =>
            if v46 = 1 then
              some (some (.int 0), s41)
            else
              obn (ovr (ofd s41 x0 12 4)) fun v49 =>
              obn (oai s41 v49 .int r43) fun v51 =>
              if v51 = 1 then
                some (some (.int 0), s41)
              else
                obn (ovr (ofd s41 x0 12 5)) fun v54 =>
                obn (osi s41 v54 .int x2 r43) fun s56 =>
                obn (ovr (ofd s56 x0 12 5)) fun v58 =>
                obn (osi s56 v58 .int (x2 + 1) r34) fun s60 =>
                oj_X10_isFinite_163 n call κ (ol_X10_isFinite_22 n call κ f) x0 ((x2 + 1) + 1) x3 s60
          else
            oj_X10_isFinite_69 n call κ (ol_X10_isFinite_22 n call κ f) x0 x2 x3 r11 s9
        else
          oj_X10_isFinite_69 n call κ (ol_X10_isFinite_22 n call κ f) x0 x2 x3 r11 s9
def ob_X10_isFinite (n : Nat) (call : oCl) (κ : oKv) (x0 : Option Nat) (x1 : Int32) (σ : oSt) : oRs :=
  obn (ovr (ofd σ x0 12 4)) fun v1 =>
  ocv (call 242 [va_rf v1, .int 0] σ) fun s3 =>
  obn (ovr (ofd s3 x0 12 5)) fun v6 =>
  obn (osi s3 v6 .int 0 x1) fun s8 =>
  ol_X10_isFinite_22 n call κ n x0 (0 + 1) 0 s8
set_option maxHeartbeats 4000000 in
theorem qj_X10_isFinite_163 {κ : oKv} {n : Nat} {call : oCl} {kc : Nat → List Value → oSt → Option Value × oSt → Prop} {v : Option Value × oSt} {X : Nat → zLv → List Value → oSt → Prop} (hX : oSem RX10 cX10_isFinite 7 0 (some .boolean) κ kc v X) (hc : ∀ j av s w, call j av s = some w → kc j av s w) {k22 : Option Nat → Int32 → Int32 → oSt → oRs} (hk22 : ∀ (x0 : Option Nat) (x2 : Int32) (x3 : Int32) (s : oSt), k22 x0 x2 x3 s = some v → X 22 [some (va_rf x0), none, some (.int x2), some (.int x3), none, none, none] [] s) {x0 : Option Nat} {x2 : Int32} {x3 : Int32} {σ : oSt} (h : oj_X10_isFinite_163 n call κ k22 x0 x2 x3 σ = some v) : X 163 [some (va_rf x0), none, some (.int x2), some (.int x3), none, none, none] [] σ := by
  rw [oj_X10_isFinite_163] at h
  refine os_iinc (v := x3 + 1) hX dX10_isFinite_163 rfl rfl (by decide) rfl ?_
  dsimp only [List.set]
  refine os_goto (tgt := 22) hX dX10_isFinite_166 (by decide) ?_
  exact hk22 _ _ _ _ h
set_option maxHeartbeats 4000000 in
theorem qj_X10_isFinite_69 {κ : oKv} {n : Nat} {call : oCl} {kc : Nat → List Value → oSt → Option Value × oSt → Prop} {v : Option Value × oSt} {X : Nat → zLv → List Value → oSt → Prop} (hX : oSem RX10 cX10_isFinite 7 0 (some .boolean) κ kc v X) (hc : ∀ j av s w, call j av s = some w → kc j av s w) {k22 : Option Nat → Int32 → Int32 → oSt → oRs} (hk22 : ∀ (x0 : Option Nat) (x2 : Int32) (x3 : Int32) (s : oSt), k22 x0 x2 x3 s = some v → X 22 [some (va_rf x0), none, some (.int x2), some (.int x3), none, none, none] [] s) {x0 : Option Nat} {x2 : Int32} {x3 : Int32} {x4 : Int32} {σ : oSt} (h : oj_X10_isFinite_69 n call κ k22 x0 x2 x3 x4 σ = some v) : X 69 [some (va_rf x0), none, some (.int x2), some (.int x3), some (.int x4), none, none] [] σ := by
  rw [oj_X10_isFinite_69] at h
  refine os_aload_n (r := x0) hX dX10_isFinite_69 rfl rfl ?_
  obtain ⟨v1, e2, h⟩ := obn_e h
  refine ow_get (r := x0) hX dX10_isFinite_70 oF_RX10_31 (ovr_e e2) ?_
  refine os_iload hX dX10_isFinite_73 rfl ?_
  refine os_iconst (v := 2) hX dX10_isFinite_75 (by decide) ?_
  obtain ⟨s3, e4, h⟩ := obn_e h
  refine ow_si (r := v1) (i := x4) (x := 2) hX dX10_isFinite_76 e4 ?_
  refine os_iinc (v := x2 + (-1)) hX dX10_isFinite_77 rfl rfl (by decide) rfl ?_
  dsimp only [List.set]
  refine os_goto (tgt := 163) hX dX10_isFinite_80 (by decide) ?_
  refine os_weak hX (lw := [some (va_rf x0), none, some (.int (x2 + (-1))), some (.int x3), none, none, none]) ⟨rfl, rfl, rfl, trivial⟩ ?_
  exact qj_X10_isFinite_163 hX hc hk22 h
set_option maxHeartbeats 4000000 in
theorem ql_X10_isFinite_22 {κ : oKv} {n : Nat} {call : oCl} {kc : Nat → List Value → oSt → Option Value × oSt → Prop} {v : Option Value × oSt} {X : Nat → zLv → List Value → oSt → Prop} (hX : oSem RX10 cX10_isFinite 7 0 (some .boolean) κ kc v X) (hc : ∀ j av s w, call j av s = some w → kc j av s w) : ∀ (f : Nat) (x0 : Option Nat) (x2 : Int32) (x3 : Int32) (σ : oSt), ol_X10_isFinite_22 n call κ f x0 x2 x3 σ = some v → X 22 [some (va_rf x0), none, some (.int x2), some (.int x3), none, none, none] [] σ := by
  intro f
  induction f with
  | zero => intro x0 x2 x3 σ h; cases h
  | succ f hk22 =>
    intro x0 x2 x3 σ h
    rw [ol_X10_isFinite_22] at h
    refine os_iload_n hX dX10_isFinite_22 rfl rfl ?_
    refine os_ldc (x := 1000000) hX dX10_isFinite_23 oCI_RX10_99 ?_
    refine os_icmp_ge (tgt := 169) hX dX10_isFinite_25 (by decide) (fun c1 => ?_) (fun c1 => ?_)
    · rw [if_pos c1] at h
      refine os_iconst (v := 1) hX dX10_isFinite_169 (by decide) ?_
      exact os_nret (ty := .boolean) hX dX10_isFinite_170 rfl rfl (by decide) (Option.some.inj h)
    · rw [if_neg c1] at h
      refine os_iload_n hX dX10_isFinite_28 rfl rfl ?_
      refine os_if_le (tgt := 169) hX dX10_isFinite_29 (by decide) (fun c2 => ?_) (fun c2 => ?_)
      · rw [if_pos c2] at h
        refine os_iconst (v := 1) hX dX10_isFinite_169 (by decide) ?_
        exact os_nret (ty := .boolean) hX dX10_isFinite_170 rfl rfl (by decide) (Option.some.inj h)
      · rw [if_neg c2] at h
        refine os_aload_n (r := x0) hX dX10_isFinite_32 rfl rfl ?_
        refine os_aload_n (r := x0) hX dX10_isFinite_33 rfl rfl ?_
        obtain ⟨v3, e4, h⟩ := obn_e h
        refine ow_get (r := x0) hX dX10_isFinite_34 oF_RX10_34 (ovr_e e4) ?_
        refine os_iload_n hX dX10_isFinite_37 rfl rfl ?_
        refine os_iconst (v := 1) hX dX10_isFinite_38 (by decide) ?_
        refine os_isub hX dX10_isFinite_39 ?_
        obtain ⟨v5, e6, h⟩ := obn_e h
        refine ow_ai (r := v3) (i := (x2 - 1)) hX dX10_isFinite_40 e6 ?_
        obtain ⟨a7, e8, h⟩ := obn_e h
        obtain ⟨r11, s9, e10, h⟩ := oin_e h
        refine oc_RX10_89 (rb := x0) (a1 := .int v5) hX dX10_isFinite_41 (Nat.le_of_ble_eq_true rfl) e8 (hc _ _ _ _ e10) ?_
        refine os_istore hX dX10_isFinite_44 (by decide) rfl ?_
        dsimp only [List.set]
        refine os_aload_n (r := x0) hX dX10_isFinite_46 rfl rfl ?_
        obtain ⟨v12, e13, h⟩ := obn_e h
        refine ow_get (r := x0) hX dX10_isFinite_47 oF_RX10_31 (ovr_e e13) ?_
        refine os_iload hX dX10_isFinite_50 rfl ?_
        obtain ⟨v14, e15, h⟩ := obn_e h
        refine ow_ai (r := v12) (i := r11) hX dX10_isFinite_52 e15 ?_
        refine os_if_ne (tgt := 69) hX dX10_isFinite_53 (by decide) (fun c16 => ?_) (fun c16 => ?_)
        · rw [if_neg c16] at h
          exact qj_X10_isFinite_69 hX hc hk22 h
        · rw [if_pos c16] at h
          refine os_aload_n (r := x0) hX dX10_isFinite_56 rfl rfl ?_
          obtain ⟨v17, e18, h⟩ := obn_e h
          refine ow_get (r := x0) hX dX10_isFinite_57 oF_RX10_18 (ovr_e e18) ?_
          refine os_iload hX dX10_isFinite_60 rfl ?_
          obtain ⟨v19, e20, h⟩ := obn_e h
          refine ow_ai (r := v17) (i := r11) hX dX10_isFinite_62 e20 ?_
          refine os_sipush (v := 206) hX dX10_isFinite_63 (by decide) ?_
          refine os_icmp_eq (tgt := 83) hX dX10_isFinite_66 (by decide) (fun c21 => ?_) (fun c21 => ?_)
          · rw [if_pos c21] at h
            refine os_aload_n (r := x0) hX dX10_isFinite_83 rfl rfl ?_
            obtain ⟨v22, e23, h⟩ := obn_e h
            refine ow_get (r := x0) hX dX10_isFinite_84 oF_RX10_31 (ovr_e e23) ?_
            refine os_iload hX dX10_isFinite_87 rfl ?_
            refine os_iconst (v := 1) hX dX10_isFinite_89 (by decide) ?_
            obtain ⟨s24, e25, h⟩ := obn_e h
            refine ow_si (r := v22) (i := r11) (x := 1) hX dX10_isFinite_90 e25 ?_
            refine os_aload_n (r := x0) hX dX10_isFinite_91 rfl rfl ?_
            refine os_aload_n (r := x0) hX dX10_isFinite_92 rfl rfl ?_
            obtain ⟨v26, e27, h⟩ := obn_e h
            refine ow_get (r := x0) hX dX10_isFinite_93 oF_RX10_22 (ovr_e e27) ?_
            refine os_iload hX dX10_isFinite_96 rfl ?_
            obtain ⟨v28, e29, h⟩ := obn_e h
            refine ow_ai (r := v26) (i := r11) hX dX10_isFinite_98 e29 ?_
            obtain ⟨a30, e31, h⟩ := obn_e h
            obtain ⟨r34, s32, e33, h⟩ := oin_e h
            refine oc_RX10_89 (rb := x0) (a1 := .int v28) hX dX10_isFinite_99 (Nat.le_of_ble_eq_true rfl) e31 (hc _ _ _ _ e33) ?_
            refine os_istore hX dX10_isFinite_102 (by decide) rfl ?_
            dsimp only [List.set]
            refine os_aload_n (r := x0) hX dX10_isFinite_104 rfl rfl ?_
            refine os_aload_n (r := x0) hX dX10_isFinite_105 rfl rfl ?_
            obtain ⟨v35, e36, h⟩ := obn_e h
            refine ow_get (r := x0) hX dX10_isFinite_106 oF_RX10_25 (ovr_e e36) ?_
            refine os_iload hX dX10_isFinite_109 rfl ?_
            obtain ⟨v37, e38, h⟩ := obn_e h
            refine ow_ai (r := v35) (i := r11) hX dX10_isFinite_111 e38 ?_
            obtain ⟨a39, e40, h⟩ := obn_e h
            obtain ⟨r43, s41, e42, h⟩ := oin_e h
            refine oc_RX10_89 (rb := x0) (a1 := .int v37) hX dX10_isFinite_112 (Nat.le_of_ble_eq_true rfl) e40 (hc _ _ _ _ e42) ?_
            refine os_istore hX dX10_isFinite_115 (by decide) rfl ?_
            dsimp only [List.set]
            refine os_aload_n (r := x0) hX dX10_isFinite_117 rfl rfl ?_
            obtain ⟨v44, e45, h⟩ := obn_e h
            refine ow_get (r := x0) hX dX10_isFinite_118 oF_RX10_31 (ovr_e e45) ?_
            refine os_iload hX dX10_isFinite_121 rfl ?_
            obtain ⟨v46, e47, h⟩ := obn_e h
            refine ow_ai (r := v44) (i := r34) hX dX10_isFinite_123 e47 ?_
            refine os_iconst (v := 1) hX dX10_isFinite_124 (by decide) ?_
            refine os_icmp_eq (tgt := 139) hX dX10_isFinite_125 (by decide) (fun c48 => ?_) (fun c48 => ?_)
            · rw [if_pos c48] at h
              refine os_iconst (v := 0) hX dX10_isFinite_139 (by decide) ?_
              exact os_nret (ty := .boolean) hX dX10_isFinite_140 rfl rfl (by decide) (Option.some.inj h)
            · rw [if_neg c48] at h
              refine os_aload_n (r := x0) hX dX10_isFinite_128 rfl rfl ?_
              obtain ⟨v49, e50, h⟩ := obn_e h
              refine ow_get (r := x0) hX dX10_isFinite_129 oF_RX10_31 (ovr_e e50) ?_
              refine os_iload hX dX10_isFinite_132 rfl ?_
              obtain ⟨v51, e52, h⟩ := obn_e h
              refine ow_ai (r := v49) (i := r43) hX dX10_isFinite_134 e52 ?_
              refine os_iconst (v := 1) hX dX10_isFinite_135 (by decide) ?_
              refine os_icmp_ne (tgt := 141) hX dX10_isFinite_136 (by decide) (fun c53 => ?_) (fun c53 => ?_)
              · rw [if_neg c53] at h
                refine os_aload_n (r := x0) hX dX10_isFinite_141 rfl rfl ?_
                obtain ⟨v54, e55, h⟩ := obn_e h
                refine ow_get (r := x0) hX dX10_isFinite_142 oF_RX10_34 (ovr_e e55) ?_
                refine os_iload_n hX dX10_isFinite_145 rfl rfl ?_
                refine os_iinc (v := x2 + 1) hX dX10_isFinite_146 rfl rfl (by decide) rfl ?_
                dsimp only [List.set]
                refine os_iload hX dX10_isFinite_149 rfl ?_
                obtain ⟨s56, e57, h⟩ := obn_e h
                refine ow_si (r := v54) (i := x2) (x := r43) hX dX10_isFinite_151 e57 ?_
                refine os_aload_n (r := x0) hX dX10_isFinite_152 rfl rfl ?_
                obtain ⟨v58, e59, h⟩ := obn_e h
                refine ow_get (r := x0) hX dX10_isFinite_153 oF_RX10_34 (ovr_e e59) ?_
                refine os_iload_n hX dX10_isFinite_156 rfl rfl ?_
                refine os_iinc (v := (x2 + 1) + 1) hX dX10_isFinite_157 rfl rfl (by decide) rfl ?_
                dsimp only [List.set]
                refine os_iload hX dX10_isFinite_160 rfl ?_
                obtain ⟨s60, e61, h⟩ := obn_e h
                refine ow_si (r := v58) (i := (x2 + 1)) (x := r34) hX dX10_isFinite_162 e61 ?_
                refine os_weak hX (lw := [some (va_rf x0), none, some (.int ((x2 + 1) + 1)), some (.int x3), none, none, none]) ⟨rfl, rfl, rfl, trivial⟩ ?_
                exact qj_X10_isFinite_163 hX hc hk22 h
              · rw [if_pos c53] at h
                refine os_iconst (v := 0) hX dX10_isFinite_139 (by decide) ?_
                exact os_nret (ty := .boolean) hX dX10_isFinite_140 rfl rfl (by decide) (Option.some.inj h)
          · rw [if_neg c21] at h
            exact qj_X10_isFinite_69 hX hc hk22 h
set_option maxHeartbeats 4000000 in
theorem qb_X10_isFinite {κ : oKv} {n : Nat} {call : oCl} {kc : Nat → List Value → oSt → Option Value × oSt → Prop} {v : Option Value × oSt} {X : Nat → zLv → List Value → oSt → Prop} (hX : oSem RX10 cX10_isFinite 7 0 (some .boolean) κ kc v X) (hc : ∀ j av s w, call j av s = some w → kc j av s w) {x0 : Option Nat} {x1 : Int32} {σ : oSt} (h : ob_X10_isFinite n call κ x0 x1 σ = some v) : X 0 [some (va_rf x0), some (.int x1), none, none, none, none, none] [] σ := by
  rw [ob_X10_isFinite] at h
  refine os_aload_n (r := x0) hX dX10_isFinite_0 rfl rfl ?_
  obtain ⟨v1, e2, h⟩ := obn_e h
  refine ow_get (r := x0) hX dX10_isFinite_1 oF_RX10_31 (ovr_e e2) ?_
  refine os_iconst (v := 0) hX dX10_isFinite_4 (by decide) ?_
  obtain ⟨s3, e4, h⟩ := ocv_e h
  refine oc_RX10_100 (a1 := va_rf v1) (a2 := .int 0) hX dX10_isFinite_5 (Nat.le_of_ble_eq_true rfl) (hc _ _ _ _ e4) ?_
  refine os_iconst (v := 0) hX dX10_isFinite_8 (by decide) ?_
  refine os_istore_n hX dX10_isFinite_9 rfl (by decide) rfl ?_
  dsimp only [List.set]
  refine os_aload_n (r := x0) hX dX10_isFinite_10 rfl rfl ?_
  obtain ⟨v6, e7, h⟩ := obn_e h
  refine ow_get (r := x0) hX dX10_isFinite_11 oF_RX10_34 (ovr_e e7) ?_
  refine os_iload_n hX dX10_isFinite_14 rfl rfl ?_
  refine os_iinc (v := 0 + 1) hX dX10_isFinite_15 rfl rfl (by decide) rfl ?_
  dsimp only [List.set]
  refine os_iload_n hX dX10_isFinite_18 rfl rfl ?_
  obtain ⟨s8, e9, h⟩ := obn_e h
  refine ow_si (r := v6) (i := 0) (x := x1) hX dX10_isFinite_19 e9 ?_
  refine os_iconst (v := 0) hX dX10_isFinite_20 (by decide) ?_
  refine os_istore_n hX dX10_isFinite_21 rfl (by decide) rfl ?_
  dsimp only [List.set]
  refine os_weak hX (lw := [some (va_rf x0), none, some (.int (0 + 1)), some (.int 0), none, none, none]) ⟨rfl, rfl, rfl, trivial⟩ ?_
  exact ql_X10_isFinite_22 hX hc n _ _ _ _ h
def oj_X10_must_24 (n : Nat) (call : oCl) (κ : oKv) (x0 : Option Nat) (x3 : Int32) (σ : oSt) : oRs :=
  obn (opf σ x0 12 8 (.int x3)) fun s1 =>
  some (none, s1)
def ob_X10_must (n : Nat) (call : oCl) (κ : oKv) (x0 : Option Nat) (x1 : Int32) (x2 : Int32) (x3 : Int32) (σ : oSt) : oRs :=
  obn (ovi (ofd σ x0 12 8)) fun v1 =>
  if 0 ≤ v1 then
    some (none, σ)
  else
    obn (oob σ x0 12) fun a4 =>
    oin (call 150 [va_rf x0, .int x1, .int x2] σ) fun r8 s6 =>
    if r8 = 0 then
      oj_X10_must_24 n call κ x0 x3 s6
    else
      obn (oob s6 x0 12) fun a10 =>
      oin (call 151 [va_rf x0, .int x1] s6) fun r14 s12 =>
      if r14 = 0 then
        oj_X10_must_24 n call κ x0 x3 s12
      else
        some (none, s12)
set_option maxHeartbeats 4000000 in
theorem qj_X10_must_24 {κ : oKv} {n : Nat} {call : oCl} {kc : Nat → List Value → oSt → Option Value × oSt → Prop} {v : Option Value × oSt} {X : Nat → zLv → List Value → oSt → Prop} (hX : oSem RX10 cX10_must 4 0 none κ kc v X) (hc : ∀ j av s w, call j av s = some w → kc j av s w) {x0 : Option Nat} {x3 : Int32} {σ : oSt} (h : oj_X10_must_24 n call κ x0 x3 σ = some v) : X 24 [some (va_rf x0), none, none, some (.int x3)] [] σ := by
  rw [oj_X10_must_24] at h
  refine os_aload_n (r := x0) hX dX10_must_24 rfl rfl ?_
  refine os_iload_n hX dX10_must_25 rfl rfl ?_
  obtain ⟨s1, e2, h⟩ := obn_e h
  refine ow_put (r := x0) (x := .int x3) hX dX10_must_26 oF_RX10_9 (by decide) (opn_I oT_12_8) e2 ?_
  exact os_vret hX dX10_must_29 rfl (Option.some.inj h)
set_option maxHeartbeats 4000000 in
theorem qb_X10_must {κ : oKv} {n : Nat} {call : oCl} {kc : Nat → List Value → oSt → Option Value × oSt → Prop} {v : Option Value × oSt} {X : Nat → zLv → List Value → oSt → Prop} (hX : oSem RX10 cX10_must 4 0 none κ kc v X) (hc : ∀ j av s w, call j av s = some w → kc j av s w) {x0 : Option Nat} {x1 : Int32} {x2 : Int32} {x3 : Int32} {σ : oSt} (h : ob_X10_must n call κ x0 x1 x2 x3 σ = some v) : X 0 [some (va_rf x0), some (.int x1), some (.int x2), some (.int x3)] [] σ := by
  rw [ob_X10_must] at h
  refine os_aload_n (r := x0) hX dX10_must_0 rfl rfl ?_
  obtain ⟨v1, e2, h⟩ := obn_e h
  refine ow_get (r := x0) hX dX10_must_1 oF_RX10_9 (ovi_e e2) ?_
  refine os_if_ge (tgt := 29) hX dX10_must_4 (by decide) (fun c3 => ?_) (fun c3 => ?_)
  · rw [if_pos c3] at h
    exact os_vret hX dX10_must_29 rfl (Option.some.inj h)
  · rw [if_neg c3] at h
    refine os_aload_n (r := x0) hX dX10_must_7 rfl rfl ?_
    refine os_iload_n hX dX10_must_8 rfl rfl ?_
    refine os_iload_n hX dX10_must_9 rfl rfl ?_
    obtain ⟨a4, e5, h⟩ := obn_e h
    obtain ⟨r8, s6, e7, h⟩ := oin_e h
    refine oc_RX10_91 (rb := x0) (a1 := .int x1) (a2 := .int x2) hX dX10_must_10 (Nat.le_of_ble_eq_true rfl) e5 (hc _ _ _ _ e7) ?_
    refine os_if_eq (tgt := 24) hX dX10_must_13 (by decide) (fun c9 => ?_) (fun c9 => ?_)
    · rw [if_pos c9] at h
      refine os_weak hX (lw := [some (va_rf x0), none, none, some (.int x3)]) ⟨rfl, rfl, trivial⟩ ?_
      exact qj_X10_must_24 hX hc h
    · rw [if_neg c9] at h
      refine os_aload_n (r := x0) hX dX10_must_16 rfl rfl ?_
      refine os_iload_n hX dX10_must_17 rfl rfl ?_
      obtain ⟨a10, e11, h⟩ := obn_e h
      obtain ⟨r14, s12, e13, h⟩ := oin_e h
      refine oc_RX10_95 (rb := x0) (a1 := .int x1) hX dX10_must_18 (Nat.le_of_ble_eq_true rfl) e11 (hc _ _ _ _ e13) ?_
      refine os_if_ne (tgt := 29) hX dX10_must_21 (by decide) (fun c15 => ?_) (fun c15 => ?_)
      · rw [if_neg c15] at h
        exact os_vret hX dX10_must_29 rfl (Option.some.inj h)
      · rw [if_pos c15] at h
        refine os_weak hX (lw := [some (va_rf x0), none, none, some (.int x3)]) ⟨rfl, rfl, trivial⟩ ?_
        exact qj_X10_must_24 hX hc h
def ol_X10_checkSum_2 (n : Nat) (call : oCl) (κ : oKv) : Nat → Option Nat → Option Nat → Int32 → oSt → oRs
  | 0, _, _, _, _ => none
  | f + 1, x0, x1, x2, σ =>
    obn (ovr (ofd σ x1 7 18)) fun v1 =>
    obn (oob σ v1 1) fun a3 =>
    oin (call 236 [va_rf v1] σ) fun r7 s5 =>
    if r7 ≤ x2 then
      some (none, s5)
    else
      obn (ovr (ofd s5 x1 7 18)) fun v9 =>
      obn (oob s5 v9 1) fun a11 =>
      orn (call 234 [va_rf v9, .int x2] s5) fun r15 s13 =>
      ogd (ocs s13 r15 7) (
      obn (ovr (ofd s13 r15 7 9)) fun v17 =>
      obn (ovi (ofd s13 v17 6 2)) fun v19 =>
      obn (ovi (ofd s13 r15 7 0)) fun v21 =>
      oin (call 148 [.int v21] s13) fun r25 s23 =>
      obn (ovi (ofd s23 r15 7 1)) fun v26 =>
      obn (oob s23 x0 12) fun a28 =>
      ocv (call 152 [va_rf x0, .int v19, .int r25, .int v26] s23) fun s30 =>
      ol_X10_checkSum_2 n call κ f x0 x1 (x2 + 1) s30)
def ob_X10_checkSum (n : Nat) (call : oCl) (κ : oKv) (x0 : Option Nat) (x1 : Option Nat) (σ : oSt) : oRs :=
  ol_X10_checkSum_2 n call κ n x0 x1 0 σ
set_option maxHeartbeats 4000000 in
theorem ql_X10_checkSum_2 {κ : oKv} {n : Nat} {call : oCl} {kc : Nat → List Value → oSt → Option Value × oSt → Prop} {v : Option Value × oSt} {X : Nat → zLv → List Value → oSt → Prop} (hX : oSem RX10 cX10_checkSum 4 0 none κ kc v X) (hc : ∀ j av s w, call j av s = some w → kc j av s w) : ∀ (f : Nat) (x0 : Option Nat) (x1 : Option Nat) (x2 : Int32) (σ : oSt), ol_X10_checkSum_2 n call κ f x0 x1 x2 σ = some v → X 2 [some (va_rf x0), some (va_rf x1), some (.int x2), none] [] σ := by
  intro f
  induction f with
  | zero => intro x0 x1 x2 σ h; cases h
  | succ f hk2 =>
    intro x0 x1 x2 σ h
    rw [ol_X10_checkSum_2] at h
    refine os_iload_n hX dX10_checkSum_2 rfl rfl ?_
    refine os_aload_n (r := x1) hX dX10_checkSum_3 rfl rfl ?_
    obtain ⟨v1, e2, h⟩ := obn_e h
    refine ow_get (r := x1) hX dX10_checkSum_4 oF_RX10_171 (ovr_e e2) ?_
    obtain ⟨a3, e4, h⟩ := obn_e h
    obtain ⟨r7, s5, e6, h⟩ := oin_e h
    refine oc_RX10_50 (rb := v1)  hX dX10_checkSum_7 (Nat.le_of_ble_eq_true rfl) e4 (hc _ _ _ _ e6) ?_
    refine os_icmp_ge (tgt := 53) hX dX10_checkSum_10 (by decide) (fun c8 => ?_) (fun c8 => ?_)
    · rw [if_pos c8] at h
      exact os_vret hX dX10_checkSum_53 rfl (Option.some.inj h)
    · rw [if_neg c8] at h
      refine os_aload_n (r := x1) hX dX10_checkSum_13 rfl rfl ?_
      obtain ⟨v9, e10, h⟩ := obn_e h
      refine ow_get (r := x1) hX dX10_checkSum_14 oF_RX10_171 (ovr_e e10) ?_
      refine os_iload_n hX dX10_checkSum_17 rfl rfl ?_
      obtain ⟨a11, e12, h⟩ := obn_e h
      obtain ⟨r15, s13, e14, h⟩ := orn_e h
      refine oc_RX10_56 (rb := v9) (a1 := .int x2) hX dX10_checkSum_18 (Nat.le_of_ble_eq_true rfl) e12 (hc _ _ _ _ e14) ?_
      obtain ⟨b16, h⟩ := ogd_e h
      refine ow_cs (r := r15) hX dX10_checkSum_21 oK_RX10_107 b16 ?_
      refine os_astore_n (r := r15) hX dX10_checkSum_24 rfl (by decide) rfl ?_
      dsimp only [List.set]
      refine os_aload_n (r := x0) hX dX10_checkSum_25 rfl rfl ?_
      refine os_aload_n (r := r15) hX dX10_checkSum_26 rfl rfl ?_
      obtain ⟨v17, e18, h⟩ := obn_e h
      refine ow_get (r := r15) hX dX10_checkSum_27 oF_RX10_147 (ovr_e e18) ?_
      obtain ⟨v19, e20, h⟩ := obn_e h
      refine ow_get (r := v17) hX dX10_checkSum_30 oF_RX10_68 (ovi_e e20) ?_
      refine os_aload_n (r := r15) hX dX10_checkSum_33 rfl rfl ?_
      obtain ⟨v21, e22, h⟩ := obn_e h
      refine ow_get (r := r15) hX dX10_checkSum_34 oF_RX10_106 (ovi_e e22) ?_
      obtain ⟨r25, s23, e24, h⟩ := oin_e h
      refine oc_RX10_65 (a1 := .int v21) hX dX10_checkSum_37 (by simp only [List.map_cons, List.map_nil, List.sum_cons, List.sum_nil, ocat]; exact Nat.le_of_ble_eq_true rfl) (hc _ _ _ _ e24) ?_
      refine os_aload_n (r := r15) hX dX10_checkSum_40 rfl rfl ?_
      obtain ⟨v26, e27, h⟩ := obn_e h
      refine ow_get (r := r15) hX dX10_checkSum_41 oF_RX10_137 (ovi_e e27) ?_
      obtain ⟨a28, e29, h⟩ := obn_e h
      obtain ⟨s30, e31, h⟩ := ocv_e h
      refine oc_RX10_140 (rb := x0) (a1 := .int v19) (a2 := .int r25) (a3 := .int v26) hX dX10_checkSum_44 (Nat.le_of_ble_eq_true rfl) e29 (hc _ _ _ _ e31) ?_
      refine os_iinc (v := x2 + 1) hX dX10_checkSum_47 rfl rfl (by decide) (ozlo (i := 1) (r := x1) rfl) ?_
      dsimp only [List.set]
      refine os_goto (tgt := 2) hX dX10_checkSum_50 (by decide) ?_
      refine os_weak hX (lw := [some (va_rf x0), some (va_rf x1), some (.int (x2 + 1)), none]) ⟨rfl, rfl, rfl, trivial⟩ ?_
      exact hk2 _ _ _ _ h
set_option maxHeartbeats 4000000 in
theorem qb_X10_checkSum {κ : oKv} {n : Nat} {call : oCl} {kc : Nat → List Value → oSt → Option Value × oSt → Prop} {v : Option Value × oSt} {X : Nat → zLv → List Value → oSt → Prop} (hX : oSem RX10 cX10_checkSum 4 0 none κ kc v X) (hc : ∀ j av s w, call j av s = some w → kc j av s w) {x0 : Option Nat} {x1 : Option Nat} {σ : oSt} (h : ob_X10_checkSum n call κ x0 x1 σ = some v) : X 0 [some (va_rf x0), some (va_rf x1), none, none] [] σ := by
  rw [ob_X10_checkSum] at h
  refine os_iconst (v := 0) hX dX10_checkSum_0 (by decide) ?_
  refine os_istore_n hX dX10_checkSum_1 rfl (by decide) (ozlo (i := 1) (r := x1) rfl) ?_
  dsimp only [List.set]
  exact ql_X10_checkSum_2 hX hc n _ _ _ _ h
theorem olk_X10_checkTest_4 {x : Int32} (h0 : ¬ x = 217) (h1 : ¬ x = 302) (h2 : ¬ x = 303) (h3 : ¬ x = 402) (h4 : ¬ x = 403) : Op.lookupswitch.offset (#[(217, 52), (302, 63), (303, 63), (402, 100), (403, 124)] : Array (Int × Int)).toList 143 x.toInt = 143 := by
  have a0 := z_ne h0 (k := 217) (by decide)
  have a1 := z_ne h1 (k := 302) (by decide)
  have a2 := z_ne h2 (k := 303) (by decide)
  have a3 := z_ne h3 (k := 402) (by decide)
  have a4 := z_ne h4 (k := 403) (by decide)
  simp [Op.lookupswitch.offset, a0, Ne.symm a0, a1, Ne.symm a1, a2, Ne.symm a2, a3, Ne.symm a3, a4, Ne.symm a4]
def ol_X10_checkTest_69 (n : Nat) (call : oCl) (κ : oKv) : Nat → Option Nat → Option Nat → Int32 → oSt → oRs
  | 0, _, _, _, _ => none
  | f + 1, x0, x1, x2, σ =>
    obn (ovr (ofd σ x1 7 18)) fun v1 =>
    obn (oob σ v1 1) fun a3 =>
    oin (call 236 [va_rf v1] σ) fun r7 s5 =>
    if r7 ≤ x2 then
      some (none, s5)
    else
      obn (ovr (ofd s5 x1 7 18)) fun v9 =>
      obn (oob s5 v9 1) fun a11 =>
      orn (call 234 [va_rf v9, .int x2] s5) fun r15 s13 =>
      ogd (ocs s13 r15 7) (
      obn (oob s13 x0 12) fun a17 =>
      ocv (call 154 [va_rf x0, va_rf r15] s13) fun s19 =>
      ol_X10_checkTest_69 n call κ f x0 x1 (x2 + 1) s19)
def ob_X10_checkTest (n : Nat) (call : oCl) (κ : oKv) (x0 : Option Nat) (x1 : Option Nat) (σ : oSt) : oRs :=
  obn (ovi (ofd σ x1 7 0)) fun v1 =>
  if v1 = 217 then
    obn (ovr (ofd σ x1 7 12)) fun v4 =>
    obn (oob σ x0 12) fun a6 =>
    ocv (call 154 [va_rf x0, va_rf v4] σ) fun s8 =>
    some (none, s8)
  else
  if v1 = 302 then
    ol_X10_checkTest_69 n call κ n x0 x1 0 σ
  else
  if v1 = 303 then
    ol_X10_checkTest_69 n call κ n x0 x1 0 σ
  else
  if v1 = 402 then
    obn (ovr (ofd σ x1 7 9)) fun v14 =>
    obn (ovi (ofd σ v14 6 2)) fun v16 =>
    oin (call 148 [.int 202] σ) fun r20 s18 =>
    obn (ovi (ofd s18 x1 7 1)) fun v21 =>
    obn (oob s18 x0 12) fun a23 =>
    ocv (call 152 [va_rf x0, .int v16, .int r20, .int v21] s18) fun s25 =>
    some (none, s25)
  else
  if v1 = 403 then
    obn (ovr (ofd σ x1 7 15)) fun v29 =>
    obn (oob σ x0 12) fun a31 =>
    ocv (call 153 [va_rf x0, va_rf v29] σ) fun s33 =>
    obn (ovr (ofd s33 x1 7 16)) fun v36 =>
    obn (oob s33 x0 12) fun a38 =>
    ocv (call 153 [va_rf x0, va_rf v36] s33) fun s40 =>
    some (none, s40)
  else
  some (none, σ)
set_option maxHeartbeats 4000000 in
theorem ql_X10_checkTest_69 {κ : oKv} {n : Nat} {call : oCl} {kc : Nat → List Value → oSt → Option Value × oSt → Prop} {v : Option Value × oSt} {X : Nat → zLv → List Value → oSt → Prop} (hX : oSem RX10 cX10_checkTest 3 0 none κ kc v X) (hc : ∀ j av s w, call j av s = some w → kc j av s w) : ∀ (f : Nat) (x0 : Option Nat) (x1 : Option Nat) (x2 : Int32) (σ : oSt), ol_X10_checkTest_69 n call κ f x0 x1 x2 σ = some v → X 69 [some (va_rf x0), some (va_rf x1), some (.int x2)] [] σ := by
  intro f
  induction f with
  | zero => intro x0 x1 x2 σ h; cases h
  | succ f hk69 =>
    intro x0 x1 x2 σ h
    rw [ol_X10_checkTest_69] at h
    refine os_iload_n hX dX10_checkTest_69 rfl rfl ?_
    refine os_aload_n (r := x1) hX dX10_checkTest_70 rfl rfl ?_
    obtain ⟨v1, e2, h⟩ := obn_e h
    refine ow_get (r := x1) hX dX10_checkTest_71 oF_RX10_171 (ovr_e e2) ?_
    obtain ⟨a3, e4, h⟩ := obn_e h
    obtain ⟨r7, s5, e6, h⟩ := oin_e h
    refine oc_RX10_50 (rb := v1)  hX dX10_checkTest_74 (Nat.le_of_ble_eq_true rfl) e4 (hc _ _ _ _ e6) ?_
    refine os_icmp_ge (tgt := 101) hX dX10_checkTest_77 (by decide) (fun c8 => ?_) (fun c8 => ?_)
    · rw [if_pos c8] at h
      refine os_goto (tgt := 147) hX dX10_checkTest_101 (by decide) ?_
      exact os_vret hX dX10_checkTest_147 rfl (Option.some.inj h)
    · rw [if_neg c8] at h
      refine os_aload_n (r := x0) hX dX10_checkTest_80 rfl rfl ?_
      refine os_aload_n (r := x1) hX dX10_checkTest_81 rfl rfl ?_
      obtain ⟨v9, e10, h⟩ := obn_e h
      refine ow_get (r := x1) hX dX10_checkTest_82 oF_RX10_171 (ovr_e e10) ?_
      refine os_iload_n hX dX10_checkTest_85 rfl rfl ?_
      obtain ⟨a11, e12, h⟩ := obn_e h
      obtain ⟨r15, s13, e14, h⟩ := orn_e h
      refine oc_RX10_56 (rb := v9) (a1 := .int x2) hX dX10_checkTest_86 (by simp only [List.map_cons, List.map_nil, List.sum_cons, List.sum_nil, ocat]; exact Nat.le_of_ble_eq_true rfl) e12 (hc _ _ _ _ e14) ?_
      obtain ⟨b16, h⟩ := ogd_e h
      refine ow_cs (r := r15) hX dX10_checkTest_89 oK_RX10_107 b16 ?_
      obtain ⟨a17, e18, h⟩ := obn_e h
      obtain ⟨s19, e20, h⟩ := ocv_e h
      refine oc_RX10_134 (rb := x0) (a1 := va_rf r15) hX dX10_checkTest_92 (Nat.le_of_ble_eq_true rfl) e18 (hc _ _ _ _ e20) ?_
      refine os_iinc (v := x2 + 1) hX dX10_checkTest_95 rfl rfl (by decide) (ozlo (i := 1) (r := x1) rfl) ?_
      dsimp only [List.set]
      refine os_goto (tgt := 69) hX dX10_checkTest_98 (by decide) ?_
      exact hk69 _ _ _ _ h
set_option maxHeartbeats 4000000 in
theorem qb_X10_checkTest {κ : oKv} {n : Nat} {call : oCl} {kc : Nat → List Value → oSt → Option Value × oSt → Prop} {v : Option Value × oSt} {X : Nat → zLv → List Value → oSt → Prop} (hX : oSem RX10 cX10_checkTest 3 0 none κ kc v X) (hc : ∀ j av s w, call j av s = some w → kc j av s w) {x0 : Option Nat} {x1 : Option Nat} {σ : oSt} (h : ob_X10_checkTest n call κ x0 x1 σ = some v) : X 0 [some (va_rf x0), some (va_rf x1), none] [] σ := by
  rw [ob_X10_checkTest] at h
  refine os_aload_n (r := x1) hX dX10_checkTest_0 rfl rfl ?_
  obtain ⟨v1, e2, h⟩ := obn_e h
  refine ow_get (r := x1) hX dX10_checkTest_1 oF_RX10_106 (ovi_e e2) ?_
  by_cases c3 : v1 = 217
  · rw [if_pos c3] at h
    refine os_lookup (tgt := 56) (off := 52) hX dX10_checkTest_4 (by decide) (by rw [c3]; rfl) (by decide) ?_
    refine os_aload_n (r := x0) hX dX10_checkTest_56 rfl rfl ?_
    refine os_aload_n (r := x1) hX dX10_checkTest_57 rfl rfl ?_
    obtain ⟨v4, e5, h⟩ := obn_e h
    refine ow_get (r := x1) hX dX10_checkTest_58 oF_RX10_114 (ovr_e e5) ?_
    obtain ⟨a6, e7, h⟩ := obn_e h
    obtain ⟨s8, e9, h⟩ := ocv_e h
    refine oc_RX10_134 (rb := x0) (a1 := va_rf v4) hX dX10_checkTest_61 (Nat.le_of_ble_eq_true rfl) e7 (hc _ _ _ _ e9) ?_
    refine os_goto (tgt := 147) hX dX10_checkTest_64 (by decide) ?_
    exact os_vret hX dX10_checkTest_147 rfl (Option.some.inj h)
  rw [if_neg c3] at h
  by_cases c11 : v1 = 302
  · rw [if_pos c11] at h
    refine os_lookup (tgt := 67) (off := 63) hX dX10_checkTest_4 (by decide) (by rw [c11]; rfl) (by decide) ?_
    refine os_iconst (v := 0) hX dX10_checkTest_67 (by decide) ?_
    refine os_istore_n hX dX10_checkTest_68 rfl (by decide) (ozlo (i := 1) (r := x1) rfl) ?_
    dsimp only [List.set]
    exact ql_X10_checkTest_69 hX hc n _ _ _ _ h
  rw [if_neg c11] at h
  by_cases c12 : v1 = 303
  · rw [if_pos c12] at h
    refine os_lookup (tgt := 67) (off := 63) hX dX10_checkTest_4 (by decide) (by rw [c12]; rfl) (by decide) ?_
    refine os_iconst (v := 0) hX dX10_checkTest_67 (by decide) ?_
    refine os_istore_n hX dX10_checkTest_68 rfl (by decide) (ozlo (i := 1) (r := x1) rfl) ?_
    dsimp only [List.set]
    exact ql_X10_checkTest_69 hX hc n _ _ _ _ h
  rw [if_neg c12] at h
  by_cases c13 : v1 = 402
  · rw [if_pos c13] at h
    refine os_lookup (tgt := 104) (off := 100) hX dX10_checkTest_4 (by decide) (by rw [c13]; rfl) (by decide) ?_
    refine os_aload_n (r := x0) hX dX10_checkTest_104 rfl rfl ?_
    refine os_aload_n (r := x1) hX dX10_checkTest_105 rfl rfl ?_
    obtain ⟨v14, e15, h⟩ := obn_e h
    refine ow_get (r := x1) hX dX10_checkTest_106 oF_RX10_147 (ovr_e e15) ?_
    obtain ⟨v16, e17, h⟩ := obn_e h
    refine ow_get (r := v14) hX dX10_checkTest_109 oF_RX10_68 (ovi_e e17) ?_
    refine os_sipush (v := 202) hX dX10_checkTest_112 (by decide) ?_
    obtain ⟨r20, s18, e19, h⟩ := oin_e h
    refine oc_RX10_65 (a1 := .int 202) hX dX10_checkTest_115 (by simp only [List.map_cons, List.map_nil, List.sum_cons, List.sum_nil, ocat]; exact Nat.le_of_ble_eq_true rfl) (hc _ _ _ _ e19) ?_
    refine os_aload_n (r := x1) hX dX10_checkTest_118 rfl rfl ?_
    obtain ⟨v21, e22, h⟩ := obn_e h
    refine ow_get (r := x1) hX dX10_checkTest_119 oF_RX10_137 (ovi_e e22) ?_
    obtain ⟨a23, e24, h⟩ := obn_e h
    obtain ⟨s25, e26, h⟩ := ocv_e h
    refine oc_RX10_140 (rb := x0) (a1 := .int v16) (a2 := .int r20) (a3 := .int v21) hX dX10_checkTest_122 (Nat.le_of_ble_eq_true rfl) e24 (hc _ _ _ _ e26) ?_
    refine os_goto (tgt := 147) hX dX10_checkTest_125 (by decide) ?_
    exact os_vret hX dX10_checkTest_147 rfl (Option.some.inj h)
  rw [if_neg c13] at h
  by_cases c28 : v1 = 403
  · rw [if_pos c28] at h
    refine os_lookup (tgt := 128) (off := 124) hX dX10_checkTest_4 (by decide) (by rw [c28]; rfl) (by decide) ?_
    refine os_aload_n (r := x0) hX dX10_checkTest_128 rfl rfl ?_
    refine os_aload_n (r := x1) hX dX10_checkTest_129 rfl rfl ?_
    obtain ⟨v29, e30, h⟩ := obn_e h
    refine ow_get (r := x1) hX dX10_checkTest_130 oF_RX10_153 (ovr_e e30) ?_
    obtain ⟨a31, e32, h⟩ := obn_e h
    obtain ⟨s33, e34, h⟩ := ocv_e h
    refine oc_RX10_156 (rb := x0) (a1 := va_rf v29) hX dX10_checkTest_133 (Nat.le_of_ble_eq_true rfl) e32 (hc _ _ _ _ e34) ?_
    refine os_aload_n (r := x0) hX dX10_checkTest_136 rfl rfl ?_
    refine os_aload_n (r := x1) hX dX10_checkTest_137 rfl rfl ?_
    obtain ⟨v36, e37, h⟩ := obn_e h
    refine ow_get (r := x1) hX dX10_checkTest_138 oF_RX10_159 (ovr_e e37) ?_
    obtain ⟨a38, e39, h⟩ := obn_e h
    obtain ⟨s40, e41, h⟩ := ocv_e h
    refine oc_RX10_156 (rb := x0) (a1 := va_rf v36) hX dX10_checkTest_141 (Nat.le_of_ble_eq_true rfl) e39 (hc _ _ _ _ e41) ?_
    refine os_goto (tgt := 147) hX dX10_checkTest_144 (by decide) ?_
    exact os_vret hX dX10_checkTest_147 rfl (Option.some.inj h)
  rw [if_neg c28] at h
  refine os_lookup (tgt := 147) (off := 143) hX dX10_checkTest_4 (by decide) (olk_X10_checkTest_4 c3 c11 c12 c13 c28) (by decide) ?_
  exact os_vret hX dX10_checkTest_147 rfl (Option.some.inj h)
theorem olk_X10_inferPlain_4 {x : Int32} (h0 : ¬ x = 91) (h1 : ¬ x = 203) (h2 : ¬ x = 205) (h3 : ¬ x = 215) (h4 : ¬ x = 216) (h5 : ¬ x = 223) (h6 : ¬ x = 400) : Op.lookupswitch.offset (#[(91, 133), (203, 97), (205, 68), (215, 82), (216, 75), (223, 68), (400, 169)] : Array (Int × Int)).toList 197 x.toInt = 197 := by
  have a0 := z_ne h0 (k := 91) (by decide)
  have a1 := z_ne h1 (k := 203) (by decide)
  have a2 := z_ne h2 (k := 205) (by decide)
  have a3 := z_ne h3 (k := 215) (by decide)
  have a4 := z_ne h4 (k := 216) (by decide)
  have a5 := z_ne h5 (k := 223) (by decide)
  have a6 := z_ne h6 (k := 400) (by decide)
  simp [Op.lookupswitch.offset, a0, Ne.symm a0, a1, Ne.symm a1, a2, Ne.symm a2, a3, Ne.symm a3, a4, Ne.symm a4, a5, Ne.symm a5, a6, Ne.symm a6]
def ob_X10_inferPlain (n : Nat) (call : oCl) (κ : oKv) (x0 : Option Nat) (x1 : Option Nat) (σ : oSt) : oRs :=
  obn (ovi (ofd σ x1 7 0)) fun v1 =>
  if v1 = 91 then
    obn (ovr (ofd σ x1 7 9)) fun v4 =>
    obn (ovi (ofd σ v4 6 2)) fun v6 =>
    oin (call 148 [.int 200] σ) fun r10 s8 =>
    obn (ovi (ofd s8 x1 7 4)) fun v11 =>
    obn (oob s8 x0 12) fun a13 =>
    ocv (call 152 [va_rf x0, .int v6, .int r10, .int v11] s8) fun s15 =>
    obn (ovr (ofd s15 x1 7 15)) fun v18 =>
    obn (oob s15 x0 12) fun a20 =>
    ocv (call 153 [va_rf x0, va_rf v18] s15) fun s22 =>
    oin (call 148 [.int 210] s22) fun r27 s25 =>
    some (some (.int r27), s25)
  else
  if v1 = 203 then
    obn (ovr (ofd σ x1 7 15)) fun v29 =>
    obn (oob σ x0 12) fun a31 =>
    ocv (call 153 [va_rf x0, va_rf v29] σ) fun s33 =>
    obn (ovr (ofd s33 x1 7 9)) fun v36 =>
    obn (ovi (ofd s33 v36 6 2)) fun v38 =>
    oin (call 148 [.int 213] s33) fun r42 s40 =>
    obn (ovi (ofd s40 x1 7 4)) fun v43 =>
    obn (oob s40 x0 12) fun a45 =>
    ocv (call 152 [va_rf x0, .int v38, .int r42, .int v43] s40) fun s47 =>
    oin (call 148 [.int 213] s47) fun r52 s50 =>
    some (some (.int r52), s50)
  else
  if v1 = 205 then
    oin (call 148 [.int 202] σ) fun r56 s54 =>
    some (some (.int r56), s54)
  else
  if v1 = 215 then
    obn (ovr (ofd σ x1 7 15)) fun v58 =>
    obn (oob σ x0 12) fun a60 =>
    ocv (call 153 [va_rf x0, va_rf v58] σ) fun s62 =>
    oin (call 148 [.int 200] s62) fun r67 s65 =>
    some (some (.int r67), s65)
  else
  if v1 = 216 then
    oin (call 148 [.int 213] σ) fun r71 s69 =>
    some (some (.int r71), s69)
  else
  if v1 = 223 then
    oin (call 148 [.int 202] σ) fun r75 s73 =>
    some (some (.int r75), s73)
  else
  if v1 = 400 then
    obn (ovi (ofd σ x1 7 6)) fun v77 =>
    if v77 = 1 then
      obn (ovr (ofd σ x1 7 9)) fun v88 =>
      obn (ovi (ofd σ v88 6 2)) fun v90 =>
      some (some (.int v90), σ)
    else
      obn (oob σ x0 12) fun a80 =>
      ocv (call 153 [va_rf x0, va_rf x1] σ) fun s82 =>
      oin (call 148 [.int 210] s82) fun r87 s85 =>
      some (some (.int r87), s85)
  else
  obn (ovr (ofd σ x1 7 15)) fun v92 =>
  obn (oob σ x0 12) fun a94 =>
  ocv (call 153 [va_rf x0, va_rf v92] σ) fun s96 =>
  obn (ovr (ofd s96 x1 7 16)) fun v99 =>
  obn (oob s96 x0 12) fun a101 =>
  ocv (call 153 [va_rf x0, va_rf v99] s96) fun s103 =>
  oin (call 148 [.int 210] s103) fun r108 s106 =>
  some (some (.int r108), s106)
set_option maxHeartbeats 4000000 in
theorem qb_X10_inferPlain {κ : oKv} {n : Nat} {call : oCl} {kc : Nat → List Value → oSt → Option Value × oSt → Prop} {v : Option Value × oSt} {X : Nat → zLv → List Value → oSt → Prop} (hX : oSem RX10 cX10_inferPlain 2 0 (some .int) κ kc v X) (hc : ∀ j av s w, call j av s = some w → kc j av s w) {x0 : Option Nat} {x1 : Option Nat} {σ : oSt} (h : ob_X10_inferPlain n call κ x0 x1 σ = some v) : X 0 [some (va_rf x0), some (va_rf x1)] [] σ := by
  rw [ob_X10_inferPlain] at h
  refine os_aload_n (r := x1) hX dX10_inferPlain_0 rfl rfl ?_
  obtain ⟨v1, e2, h⟩ := obn_e h
  refine ow_get (r := x1) hX dX10_inferPlain_1 oF_RX10_106 (ovi_e e2) ?_
  by_cases c3 : v1 = 91
  · rw [if_pos c3] at h
    refine os_lookup (tgt := 137) (off := 133) hX dX10_inferPlain_4 (by decide) (by rw [c3]; rfl) (by decide) ?_
    refine os_aload_n (r := x0) hX dX10_inferPlain_137 rfl rfl ?_
    refine os_aload_n (r := x1) hX dX10_inferPlain_138 rfl rfl ?_
    obtain ⟨v4, e5, h⟩ := obn_e h
    refine ow_get (r := x1) hX dX10_inferPlain_139 oF_RX10_147 (ovr_e e5) ?_
    obtain ⟨v6, e7, h⟩ := obn_e h
    refine ow_get (r := v4) hX dX10_inferPlain_142 oF_RX10_68 (ovi_e e7) ?_
    refine os_sipush (v := 200) hX dX10_inferPlain_145 (by decide) ?_
    obtain ⟨r10, s8, e9, h⟩ := oin_e h
    refine oc_RX10_65 (a1 := .int 200) hX dX10_inferPlain_148 (by simp only [List.map_cons, List.map_nil, List.sum_cons, List.sum_nil, ocat]; exact Nat.le_of_ble_eq_true rfl) (hc _ _ _ _ e9) ?_
    refine os_aload_n (r := x1) hX dX10_inferPlain_151 rfl rfl ?_
    obtain ⟨v11, e12, h⟩ := obn_e h
    refine ow_get (r := x1) hX dX10_inferPlain_152 oF_RX10_150 (ovi_e e12) ?_
    obtain ⟨a13, e14, h⟩ := obn_e h
    obtain ⟨s15, e16, h⟩ := ocv_e h
    refine oc_RX10_140 (rb := x0) (a1 := .int v6) (a2 := .int r10) (a3 := .int v11) hX dX10_inferPlain_155 (Nat.le_of_ble_eq_true rfl) e14 (hc _ _ _ _ e16) ?_
    refine os_aload_n (r := x0) hX dX10_inferPlain_158 rfl rfl ?_
    refine os_aload_n (r := x1) hX dX10_inferPlain_159 rfl rfl ?_
    obtain ⟨v18, e19, h⟩ := obn_e h
    refine ow_get (r := x1) hX dX10_inferPlain_160 oF_RX10_153 (ovr_e e19) ?_
    obtain ⟨a20, e21, h⟩ := obn_e h
    obtain ⟨s22, e23, h⟩ := ocv_e h
    refine oc_RX10_156 (rb := x0) (a1 := va_rf v18) hX dX10_inferPlain_163 (Nat.le_of_ble_eq_true rfl) e21 (hc _ _ _ _ e23) ?_
    refine os_sipush (v := 210) hX dX10_inferPlain_166 (by decide) ?_
    obtain ⟨r27, s25, e26, h⟩ := oin_e h
    refine oc_RX10_65 (a1 := .int 210) hX dX10_inferPlain_169 (Nat.le_of_ble_eq_true rfl) (hc _ _ _ _ e26) ?_
    exact os_iret hX dX10_inferPlain_172 rfl (Option.some.inj h)
  rw [if_neg c3] at h
  by_cases c28 : v1 = 203
  · rw [if_pos c28] at h
    refine os_lookup (tgt := 101) (off := 97) hX dX10_inferPlain_4 (by decide) (by rw [c28]; rfl) (by decide) ?_
    refine os_aload_n (r := x0) hX dX10_inferPlain_101 rfl rfl ?_
    refine os_aload_n (r := x1) hX dX10_inferPlain_102 rfl rfl ?_
    obtain ⟨v29, e30, h⟩ := obn_e h
    refine ow_get (r := x1) hX dX10_inferPlain_103 oF_RX10_153 (ovr_e e30) ?_
    obtain ⟨a31, e32, h⟩ := obn_e h
    obtain ⟨s33, e34, h⟩ := ocv_e h
    refine oc_RX10_156 (rb := x0) (a1 := va_rf v29) hX dX10_inferPlain_106 (Nat.le_of_ble_eq_true rfl) e32 (hc _ _ _ _ e34) ?_
    refine os_aload_n (r := x0) hX dX10_inferPlain_109 rfl rfl ?_
    refine os_aload_n (r := x1) hX dX10_inferPlain_110 rfl rfl ?_
    obtain ⟨v36, e37, h⟩ := obn_e h
    refine ow_get (r := x1) hX dX10_inferPlain_111 oF_RX10_147 (ovr_e e37) ?_
    obtain ⟨v38, e39, h⟩ := obn_e h
    refine ow_get (r := v36) hX dX10_inferPlain_114 oF_RX10_68 (ovi_e e39) ?_
    refine os_sipush (v := 213) hX dX10_inferPlain_117 (by decide) ?_
    obtain ⟨r42, s40, e41, h⟩ := oin_e h
    refine oc_RX10_65 (a1 := .int 213) hX dX10_inferPlain_120 (by simp only [List.map_cons, List.map_nil, List.sum_cons, List.sum_nil, ocat]; exact Nat.le_of_ble_eq_true rfl) (hc _ _ _ _ e41) ?_
    refine os_aload_n (r := x1) hX dX10_inferPlain_123 rfl rfl ?_
    obtain ⟨v43, e44, h⟩ := obn_e h
    refine ow_get (r := x1) hX dX10_inferPlain_124 oF_RX10_150 (ovi_e e44) ?_
    obtain ⟨a45, e46, h⟩ := obn_e h
    obtain ⟨s47, e48, h⟩ := ocv_e h
    refine oc_RX10_140 (rb := x0) (a1 := .int v38) (a2 := .int r42) (a3 := .int v43) hX dX10_inferPlain_127 (Nat.le_of_ble_eq_true rfl) e46 (hc _ _ _ _ e48) ?_
    refine os_sipush (v := 213) hX dX10_inferPlain_130 (by decide) ?_
    obtain ⟨r52, s50, e51, h⟩ := oin_e h
    refine oc_RX10_65 (a1 := .int 213) hX dX10_inferPlain_133 (Nat.le_of_ble_eq_true rfl) (hc _ _ _ _ e51) ?_
    exact os_iret hX dX10_inferPlain_136 rfl (Option.some.inj h)
  rw [if_neg c28] at h
  by_cases c53 : v1 = 205
  · rw [if_pos c53] at h
    refine os_lookup (tgt := 72) (off := 68) hX dX10_inferPlain_4 (by decide) (by rw [c53]; rfl) (by decide) ?_
    refine os_sipush (v := 202) hX dX10_inferPlain_72 (by decide) ?_
    obtain ⟨r56, s54, e55, h⟩ := oin_e h
    refine oc_RX10_65 (a1 := .int 202) hX dX10_inferPlain_75 (Nat.le_of_ble_eq_true rfl) (hc _ _ _ _ e55) ?_
    exact os_iret hX dX10_inferPlain_78 rfl (Option.some.inj h)
  rw [if_neg c53] at h
  by_cases c57 : v1 = 215
  · rw [if_pos c57] at h
    refine os_lookup (tgt := 86) (off := 82) hX dX10_inferPlain_4 (by decide) (by rw [c57]; rfl) (by decide) ?_
    refine os_aload_n (r := x0) hX dX10_inferPlain_86 rfl rfl ?_
    refine os_aload_n (r := x1) hX dX10_inferPlain_87 rfl rfl ?_
    obtain ⟨v58, e59, h⟩ := obn_e h
    refine ow_get (r := x1) hX dX10_inferPlain_88 oF_RX10_153 (ovr_e e59) ?_
    obtain ⟨a60, e61, h⟩ := obn_e h
    obtain ⟨s62, e63, h⟩ := ocv_e h
    refine oc_RX10_156 (rb := x0) (a1 := va_rf v58) hX dX10_inferPlain_91 (Nat.le_of_ble_eq_true rfl) e61 (hc _ _ _ _ e63) ?_
    refine os_sipush (v := 200) hX dX10_inferPlain_94 (by decide) ?_
    obtain ⟨r67, s65, e66, h⟩ := oin_e h
    refine oc_RX10_65 (a1 := .int 200) hX dX10_inferPlain_97 (Nat.le_of_ble_eq_true rfl) (hc _ _ _ _ e66) ?_
    exact os_iret hX dX10_inferPlain_100 rfl (Option.some.inj h)
  rw [if_neg c57] at h
  by_cases c68 : v1 = 216
  · rw [if_pos c68] at h
    refine os_lookup (tgt := 79) (off := 75) hX dX10_inferPlain_4 (by decide) (by rw [c68]; rfl) (by decide) ?_
    refine os_sipush (v := 213) hX dX10_inferPlain_79 (by decide) ?_
    obtain ⟨r71, s69, e70, h⟩ := oin_e h
    refine oc_RX10_65 (a1 := .int 213) hX dX10_inferPlain_82 (Nat.le_of_ble_eq_true rfl) (hc _ _ _ _ e70) ?_
    exact os_iret hX dX10_inferPlain_85 rfl (Option.some.inj h)
  rw [if_neg c68] at h
  by_cases c72 : v1 = 223
  · rw [if_pos c72] at h
    refine os_lookup (tgt := 72) (off := 68) hX dX10_inferPlain_4 (by decide) (by rw [c72]; rfl) (by decide) ?_
    refine os_sipush (v := 202) hX dX10_inferPlain_72 (by decide) ?_
    obtain ⟨r75, s73, e74, h⟩ := oin_e h
    refine oc_RX10_65 (a1 := .int 202) hX dX10_inferPlain_75 (Nat.le_of_ble_eq_true rfl) (hc _ _ _ _ e74) ?_
    exact os_iret hX dX10_inferPlain_78 rfl (Option.some.inj h)
  rw [if_neg c72] at h
  by_cases c76 : v1 = 400
  · rw [if_pos c76] at h
    refine os_lookup (tgt := 173) (off := 169) hX dX10_inferPlain_4 (by decide) (by rw [c76]; rfl) (by decide) ?_
    refine os_aload_n (r := x1) hX dX10_inferPlain_173 rfl rfl ?_
    obtain ⟨v77, e78, h⟩ := obn_e h
    refine ow_get (r := x1) hX dX10_inferPlain_174 oF_RX10_168 (ovi_e e78) ?_
    refine os_iconst (v := 1) hX dX10_inferPlain_177 (by decide) ?_
    refine os_icmp_ne (tgt := 189) hX dX10_inferPlain_178 (by decide) (fun c79 => ?_) (fun c79 => ?_)
    · rw [if_neg c79] at h
      refine os_aload_n (r := x0) hX dX10_inferPlain_189 rfl rfl ?_
      refine os_aload_n (r := x1) hX dX10_inferPlain_190 rfl rfl ?_
      obtain ⟨a80, e81, h⟩ := obn_e h
      obtain ⟨s82, e83, h⟩ := ocv_e h
      refine oc_RX10_156 (rb := x0) (a1 := va_rf x1) hX dX10_inferPlain_191 (Nat.le_of_ble_eq_true rfl) e81 (hc _ _ _ _ e83) ?_
      refine os_sipush (v := 210) hX dX10_inferPlain_194 (by decide) ?_
      obtain ⟨r87, s85, e86, h⟩ := oin_e h
      refine oc_RX10_65 (a1 := .int 210) hX dX10_inferPlain_197 (Nat.le_of_ble_eq_true rfl) (hc _ _ _ _ e86) ?_
      exact os_iret hX dX10_inferPlain_200 rfl (Option.some.inj h)
    · rw [if_pos c79] at h
      refine os_aload_n (r := x1) hX dX10_inferPlain_181 rfl rfl ?_
      obtain ⟨v88, e89, h⟩ := obn_e h
      refine ow_get (r := x1) hX dX10_inferPlain_182 oF_RX10_147 (ovr_e e89) ?_
      obtain ⟨v90, e91, h⟩ := obn_e h
      refine ow_get (r := v88) hX dX10_inferPlain_185 oF_RX10_68 (ovi_e e91) ?_
      exact os_iret hX dX10_inferPlain_188 rfl (Option.some.inj h)
  rw [if_neg c76] at h
  refine os_lookup (tgt := 201) (off := 197) hX dX10_inferPlain_4 (by decide) (olk_X10_inferPlain_4 c3 c28 c53 c57 c68 c72 c76) (by decide) ?_
  refine os_aload_n (r := x0) hX dX10_inferPlain_201 rfl rfl ?_
  refine os_aload_n (r := x1) hX dX10_inferPlain_202 rfl rfl ?_
  obtain ⟨v92, e93, h⟩ := obn_e h
  refine ow_get (r := x1) hX dX10_inferPlain_203 oF_RX10_153 (ovr_e e93) ?_
  obtain ⟨a94, e95, h⟩ := obn_e h
  obtain ⟨s96, e97, h⟩ := ocv_e h
  refine oc_RX10_156 (rb := x0) (a1 := va_rf v92) hX dX10_inferPlain_206 (Nat.le_of_ble_eq_true rfl) e95 (hc _ _ _ _ e97) ?_
  refine os_aload_n (r := x0) hX dX10_inferPlain_209 rfl rfl ?_
  refine os_aload_n (r := x1) hX dX10_inferPlain_210 rfl rfl ?_
  obtain ⟨v99, e100, h⟩ := obn_e h
  refine ow_get (r := x1) hX dX10_inferPlain_211 oF_RX10_159 (ovr_e e100) ?_
  obtain ⟨a101, e102, h⟩ := obn_e h
  obtain ⟨s103, e104, h⟩ := ocv_e h
  refine oc_RX10_156 (rb := x0) (a1 := va_rf v99) hX dX10_inferPlain_214 (Nat.le_of_ble_eq_true rfl) e102 (hc _ _ _ _ e104) ?_
  refine os_sipush (v := 210) hX dX10_inferPlain_217 (by decide) ?_
  obtain ⟨r108, s106, e107, h⟩ := oin_e h
  refine oc_RX10_65 (a1 := .int 210) hX dX10_inferPlain_220 (Nat.le_of_ble_eq_true rfl) (hc _ _ _ _ e107) ?_
  exact os_iret hX dX10_inferPlain_223 rfl (Option.some.inj h)
