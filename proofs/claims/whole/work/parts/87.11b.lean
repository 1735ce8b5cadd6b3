/-! the methods of the class as plain functions (167 to 183) -/
def oj_X11_endOfWord_78 (n : Nat) (call : oCl) (κ : oKv) (x1 : Int32) (x4 : Int32) (t0 : Int32) (t1 : Int32) (σ : oSt) : oRs :=
  if t1 < t0 then
    some (some (.int x1), σ)
  else
    some (some (.int x4), σ)
def oj_X11_endOfWord_64 (n : Nat) (call : oCl) (κ : oKv) (x1 : Int32) (x3 : Int32) (x4 : Int32) (σ : oSt) : oRs :=
  if x3 = 0 then
    oj_X11_endOfWord_78 n call κ x1 x4 (x4 - x1) 4 σ
  else
    oj_X11_endOfWord_78 n call κ x1 x4 (x4 - x1) 10 σ
def ol_X11_endOfWord_30 (n : Nat) (call : oCl) (κ : oKv) : Nat → Option Nat → Int32 → Int32 → Int32 → oSt → oRs
  | 0, _, _, _, _, _ => none
  | f + 1, x0, x1, x3, x4, σ =>
    obn (ovr (ofd σ x0 13 0)) fun v1 =>
    obn (oSt' κ σ v1) fun a3 =>
    oin (call 207 [va_rf v1] σ) fun r7 s5 =>
    if r7 ≤ x4 then
      oj_X11_endOfWord_64 n call κ x1 x3 x4 s5
    else
      obn (ovr (ofd s5 x0 13 0)) fun v9 =>
      obn (oSt' κ s5 v9) fun a11 =>
      oin (call 201 [va_rf v9, .int x4] s5) fun r15 s13 =>
      oin (call 165 [.int r15, .int x3] s13) fun r18 s16 =>
      if r18 = 0 then
        oj_X11_endOfWord_64 n call κ x1 x3 x4 s16
      else
        ol_X11_endOfWord_30 n call κ f x0 x1 x3 (x4 + 1) s16
def oj_X11_endOfWord_25 (n : Nat) (call : oCl) (κ : oKv) (x0 : Option Nat) (x1 : Int32) (x3 : Int32) (σ : oSt) : oRs :=
  ol_X11_endOfWord_30 n call κ n x0 x1 x3 (x1 + 1) σ
def ob_X11_endOfWord (n : Nat) (call : oCl) (κ : oKv) (x0 : Option Nat) (x1 : Int32) (σ : oSt) : oRs :=
  obn (ovr (ofd σ x0 13 0)) fun v1 =>
  obn (oSt' κ σ v1) fun a3 =>
  oin (call 201 [va_rf v1, .int x1] σ) fun r7 s5 =>
  oin (call 163 [.int r7] s5) fun r10 s8 =>
  if r10 = 0 then
    oin (call 164 [.int r7] s8) fun r14 s12 =>
    if r14 = 0 then
      obn (oob s12 x0 13) fun a16 =>
      oin (call 166 [va_rf x0, .int x1] s12) fun r20 s18 =>
      if r20 = 0 then
        obn (oSt' κ s18 (some (κ.1 1))) fun a22 =>
        oin (call 219 [va_rf (some (κ.1 1)), .int r7] s18) fun r26 s24 =>
        if r26 < 0 then
          some (some (.int x1), s24)
        else
          some (some (.int (x1 + 1)), s24)
      else
        some (some (.int (x1 + 2)), s18)
    else
      oj_X11_endOfWord_25 n call κ x0 x1 r10 s12
  else
    oj_X11_endOfWord_25 n call κ x0 x1 r10 s8
set_option maxHeartbeats 4000000 in
theorem qj_X11_endOfWord_78 {κ : oKv} {n : Nat} {call : oCl} {kc : Nat → List Value → oSt → Option Value × oSt → Prop} {v : Option Value × oSt} {X : Nat → zLv → List Value → oSt → Prop} (hX : oSem RX11 cX11_endOfWord 5 0 (some .int) κ kc v X) (hc : ∀ j av s w, call j av s = some w → kc j av s w) {x1 : Int32} {x4 : Int32} {t0 : Int32} {t1 : Int32} {σ : oSt} (h : oj_X11_endOfWord_78 n call κ x1 x4 t0 t1 σ = some v) : X 78 [none, some (.int x1), none, none, some (.int x4)] [.int t1, .int t0] σ := by
  rw [oj_X11_endOfWord_78] at h
  refine os_icmp_gt (tgt := 86) hX dX11_endOfWord_78 (by decide) (fun c1 => ?_) (fun c1 => ?_)
  · rw [if_pos c1] at h
    refine os_iload_n hX dX11_endOfWord_86 rfl rfl ?_
    exact os_iret hX dX11_endOfWord_87 rfl (Option.some.inj h)
  · rw [if_neg c1] at h
    refine os_iload hX dX11_endOfWord_81 rfl ?_
    refine os_goto (tgt := 87) hX dX11_endOfWord_83 (by decide) ?_
    exact os_iret hX dX11_endOfWord_87 rfl (Option.some.inj h)
set_option maxHeartbeats 4000000 in
theorem qj_X11_endOfWord_64 {κ : oKv} {n : Nat} {call : oCl} {kc : Nat → List Value → oSt → Option Value × oSt → Prop} {v : Option Value × oSt} {X : Nat → zLv → List Value → oSt → Prop} (hX : oSem RX11 cX11_endOfWord 5 0 (some .int) κ kc v X) (hc : ∀ j av s w, call j av s = some w → kc j av s w) {x1 : Int32} {x3 : Int32} {x4 : Int32} {σ : oSt} (h : oj_X11_endOfWord_64 n call κ x1 x3 x4 σ = some v) : X 64 [none, some (.int x1), none, some (.int x3), some (.int x4)] [] σ := by
  rw [oj_X11_endOfWord_64] at h
  refine os_iload hX dX11_endOfWord_64 rfl ?_
  refine os_iload_n hX dX11_endOfWord_66 rfl rfl ?_
  refine os_isub hX dX11_endOfWord_67 ?_
  refine os_iload_n hX dX11_endOfWord_68 rfl rfl ?_
  refine os_if_eq (tgt := 77) hX dX11_endOfWord_69 (by decide) (fun c1 => ?_) (fun c1 => ?_)
  · rw [if_pos c1] at h
    refine os_iconst (v := 4) hX dX11_endOfWord_77 (by decide) ?_
    refine os_weak hX (lw := [none, some (.int x1), none, none, some (.int x4)]) ⟨rfl, rfl, trivial⟩ ?_
    exact qj_X11_endOfWord_78 hX hc h
  · rw [if_neg c1] at h
    refine os_bipush (v := 10) hX dX11_endOfWord_72 (by decide) ?_
    refine os_goto (tgt := 78) hX dX11_endOfWord_74 (by decide) ?_
    refine os_weak hX (lw := [none, some (.int x1), none, none, some (.int x4)]) ⟨rfl, rfl, trivial⟩ ?_
    exact qj_X11_endOfWord_78 hX hc h
set_option maxHeartbeats 4000000 in
theorem ql_X11_endOfWord_30 {κ : oKv} {n : Nat} {call : oCl} {kc : Nat → List Value → oSt → Option Value × oSt → Prop} {v : Option Value × oSt} {X : Nat → zLv → List Value → oSt → Prop} (hX : oSem RX11 cX11_endOfWord 5 0 (some .int) κ kc v X) (hc : ∀ j av s w, call j av s = some w → kc j av s w) : ∀ (f : Nat) (x0 : Option Nat) (x1 : Int32) (x3 : Int32) (x4 : Int32) (σ : oSt), ol_X11_endOfWord_30 n call κ f x0 x1 x3 x4 σ = some v → X 30 [some (va_rf x0), some (.int x1), none, some (.int x3), some (.int x4)] [] σ := by
  intro f
  induction f with
  | zero => intro x0 x1 x3 x4 σ h; cases h
  | succ f hk30 =>
    intro x0 x1 x3 x4 σ h
    rw [ol_X11_endOfWord_30] at h
    refine os_iload hX dX11_endOfWord_30 rfl ?_
    refine os_aload_n (r := x0) hX dX11_endOfWord_32 rfl rfl ?_
    obtain ⟨v1, e2, h⟩ := obn_e h
    refine ow_get (r := x0) hX dX11_endOfWord_33 oF_RX11_15 (ovr_e e2) ?_
    obtain ⟨a3, e4, h⟩ := obn_e h
    obtain ⟨r7, s5, e6, h⟩ := oin_e h
    refine oc_RX11_19 (rb := v1)  hX dX11_endOfWord_36 (Nat.le_of_ble_eq_true rfl) e4 (hc _ _ _ _ e6) ?_
    refine os_icmp_ge (tgt := 64) hX dX11_endOfWord_39 (by decide) (fun c8 => ?_) (fun c8 => ?_)
    · rw [if_pos c8] at h
      refine os_weak hX (lw := [none, some (.int x1), none, some (.int x3), some (.int x4)]) ⟨rfl, rfl, rfl, trivial⟩ ?_
      exact qj_X11_endOfWord_64 hX hc h
    · rw [if_neg c8] at h
      refine os_aload_n (r := x0) hX dX11_endOfWord_42 rfl rfl ?_
      obtain ⟨v9, e10, h⟩ := obn_e h
      refine ow_get (r := x0) hX dX11_endOfWord_43 oF_RX11_15 (ovr_e e10) ?_
      refine os_iload hX dX11_endOfWord_46 rfl ?_
      obtain ⟨a11, e12, h⟩ := obn_e h
      obtain ⟨r15, s13, e14, h⟩ := oin_e h
      refine oc_RX11_38 (rb := v9) (a1 := .int x4) hX dX11_endOfWord_48 (Nat.le_of_ble_eq_true rfl) e12 (hc _ _ _ _ e14) ?_
      refine os_iload_n hX dX11_endOfWord_51 rfl rfl ?_
      obtain ⟨r18, s16, e17, h⟩ := oin_e h
      refine oc_RX11_67 (a1 := .int r15) (a2 := .int x3) hX dX11_endOfWord_52 (Nat.le_of_ble_eq_true rfl) (hc _ _ _ _ e17) ?_
      refine os_if_eq (tgt := 64) hX dX11_endOfWord_55 (by decide) (fun c19 => ?_) (fun c19 => ?_)
      · rw [if_pos c19] at h
        refine os_weak hX (lw := [none, some (.int x1), none, some (.int x3), some (.int x4)]) ⟨rfl, rfl, rfl, trivial⟩ ?_
        exact qj_X11_endOfWord_64 hX hc h
      · rw [if_neg c19] at h
        refine os_iinc (v := x4 + 1) hX dX11_endOfWord_58 rfl rfl (by decide) rfl ?_
        dsimp only [List.set]
        refine os_goto (tgt := 30) hX dX11_endOfWord_61 (by decide) ?_
        exact hk30 _ _ _ _ _ h
set_option maxHeartbeats 4000000 in
theorem qj_X11_endOfWord_25 {κ : oKv} {n : Nat} {call : oCl} {kc : Nat → List Value → oSt → Option Value × oSt → Prop} {v : Option Value × oSt} {X : Nat → zLv → List Value → oSt → Prop} (hX : oSem RX11 cX11_endOfWord 5 0 (some .int) κ kc v X) (hc : ∀ j av s w, call j av s = some w → kc j av s w) {x0 : Option Nat} {x1 : Int32} {x3 : Int32} {σ : oSt} (h : oj_X11_endOfWord_25 n call κ x0 x1 x3 σ = some v) : X 25 [some (va_rf x0), some (.int x1), none, some (.int x3), none] [] σ := by
  rw [oj_X11_endOfWord_25] at h
  refine os_iload_n hX dX11_endOfWord_25 rfl rfl ?_
  refine os_iconst (v := 1) hX dX11_endOfWord_26 (by decide) ?_
  refine os_iadd hX dX11_endOfWord_27 ?_
  refine os_istore hX dX11_endOfWord_28 (by decide) rfl ?_
  dsimp only [List.set]
  exact ql_X11_endOfWord_30 hX hc n _ _ _ _ _ h
set_option maxHeartbeats 4000000 in
theorem qb_X11_endOfWord {κ : oKv} {n : Nat} {call : oCl} {kc : Nat → List Value → oSt → Option Value × oSt → Prop} {v : Option Value × oSt} {X : Nat → zLv → List Value → oSt → Prop} (hX : oSem RX11 cX11_endOfWord 5 0 (some .int) κ kc v X) (hc : ∀ j av s w, call j av s = some w → kc j av s w) {x0 : Option Nat} {x1 : Int32} {σ : oSt} (h : ob_X11_endOfWord n call κ x0 x1 σ = some v) : X 0 [some (va_rf x0), some (.int x1), none, none, none] [] σ := by
  rw [ob_X11_endOfWord] at h
  refine os_aload_n (r := x0) hX dX11_endOfWord_0 rfl rfl ?_
  obtain ⟨v1, e2, h⟩ := obn_e h
  refine ow_get (r := x0) hX dX11_endOfWord_1 oF_RX11_15 (ovr_e e2) ?_
  refine os_iload_n hX dX11_endOfWord_4 rfl rfl ?_
  obtain ⟨a3, e4, h⟩ := obn_e h
  obtain ⟨r7, s5, e6, h⟩ := oin_e h
  refine oc_RX11_38 (rb := v1) (a1 := .int x1) hX dX11_endOfWord_5 (Nat.le_of_ble_eq_true rfl) e4 (hc _ _ _ _ e6) ?_
  refine os_istore_n hX dX11_endOfWord_8 rfl (by decide) rfl ?_
  dsimp only [List.set]
  refine os_iload_n hX dX11_endOfWord_9 rfl rfl ?_
  obtain ⟨r10, s8, e9, h⟩ := oin_e h
  refine oc_RX11_53 (a1 := .int r7) hX dX11_endOfWord_10 (Nat.le_of_ble_eq_true rfl) (hc _ _ _ _ e9) ?_
  refine os_istore_n hX dX11_endOfWord_13 rfl (by decide) rfl ?_
  dsimp only [List.set]
  refine os_iload_n hX dX11_endOfWord_14 rfl rfl ?_
  refine os_if_ne (tgt := 25) hX dX11_endOfWord_15 (by decide) (fun c11 => ?_) (fun c11 => ?_)
  · rw [if_neg c11] at h
    refine os_weak hX (lw := [some (va_rf x0), some (.int x1), none, some (.int r10), none]) ⟨rfl, rfl, rfl, trivial⟩ ?_
    exact qj_X11_endOfWord_25 hX hc h
  · rw [if_pos c11] at h
    refine os_iload_n hX dX11_endOfWord_18 rfl rfl ?_
    obtain ⟨r14, s12, e13, h⟩ := oin_e h
    refine oc_RX11_61 (a1 := .int r7) hX dX11_endOfWord_19 (Nat.le_of_ble_eq_true rfl) (hc _ _ _ _ e13) ?_
    refine os_if_eq (tgt := 88) hX dX11_endOfWord_22 (by decide) (fun c15 => ?_) (fun c15 => ?_)
    · rw [if_pos c15] at h
      refine os_aload_n (r := x0) hX dX11_endOfWord_88 rfl rfl ?_
      refine os_iload_n hX dX11_endOfWord_89 rfl rfl ?_
      obtain ⟨a16, e17, h⟩ := obn_e h
      obtain ⟨r20, s18, e19, h⟩ := oin_e h
      refine oc_RX11_64 (rb := x0) (a1 := .int x1) hX dX11_endOfWord_90 (Nat.le_of_ble_eq_true rfl) e17 (hc _ _ _ _ e19) ?_
      refine os_if_eq (tgt := 100) hX dX11_endOfWord_93 (by decide) (fun c21 => ?_) (fun c21 => ?_)
      · rw [if_pos c21] at h
        refine os_ldcS (q := (RX11, 71, "()[],;:=#<>+-*/%")) hX dX11_endOfWord_100 (show okt[1]? = some _ from rfl) rfl ?_
        refine os_iload_n hX dX11_endOfWord_102 rfl rfl ?_
        obtain ⟨a22, e23, h⟩ := obn_e h
        obtain ⟨r26, s24, e25, h⟩ := oin_e h
        refine oc_RX11_73 (rb := (some (κ.1 1))) (a1 := .int r7) hX dX11_endOfWord_103 (Nat.le_of_ble_eq_true rfl) e23 (hc _ _ _ _ e25) ?_
        refine os_if_lt (tgt := 115) hX dX11_endOfWord_106 (by decide) (fun c27 => ?_) (fun c27 => ?_)
        · rw [if_pos c27] at h
          refine os_iload_n hX dX11_endOfWord_115 rfl rfl ?_
          exact os_iret hX dX11_endOfWord_116 rfl (Option.some.inj h)
        · rw [if_neg c27] at h
          refine os_iload_n hX dX11_endOfWord_109 rfl rfl ?_
          refine os_iconst (v := 1) hX dX11_endOfWord_110 (by decide) ?_
          refine os_iadd hX dX11_endOfWord_111 ?_
          refine os_goto (tgt := 116) hX dX11_endOfWord_112 (by decide) ?_
          exact os_iret hX dX11_endOfWord_116 rfl (Option.some.inj h)
      · rw [if_neg c21] at h
        refine os_iload_n hX dX11_endOfWord_96 rfl rfl ?_
        refine os_iconst (v := 2) hX dX11_endOfWord_97 (by decide) ?_
        refine os_iadd hX dX11_endOfWord_98 ?_
        exact os_iret hX dX11_endOfWord_99 rfl (Option.some.inj h)
    · rw [if_neg c15] at h
      refine os_weak hX (lw := [some (va_rf x0), some (.int x1), none, some (.int r10), none]) ⟨rfl, rfl, rfl, trivial⟩ ?_
      exact qj_X11_endOfWord_25 hX hc h
def ol_X11_sameLetters_3 (n : Nat) (call : oCl) (κ : oKv) : Nat → Option Nat → Int32 → Int32 → Int32 → Int32 → oSt → oRs
  | 0, _, _, _, _, _, _ => none
  | f + 1, x0, x1, x2, x3, x4, σ =>
    if x3 ≤ x4 then
      some (some (.int 1), σ)
    else
      obn (oSt' κ σ (some (κ.1 2))) fun a2 =>
      oin (call 201 [va_rf (some (κ.1 2)), .int (x1 + x4)] σ) fun r6 s4 =>
      obn (ovr (ofd s4 x0 13 0)) fun v7 =>
      obn (oSt' κ s4 v7) fun a9 =>
      oin (call 201 [va_rf v7, .int (x2 + x4)] s4) fun r13 s11 =>
      if r6 = r13 then
        ol_X11_sameLetters_3 n call κ f x0 x1 x2 x3 (x4 + 1) s11
      else
        some (some (.int 0), s11)
def ob_X11_sameLetters (n : Nat) (call : oCl) (κ : oKv) (x0 : Option Nat) (x1 : Int32) (x2 : Int32) (x3 : Int32) (σ : oSt) : oRs :=
  ol_X11_sameLetters_3 n call κ n x0 x1 x2 x3 0 σ
set_option maxHeartbeats 4000000 in
theorem ql_X11_sameLetters_3 {κ : oKv} {n : Nat} {call : oCl} {kc : Nat → List Value → oSt → Option Value × oSt → Prop} {v : Option Value × oSt} {X : Nat → zLv → List Value → oSt → Prop} (hX : oSem RX11 cX11_sameLetters 5 0 (some .boolean) κ kc v X) (hc : ∀ j av s w, call j av s = some w → kc j av s w) : ∀ (f : Nat) (x0 : Option Nat) (x1 : Int32) (x2 : Int32) (x3 : Int32) (x4 : Int32) (σ : oSt), ol_X11_sameLetters_3 n call κ f x0 x1 x2 x3 x4 σ = some v → X 3 [some (va_rf x0), some (.int x1), some (.int x2), some (.int x3), some (.int x4)] [] σ := by
  intro f
  induction f with
  | zero => intro x0 x1 x2 x3 x4 σ h; cases h
  | succ f hk3 =>
    intro x0 x1 x2 x3 x4 σ h
    rw [ol_X11_sameLetters_3] at h
    refine os_iload hX dX11_sameLetters_3 rfl ?_
    refine os_iload_n hX dX11_sameLetters_5 rfl rfl ?_
    refine os_icmp_ge (tgt := 40) hX dX11_sameLetters_6 (by decide) (fun c1 => ?_) (fun c1 => ?_)
    · rw [if_pos c1] at h
      refine os_iconst (v := 1) hX dX11_sameLetters_40 (by decide) ?_
      exact os_nret (ty := .boolean) hX dX11_sameLetters_41 rfl rfl (by decide) (Option.some.inj h)
    · rw [if_neg c1] at h
      refine os_ldcS (q := (RX11, 76, "array assert bool cons else false fun if in input int len let list match new nil not qual rec set size then true v with ")) hX dX11_sameLetters_9 (show okt[2]? = some _ from rfl) rfl ?_
      refine os_iload_n hX dX11_sameLetters_11 rfl rfl ?_
      refine os_iload hX dX11_sameLetters_12 rfl ?_
      refine os_iadd hX dX11_sameLetters_14 ?_
      obtain ⟨a2, e3, h⟩ := obn_e h
      obtain ⟨r6, s4, e5, h⟩ := oin_e h
      refine oc_RX11_38 (rb := (some (κ.1 2))) (a1 := .int (x1 + x4)) hX dX11_sameLetters_15 (Nat.le_of_ble_eq_true rfl) e3 (hc _ _ _ _ e5) ?_
      refine os_aload_n (r := x0) hX dX11_sameLetters_18 rfl rfl ?_
      obtain ⟨v7, e8, h⟩ := obn_e h
      refine ow_get (r := x0) hX dX11_sameLetters_19 oF_RX11_15 (ovr_e e8) ?_
      refine os_iload_n hX dX11_sameLetters_22 rfl rfl ?_
      refine os_iload hX dX11_sameLetters_23 rfl ?_
      refine os_iadd hX dX11_sameLetters_25 ?_
      obtain ⟨a9, e10, h⟩ := obn_e h
      obtain ⟨r13, s11, e12, h⟩ := oin_e h
      refine oc_RX11_38 (rb := v7) (a1 := .int (x2 + x4)) hX dX11_sameLetters_26 (Nat.le_of_ble_eq_true rfl) e10 (hc _ _ _ _ e12) ?_
      refine os_icmp_eq (tgt := 34) hX dX11_sameLetters_29 (by decide) (fun c14 => ?_) (fun c14 => ?_)
      · rw [if_pos c14] at h
        refine os_iinc (v := x4 + 1) hX dX11_sameLetters_34 rfl rfl (by decide) rfl ?_
        dsimp only [List.set]
        refine os_goto (tgt := 3) hX dX11_sameLetters_37 (by decide) ?_
        exact hk3 _ _ _ _ _ _ h
      · rw [if_neg c14] at h
        refine os_iconst (v := 0) hX dX11_sameLetters_32 (by decide) ?_
        exact os_nret (ty := .boolean) hX dX11_sameLetters_33 rfl rfl (by decide) (Option.some.inj h)
set_option maxHeartbeats 4000000 in
theorem qb_X11_sameLetters {κ : oKv} {n : Nat} {call : oCl} {kc : Nat → List Value → oSt → Option Value × oSt → Prop} {v : Option Value × oSt} {X : Nat → zLv → List Value → oSt → Prop} (hX : oSem RX11 cX11_sameLetters 5 0 (some .boolean) κ kc v X) (hc : ∀ j av s w, call j av s = some w → kc j av s w) {x0 : Option Nat} {x1 : Int32} {x2 : Int32} {x3 : Int32} {σ : oSt} (h : ob_X11_sameLetters n call κ x0 x1 x2 x3 σ = some v) : X 0 [some (va_rf x0), some (.int x1), some (.int x2), some (.int x3), none] [] σ := by
  rw [ob_X11_sameLetters] at h
  refine os_iconst (v := 0) hX dX11_sameLetters_0 (by decide) ?_
  refine os_istore hX dX11_sameLetters_1 (by decide) rfl ?_
  dsimp only [List.set]
  exact ql_X11_sameLetters_3 hX hc n _ _ _ _ _ _ h
def oj_X11_keyword_67 (n : Nat) (call : oCl) (κ : oKv) (k10 : Option Nat → Int32 → Int32 → Int32 → Int32 → Int32 → oSt → oRs) (x0 : Option Nat) (x1 : Int32) (x2 : Int32) (x3 : Int32) (x4 : Int32) (x5 : Int32) (σ : oSt) : oRs :=
  k10 x0 x1 x2 x3 x4 (x5 + 1) σ
def oj_X11_keyword_58 (n : Nat) (call : oCl) (κ : oKv) (k10 : Option Nat → Int32 → Int32 → Int32 → Int32 → Int32 → oSt → oRs) (x0 : Option Nat) (x1 : Int32) (x2 : Int32) (x3 : Int32) (x5 : Int32) (σ : oSt) : oRs :=
  oj_X11_keyword_67 n call κ k10 x0 x1 x2 (x3 + 1) (x5 + 1) x5 σ
def ol_X11_keyword_10 (n : Nat) (call : oCl) (κ : oKv) : Nat → Option Nat → Int32 → Int32 → Int32 → Int32 → Int32 → oSt → oRs
  | 0, _, _, _, _, _, _, _ => none
  | f + 1, x0, x1, x2, x3, x4, x5, σ =>
    obn (oSt' κ σ (some (κ.1 2))) fun a1 =>
    oin (call 207 [va_rf (some (κ.1 2))] σ) fun r5 s3 =>
    if r5 ≤ x5 then
      some (some (.int 1), s3)
    else
      obn (oSt' κ s3 (some (κ.1 2))) fun a7 =>
      oin (call 201 [va_rf (some (κ.1 2)), .int x5] s3) fun r11 s9 =>
      if r11 = 32 then
        if (x5 - x4) = (x2 - x1) then
          obn (oob s9 x0 13) fun a14 =>
          oin (call 168 [va_rf x0, .int x4, .int x1, .int (x2 - x1)] s9) fun r18 s16 =>
          if r18 = 0 then
            oj_X11_keyword_58 n call κ (ol_X11_keyword_10 n call κ f) x0 x1 x2 x3 x5 s16
          else
            some (some (.int x3), s16)
        else
          oj_X11_keyword_58 n call κ (ol_X11_keyword_10 n call κ f) x0 x1 x2 x3 x5 s9
      else
        oj_X11_keyword_67 n call κ (ol_X11_keyword_10 n call κ f) x0 x1 x2 x3 x4 x5 s9
def ob_X11_keyword (n : Nat) (call : oCl) (κ : oKv) (x0 : Option Nat) (x1 : Int32) (x2 : Int32) (σ : oSt) : oRs :=
  ol_X11_keyword_10 n call κ n x0 x1 x2 200 0 0 σ
set_option maxHeartbeats 4000000 in
theorem qj_X11_keyword_67 {κ : oKv} {n : Nat} {call : oCl} {kc : Nat → List Value → oSt → Option Value × oSt → Prop} {v : Option Value × oSt} {X : Nat → zLv → List Value → oSt → Prop} (hX : oSem RX11 cX11_keyword 6 0 (some .int) κ kc v X) (hc : ∀ j av s w, call j av s = some w → kc j av s w) {k10 : Option Nat → Int32 → Int32 → Int32 → Int32 → Int32 → oSt → oRs} (hk10 : ∀ (x0 : Option Nat) (x1 : Int32) (x2 : Int32) (x3 : Int32) (x4 : Int32) (x5 : Int32) (s : oSt), k10 x0 x1 x2 x3 x4 x5 s = some v → X 10 [some (va_rf x0), some (.int x1), some (.int x2), some (.int x3), some (.int x4), some (.int x5)] [] s) {x0 : Option Nat} {x1 : Int32} {x2 : Int32} {x3 : Int32} {x4 : Int32} {x5 : Int32} {σ : oSt} (h : oj_X11_keyword_67 n call κ k10 x0 x1 x2 x3 x4 x5 σ = some v) : X 67 [some (va_rf x0), some (.int x1), some (.int x2), some (.int x3), some (.int x4), some (.int x5)] [] σ := by
  rw [oj_X11_keyword_67] at h
  refine os_iinc (v := x5 + 1) hX dX11_keyword_67 rfl rfl (by decide) rfl ?_
  dsimp only [List.set]
  refine os_goto (tgt := 10) hX dX11_keyword_70 (by decide) ?_
  exact hk10 _ _ _ _ _ _ _ h
set_option maxHeartbeats 4000000 in
theorem qj_X11_keyword_58 {κ : oKv} {n : Nat} {call : oCl} {kc : Nat → List Value → oSt → Option Value × oSt → Prop} {v : Option Value × oSt} {X : Nat → zLv → List Value → oSt → Prop} (hX : oSem RX11 cX11_keyword 6 0 (some .int) κ kc v X) (hc : ∀ j av s w, call j av s = some w → kc j av s w) {k10 : Option Nat → Int32 → Int32 → Int32 → Int32 → Int32 → oSt → oRs} (hk10 : ∀ (x0 : Option Nat) (x1 : Int32) (x2 : Int32) (x3 : Int32) (x4 : Int32) (x5 : Int32) (s : oSt), k10 x0 x1 x2 x3 x4 x5 s = some v → X 10 [some (va_rf x0), some (.int x1), some (.int x2), some (.int x3), some (.int x4), some (.int x5)] [] s) {x0 : Option Nat} {x1 : Int32} {x2 : Int32} {x3 : Int32} {x5 : Int32} {σ : oSt} (h : oj_X11_keyword_58 n call κ k10 x0 x1 x2 x3 x5 σ = some v) : X 58 [some (va_rf x0), some (.int x1), some (.int x2), some (.int x3), none, some (.int x5)] [] σ := by
  rw [oj_X11_keyword_58] at h
  refine os_iinc (v := x3 + 1) hX dX11_keyword_58 rfl rfl (by decide) rfl ?_
  dsimp only [List.set]
  refine os_iload hX dX11_keyword_61 rfl ?_
  refine os_iconst (v := 1) hX dX11_keyword_63 (by decide) ?_
  refine os_iadd hX dX11_keyword_64 ?_
  refine os_istore hX dX11_keyword_65 (by decide) rfl ?_
  dsimp only [List.set]
  exact qj_X11_keyword_67 hX hc hk10 h
set_option maxHeartbeats 4000000 in
theorem ql_X11_keyword_10 {κ : oKv} {n : Nat} {call : oCl} {kc : Nat → List Value → oSt → Option Value × oSt → Prop} {v : Option Value × oSt} {X : Nat → zLv → List Value → oSt → Prop} (hX : oSem RX11 cX11_keyword 6 0 (some .int) κ kc v X) (hc : ∀ j av s w, call j av s = some w → kc j av s w) : ∀ (f : Nat) (x0 : Option Nat) (x1 : Int32) (x2 : Int32) (x3 : Int32) (x4 : Int32) (x5 : Int32) (σ : oSt), ol_X11_keyword_10 n call κ f x0 x1 x2 x3 x4 x5 σ = some v → X 10 [some (va_rf x0), some (.int x1), some (.int x2), some (.int x3), some (.int x4), some (.int x5)] [] σ := by
  intro f
  induction f with
  | zero => intro x0 x1 x2 x3 x4 x5 σ h; cases h
  | succ f hk10 =>
    intro x0 x1 x2 x3 x4 x5 σ h
    rw [ol_X11_keyword_10] at h
    refine os_iload hX dX11_keyword_10 rfl ?_
    refine os_ldcS (q := (RX11, 76, "array assert bool cons else false fun if in input int len let list match new nil not qual rec set size then true v with ")) hX dX11_keyword_12 (show okt[2]? = some _ from rfl) rfl ?_
    obtain ⟨a1, e2, h⟩ := obn_e h
    obtain ⟨r5, s3, e4, h⟩ := oin_e h
    refine oc_RX11_19 (rb := (some (κ.1 2)))  hX dX11_keyword_14 (Nat.le_of_ble_eq_true rfl) e2 (hc _ _ _ _ e4) ?_
    refine os_icmp_ge (tgt := 73) hX dX11_keyword_17 (by decide) (fun c6 => ?_) (fun c6 => ?_)
    · rw [if_pos c6] at h
      refine os_iconst (v := 1) hX dX11_keyword_73 (by decide) ?_
      exact os_iret hX dX11_keyword_74 rfl (Option.some.inj h)
    · rw [if_neg c6] at h
      refine os_ldcS (q := (RX11, 76, "array assert bool cons else false fun if in input int len let list match new nil not qual rec set size then true v with ")) hX dX11_keyword_20 (show okt[2]? = some _ from rfl) rfl ?_
      refine os_iload hX dX11_keyword_22 rfl ?_
      obtain ⟨a7, e8, h⟩ := obn_e h
      obtain ⟨r11, s9, e10, h⟩ := oin_e h
      refine oc_RX11_38 (rb := (some (κ.1 2))) (a1 := .int x5) hX dX11_keyword_24 (Nat.le_of_ble_eq_true rfl) e8 (hc _ _ _ _ e10) ?_
      refine os_bipush (v := 32) hX dX11_keyword_27 (by decide) ?_
      refine os_icmp_ne (tgt := 67) hX dX11_keyword_29 (by decide) (fun c12 => ?_) (fun c12 => ?_)
      · rw [if_neg c12] at h
        exact qj_X11_keyword_67 hX hc hk10 h
      · rw [if_pos c12] at h
        refine os_iload hX dX11_keyword_32 rfl ?_
        refine os_iload hX dX11_keyword_34 rfl ?_
        refine os_isub hX dX11_keyword_36 ?_
        refine os_iload_n hX dX11_keyword_37 rfl rfl ?_
        refine os_iload_n hX dX11_keyword_38 rfl rfl ?_
        refine os_isub hX dX11_keyword_39 ?_
        refine os_icmp_ne (tgt := 58) hX dX11_keyword_40 (by decide) (fun c13 => ?_) (fun c13 => ?_)
        · rw [if_neg c13] at h
          refine os_weak hX (lw := [some (va_rf x0), some (.int x1), some (.int x2), some (.int x3), none, some (.int x5)]) ⟨rfl, rfl, rfl, rfl, rfl, trivial⟩ ?_
          exact qj_X11_keyword_58 hX hc hk10 h
        · rw [if_pos c13] at h
          refine os_aload_n (r := x0) hX dX11_keyword_43 rfl rfl ?_
          refine os_iload hX dX11_keyword_44 rfl ?_
          refine os_iload_n hX dX11_keyword_46 rfl rfl ?_
          refine os_iload_n hX dX11_keyword_47 rfl rfl ?_
          refine os_iload_n hX dX11_keyword_48 rfl rfl ?_
          refine os_isub hX dX11_keyword_49 ?_
          obtain ⟨a14, e15, h⟩ := obn_e h
          obtain ⟨r18, s16, e17, h⟩ := oin_e h
          refine oc_RX11_78 (rb := x0) (a1 := .int x4) (a2 := .int x1) (a3 := .int (x2 - x1)) hX dX11_keyword_50 (Nat.le_of_ble_eq_true rfl) e15 (hc _ _ _ _ e17) ?_
          refine os_if_eq (tgt := 58) hX dX11_keyword_53 (by decide) (fun c19 => ?_) (fun c19 => ?_)
          · rw [if_pos c19] at h
            refine os_weak hX (lw := [some (va_rf x0), some (.int x1), some (.int x2), some (.int x3), none, some (.int x5)]) ⟨rfl, rfl, rfl, rfl, rfl, trivial⟩ ?_
            exact qj_X11_keyword_58 hX hc hk10 h
          · rw [if_neg c19] at h
            refine os_iload_n hX dX11_keyword_56 rfl rfl ?_
            exact os_iret hX dX11_keyword_57 rfl (Option.some.inj h)
set_option maxHeartbeats 4000000 in
theorem qb_X11_keyword {κ : oKv} {n : Nat} {call : oCl} {kc : Nat → List Value → oSt → Option Value × oSt → Prop} {v : Option Value × oSt} {X : Nat → zLv → List Value → oSt → Prop} (hX : oSem RX11 cX11_keyword 6 0 (some .int) κ kc v X) (hc : ∀ j av s w, call j av s = some w → kc j av s w) {x0 : Option Nat} {x1 : Int32} {x2 : Int32} {σ : oSt} (h : ob_X11_keyword n call κ x0 x1 x2 σ = some v) : X 0 [some (va_rf x0), some (.int x1), some (.int x2), none, none, none] [] σ := by
  rw [ob_X11_keyword] at h
  refine os_sipush (v := 200) hX dX11_keyword_0 (by decide) ?_
  refine os_istore_n hX dX11_keyword_3 rfl (by decide) rfl ?_
  dsimp only [List.set]
  refine os_iconst (v := 0) hX dX11_keyword_4 (by decide) ?_
  refine os_istore hX dX11_keyword_5 (by decide) rfl ?_
  dsimp only [List.set]
  refine os_iconst (v := 0) hX dX11_keyword_7 (by decide) ?_
  refine os_istore hX dX11_keyword_8 (by decide) rfl ?_
  dsimp only [List.set]
  exact ql_X11_keyword_10 hX hc n _ _ _ _ _ _ _ h
def oj_X11_add_99 (n : Nat) (call : oCl) (κ : oKv) (x0 : Option Nat) (σ : oSt) : oRs :=
  obn (ovi (ofd σ x0 13 4)) fun v1 =>
  obn (opf σ x0 13 4 (.int (v1 + 1))) fun s3 =>
  some (none, s3)
def oj_X11_add_98 (n : Nat) (call : oCl) (κ : oKv) (x0 : Option Nat) (t0 : Option Nat) (t1 : Int32) (t2 : Int32) (σ : oSt) : oRs :=
  obn (osi σ t0 .int t1 t2) fun s1 =>
  oj_X11_add_99 n call κ x0 s1
def ob_X11_add (n : Nat) (call : oCl) (κ : oKv) (x0 : Option Nat) (x1 : Int32) (x2 : Int32) (σ : oSt) : oRs :=
  obn (ovr (ofd σ x0 13 0)) fun v1 =>
  obn (oSt' κ σ v1) fun a3 =>
  oin (call 201 [va_rf v1, .int x1] σ) fun r7 s5 =>
  obn (ovr (ofd s5 x0 13 2)) fun v8 =>
  obn (ovi (ofd s5 x0 13 4)) fun v10 =>
  obn (osi s5 v8 .int v10 x1) fun s12 =>
  obn (ovr (ofd s12 x0 13 3)) fun v14 =>
  obn (ovi (ofd s12 x0 13 4)) fun v16 =>
  obn (osi s12 v14 .int v16 x2) fun s18 =>
  oin (call 163 [.int r7] s18) fun r22 s20 =>
  if r22 = 0 then
    oin (call 164 [.int r7] s20) fun r26 s24 =>
    if r26 = 0 then
      obn (ovr (ofd s24 x0 13 1)) fun v28 =>
      obn (ovi (ofd s24 x0 13 4)) fun v30 =>
      if (x2 - x1) = 2 then
        obn (oob s24 x0 13) fun a33 =>
        oin (call 166 [va_rf x0, .int x1] s24) fun r37 s35 =>
        oj_X11_add_98 n call κ x0 v28 v30 r37 s35
      else
        oj_X11_add_98 n call κ x0 v28 v30 r7 s24
    else
      obn (ovr (ofd s24 x0 13 1)) fun v38 =>
      obn (ovi (ofd s24 x0 13 4)) fun v40 =>
      obn (osi s24 v38 .int v40 2) fun s42 =>
      oj_X11_add_99 n call κ x0 s42
  else
    obn (ovr (ofd s20 x0 13 1)) fun v44 =>
    obn (ovi (ofd s20 x0 13 4)) fun v46 =>
    obn (oob s20 x0 13) fun a48 =>
    oin (call 169 [va_rf x0, .int x1, .int x2] s20) fun r52 s50 =>
    obn (osi s50 v44 .int v46 r52) fun s53 =>
    oj_X11_add_99 n call κ x0 s53
set_option maxHeartbeats 4000000 in
theorem qj_X11_add_99 {κ : oKv} {n : Nat} {call : oCl} {kc : Nat → List Value → oSt → Option Value × oSt → Prop} {v : Option Value × oSt} {X : Nat → zLv → List Value → oSt → Prop} (hX : oSem RX11 cX11_add 4 0 none κ kc v X) (hc : ∀ j av s w, call j av s = some w → kc j av s w) {x0 : Option Nat} {σ : oSt} (h : oj_X11_add_99 n call κ x0 σ = some v) : X 99 [some (va_rf x0), none, none, none] [] σ := by
  rw [oj_X11_add_99] at h
  refine os_aload_n (r := x0) hX dX11_add_99 rfl rfl ?_
  refine os_dup hX dX11_add_100 (ocat x0) ?_
  obtain ⟨v1, e2, h⟩ := obn_e h
  refine ow_get (r := x0) hX dX11_add_101 oF_RX11_50 (ovi_e e2) ?_
  refine os_iconst (v := 1) hX dX11_add_104 (by decide) ?_
  refine os_iadd hX dX11_add_105 ?_
  obtain ⟨s3, e4, h⟩ := obn_e h
  refine ow_put (r := x0) (x := .int (v1 + 1)) hX dX11_add_106 oF_RX11_50 (by decide) (opn_I oT_13_4) e4 ?_
  exact os_vret hX dX11_add_109 rfl (Option.some.inj h)
set_option maxHeartbeats 4000000 in
theorem qj_X11_add_98 {κ : oKv} {n : Nat} {call : oCl} {kc : Nat → List Value → oSt → Option Value × oSt → Prop} {v : Option Value × oSt} {X : Nat → zLv → List Value → oSt → Prop} (hX : oSem RX11 cX11_add 4 0 none κ kc v X) (hc : ∀ j av s w, call j av s = some w → kc j av s w) {x0 : Option Nat} {t0 : Option Nat} {t1 : Int32} {t2 : Int32} {σ : oSt} (h : oj_X11_add_98 n call κ x0 t0 t1 t2 σ = some v) : X 98 [some (va_rf x0), none, none, none] [.int t2, .int t1, va_rf t0] σ := by
  rw [oj_X11_add_98] at h
  obtain ⟨s1, e2, h⟩ := obn_e h
  refine ow_si (r := t0) (i := t1) (x := t2) hX dX11_add_98 e2 ?_
  exact qj_X11_add_99 hX hc h
set_option maxHeartbeats 4000000 in
theorem qb_X11_add {κ : oKv} {n : Nat} {call : oCl} {kc : Nat → List Value → oSt → Option Value × oSt → Prop} {v : Option Value × oSt} {X : Nat → zLv → List Value → oSt → Prop} (hX : oSem RX11 cX11_add 4 0 none κ kc v X) (hc : ∀ j av s w, call j av s = some w → kc j av s w) {x0 : Option Nat} {x1 : Int32} {x2 : Int32} {σ : oSt} (h : ob_X11_add n call κ x0 x1 x2 σ = some v) : X 0 [some (va_rf x0), some (.int x1), some (.int x2), none] [] σ := by
  rw [ob_X11_add] at h
  refine os_aload_n (r := x0) hX dX11_add_0 rfl rfl ?_
  obtain ⟨v1, e2, h⟩ := obn_e h
  refine ow_get (r := x0) hX dX11_add_1 oF_RX11_15 (ovr_e e2) ?_
  refine os_iload_n hX dX11_add_4 rfl rfl ?_
  obtain ⟨a3, e4, h⟩ := obn_e h
  obtain ⟨r7, s5, e6, h⟩ := oin_e h
  refine oc_RX11_38 (rb := v1) (a1 := .int x1) hX dX11_add_5 (Nat.le_of_ble_eq_true rfl) e4 (hc _ _ _ _ e6) ?_
  refine os_istore_n hX dX11_add_8 rfl (by decide) rfl ?_
  dsimp only [List.set]
  refine os_aload_n (r := x0) hX dX11_add_9 rfl rfl ?_
  obtain ⟨v8, e9, h⟩ := obn_e h
  refine ow_get (r := x0) hX dX11_add_10 oF_RX11_29 (ovr_e e9) ?_
  refine os_aload_n (r := x0) hX dX11_add_13 rfl rfl ?_
  obtain ⟨v10, e11, h⟩ := obn_e h
  refine ow_get (r := x0) hX dX11_add_14 oF_RX11_50 (ovi_e e11) ?_
  refine os_iload_n hX dX11_add_17 rfl rfl ?_
  obtain ⟨s12, e13, h⟩ := obn_e h
  refine ow_si (r := v8) (i := v10) (x := x1) hX dX11_add_18 e13 ?_
  refine os_aload_n (r := x0) hX dX11_add_19 rfl rfl ?_
  obtain ⟨v14, e15, h⟩ := obn_e h
  refine ow_get (r := x0) hX dX11_add_20 oF_RX11_32 (ovr_e e15) ?_
  refine os_aload_n (r := x0) hX dX11_add_23 rfl rfl ?_
  obtain ⟨v16, e17, h⟩ := obn_e h
  refine ow_get (r := x0) hX dX11_add_24 oF_RX11_50 (ovi_e e17) ?_
  refine os_iload_n hX dX11_add_27 rfl rfl ?_
  obtain ⟨s18, e19, h⟩ := obn_e h
  refine ow_si (r := v14) (i := v16) (x := x2) hX dX11_add_28 e19 ?_
  refine os_iload_n hX dX11_add_29 rfl rfl ?_
  obtain ⟨r22, s20, e21, h⟩ := oin_e h
  refine oc_RX11_53 (a1 := .int r7) hX dX11_add_30 (Nat.le_of_ble_eq_true rfl) (hc _ _ _ _ e21) ?_
  refine os_if_eq (tgt := 54) hX dX11_add_33 (by decide) (fun c23 => ?_) (fun c23 => ?_)
  · rw [if_pos c23] at h
    refine os_iload_n hX dX11_add_54 rfl rfl ?_
    obtain ⟨r26, s24, e25, h⟩ := oin_e h
    refine oc_RX11_61 (a1 := .int r7) hX dX11_add_55 (Nat.le_of_ble_eq_true rfl) (hc _ _ _ _ e25) ?_
    refine os_if_eq (tgt := 74) hX dX11_add_58 (by decide) (fun c27 => ?_) (fun c27 => ?_)
    · rw [if_pos c27] at h
      refine os_aload_n (r := x0) hX dX11_add_74 rfl rfl ?_
      obtain ⟨v28, e29, h⟩ := obn_e h
      refine ow_get (r := x0) hX dX11_add_75 oF_RX11_25 (ovr_e e29) ?_
      refine os_aload_n (r := x0) hX dX11_add_78 rfl rfl ?_
      obtain ⟨v30, e31, h⟩ := obn_e h
      refine ow_get (r := x0) hX dX11_add_79 oF_RX11_50 (ovi_e e31) ?_
      refine os_iload_n hX dX11_add_82 rfl rfl ?_
      refine os_iload_n hX dX11_add_83 rfl rfl ?_
      refine os_isub hX dX11_add_84 ?_
      refine os_iconst (v := 2) hX dX11_add_85 (by decide) ?_
      refine os_icmp_ne (tgt := 97) hX dX11_add_86 (by decide) (fun c32 => ?_) (fun c32 => ?_)
      · rw [if_neg c32] at h
        refine os_iload_n hX dX11_add_97 rfl rfl ?_
        refine os_weak hX (lw := [some (va_rf x0), none, none, none]) ⟨rfl, trivial⟩ ?_
        exact qj_X11_add_98 hX hc h
      · rw [if_pos c32] at h
        refine os_aload_n (r := x0) hX dX11_add_89 rfl rfl ?_
        refine os_iload_n hX dX11_add_90 rfl rfl ?_
        obtain ⟨a33, e34, h⟩ := obn_e h
        obtain ⟨r37, s35, e36, h⟩ := oin_e h
        refine oc_RX11_64 (rb := x0) (a1 := .int x1) hX dX11_add_91 (by simp only [List.map_cons, List.map_nil, List.sum_cons, List.sum_nil, ocat]; exact Nat.le_of_ble_eq_true rfl) e34 (hc _ _ _ _ e36) ?_
        refine os_goto (tgt := 98) hX dX11_add_94 (by decide) ?_
        refine os_weak hX (lw := [some (va_rf x0), none, none, none]) ⟨rfl, trivial⟩ ?_
        exact qj_X11_add_98 hX hc h
    · rw [if_neg c27] at h
      refine os_aload_n (r := x0) hX dX11_add_61 rfl rfl ?_
      obtain ⟨v38, e39, h⟩ := obn_e h
      refine ow_get (r := x0) hX dX11_add_62 oF_RX11_25 (ovr_e e39) ?_
      refine os_aload_n (r := x0) hX dX11_add_65 rfl rfl ?_
      obtain ⟨v40, e41, h⟩ := obn_e h
      refine ow_get (r := x0) hX dX11_add_66 oF_RX11_50 (ovi_e e41) ?_
      refine os_iconst (v := 2) hX dX11_add_69 (by decide) ?_
      obtain ⟨s42, e43, h⟩ := obn_e h
      refine ow_si (r := v38) (i := v40) (x := 2) hX dX11_add_70 e43 ?_
      refine os_goto (tgt := 99) hX dX11_add_71 (by decide) ?_
      refine os_weak hX (lw := [some (va_rf x0), none, none, none]) ⟨rfl, trivial⟩ ?_
      exact qj_X11_add_99 hX hc h
  · rw [if_neg c23] at h
    refine os_aload_n (r := x0) hX dX11_add_36 rfl rfl ?_
    obtain ⟨v44, e45, h⟩ := obn_e h
    refine ow_get (r := x0) hX dX11_add_37 oF_RX11_25 (ovr_e e45) ?_
    refine os_aload_n (r := x0) hX dX11_add_40 rfl rfl ?_
    obtain ⟨v46, e47, h⟩ := obn_e h
    refine ow_get (r := x0) hX dX11_add_41 oF_RX11_50 (ovi_e e47) ?_
    refine os_aload_n (r := x0) hX dX11_add_44 rfl rfl ?_
    refine os_iload_n hX dX11_add_45 rfl rfl ?_
    refine os_iload_n hX dX11_add_46 rfl rfl ?_
    obtain ⟨a48, e49, h⟩ := obn_e h
    obtain ⟨r52, s50, e51, h⟩ := oin_e h
    refine oc_RX11_57 (rb := x0) (a1 := .int x1) (a2 := .int x2) hX dX11_add_47 (by simp only [List.map_cons, List.map_nil, List.sum_cons, List.sum_nil, ocat]; exact Nat.le_of_ble_eq_true rfl) e49 (hc _ _ _ _ e51) ?_
    obtain ⟨s53, e54, h⟩ := obn_e h
    refine ow_si (r := v44) (i := v46) (x := r52) hX dX11_add_50 e54 ?_
    refine os_goto (tgt := 99) hX dX11_add_51 (by decide) ?_
    refine os_weak hX (lw := [some (va_rf x0), none, none, none]) ⟨rfl, trivial⟩ ?_
    exact qj_X11_add_99 hX hc h
def oj_X11_split_76 (n : Nat) (call : oCl) (κ : oKv) (x0 : Option Nat) (σ : oSt) : oRs :=
  obn (ovr (ofd σ x0 13 2)) fun v1 =>
  obn (ovi (ofd σ x0 13 4)) fun v3 =>
  obn (ovr (ofd σ x0 13 0)) fun v5 =>
  obn (oSt' κ σ v5) fun a7 =>
  oin (call 207 [va_rf v5] σ) fun r11 s9 =>
  obn (osi s9 v1 .int v3 r11) fun s12 =>
  obn (ovr (ofd s12 x0 13 3)) fun v14 =>
  obn (ovi (ofd s12 x0 13 4)) fun v16 =>
  obn (ovr (ofd s12 x0 13 0)) fun v18 =>
  obn (oSt' κ s12 v18) fun a20 =>
  oin (call 207 [va_rf v18] s12) fun r24 s22 =>
  obn (osi s22 v14 .int v16 r24) fun s25 =>
  some (none, s25)
def oj_X11_split_70 (n : Nat) (call : oCl) (κ : oKv) (k2 : Option Nat → Int32 → oSt → oRs) (x0 : Option Nat) (x1 : Int32) (σ : oSt) : oRs :=
  k2 x0 (x1 + 1) σ
def ol_X11_split_2 (n : Nat) (call : oCl) (κ : oKv) : Nat → Option Nat → Int32 → oSt → oRs
  | 0, _, _, _ => none
  | f + 1, x0, x1, σ =>
    obn (ovr (ofd σ x0 13 0)) fun v1 =>
    obn (oSt' κ σ v1) fun a3 =>
    oin (call 207 [va_rf v1] σ) fun r7 s5 =>
    if r7 ≤ x1 then
      oj_X11_split_76 n call κ x0 s5
    else
      obn (ovi (ofd s5 x0 13 5)) fun v9 =>
      if 0 ≤ v9 then
        oj_X11_split_76 n call κ x0 s5
      else
        obn (ovr (ofd s5 x0 13 0)) fun v12 =>
        obn (oSt' κ s5 v12) fun a14 =>
        oin (call 201 [va_rf v12, .int x1] s5) fun r18 s16 =>
        if r18 = 32 then
          oj_X11_split_70 n call κ (ol_X11_split_2 n call κ f) x0 x1 s16
        else
          if r18 = 10 then
            oj_X11_split_70 n call κ (ol_X11_split_2 n call κ f) x0 x1 s16
          else
            obn (oob s16 x0 13) fun a21 =>
            oin (call 167 [va_rf x0, .int x1] s16) fun r25 s23 =>
            if r25 ≤ x1 then
              obn (opf s23 x0 13 5 (.int x1)) fun s27 =>
              oj_X11_split_70 n call κ (ol_X11_split_2 n call κ f) x0 x1 s27
            else
              obn (oob s23 x0 13) fun a29 =>
              ocv (call 170 [va_rf x0, .int x1, .int r25] s23) fun s31 =>
              oj_X11_split_70 n call κ (ol_X11_split_2 n call κ f) x0 (r25 - 1) s31
def ob_X11_split (n : Nat) (call : oCl) (κ : oKv) (x0 : Option Nat) (σ : oSt) : oRs :=
  ol_X11_split_2 n call κ n x0 0 σ
set_option maxHeartbeats 4000000 in
theorem qj_X11_split_76 {κ : oKv} {n : Nat} {call : oCl} {kc : Nat → List Value → oSt → Option Value × oSt → Prop} {v : Option Value × oSt} {X : Nat → zLv → List Value → oSt → Prop} (hX : oSem RX11 cX11_split 4 0 none κ kc v X) (hc : ∀ j av s w, call j av s = some w → kc j av s w) {x0 : Option Nat} {σ : oSt} (h : oj_X11_split_76 n call κ x0 σ = some v) : X 76 [some (va_rf x0), none, none, none] [] σ := by
  rw [oj_X11_split_76] at h
  refine os_aload_n (r := x0) hX dX11_split_76 rfl rfl ?_
  obtain ⟨v1, e2, h⟩ := obn_e h
  refine ow_get (r := x0) hX dX11_split_77 oF_RX11_29 (ovr_e e2) ?_
  refine os_aload_n (r := x0) hX dX11_split_80 rfl rfl ?_
  obtain ⟨v3, e4, h⟩ := obn_e h
  refine ow_get (r := x0) hX dX11_split_81 oF_RX11_50 (ovi_e e4) ?_
  refine os_aload_n (r := x0) hX dX11_split_84 rfl rfl ?_
  obtain ⟨v5, e6, h⟩ := obn_e h
  refine ow_get (r := x0) hX dX11_split_85 oF_RX11_15 (ovr_e e6) ?_
  obtain ⟨a7, e8, h⟩ := obn_e h
  obtain ⟨r11, s9, e10, h⟩ := oin_e h
  refine oc_RX11_19 (rb := v5)  hX dX11_split_88 (by simp only [List.map_cons, List.map_nil, List.sum_cons, List.sum_nil, ocat]; exact Nat.le_of_ble_eq_true rfl) e8 (hc _ _ _ _ e10) ?_
  obtain ⟨s12, e13, h⟩ := obn_e h
  refine ow_si (r := v1) (i := v3) (x := r11) hX dX11_split_91 e13 ?_
  refine os_aload_n (r := x0) hX dX11_split_92 rfl rfl ?_
  obtain ⟨v14, e15, h⟩ := obn_e h
  refine ow_get (r := x0) hX dX11_split_93 oF_RX11_32 (ovr_e e15) ?_
  refine os_aload_n (r := x0) hX dX11_split_96 rfl rfl ?_
  obtain ⟨v16, e17, h⟩ := obn_e h
  refine ow_get (r := x0) hX dX11_split_97 oF_RX11_50 (ovi_e e17) ?_
  refine os_aload_n (r := x0) hX dX11_split_100 rfl rfl ?_
  obtain ⟨v18, e19, h⟩ := obn_e h
  refine ow_get (r := x0) hX dX11_split_101 oF_RX11_15 (ovr_e e19) ?_
  obtain ⟨a20, e21, h⟩ := obn_e h
  obtain ⟨r24, s22, e23, h⟩ := oin_e h
  refine oc_RX11_19 (rb := v18)  hX dX11_split_104 (by simp only [List.map_cons, List.map_nil, List.sum_cons, List.sum_nil, ocat]; exact Nat.le_of_ble_eq_true rfl) e21 (hc _ _ _ _ e23) ?_
  obtain ⟨s25, e26, h⟩ := obn_e h
  refine ow_si (r := v14) (i := v16) (x := r24) hX dX11_split_107 e26 ?_
  exact os_vret hX dX11_split_108 rfl (Option.some.inj h)
set_option maxHeartbeats 4000000 in
theorem qj_X11_split_70 {κ : oKv} {n : Nat} {call : oCl} {kc : Nat → List Value → oSt → Option Value × oSt → Prop} {v : Option Value × oSt} {X : Nat → zLv → List Value → oSt → Prop} (hX : oSem RX11 cX11_split 4 0 none κ kc v X) (hc : ∀ j av s w, call j av s = some w → kc j av s w) {k2 : Option Nat → Int32 → oSt → oRs} (hk2 : ∀ (x0 : Option Nat) (x1 : Int32) (s : oSt), k2 x0 x1 s = some v → X 2 [some (va_rf x0), some (.int x1), none, none] [] s) {x0 : Option Nat} {x1 : Int32} {σ : oSt} (h : oj_X11_split_70 n call κ k2 x0 x1 σ = some v) : X 70 [some (va_rf x0), some (.int x1), none, none] [] σ := by
  rw [oj_X11_split_70] at h
  refine os_iinc (v := x1 + 1) hX dX11_split_70 rfl rfl (by decide) (ozlo (i := 0) (r := x0) rfl) ?_
  dsimp only [List.set]
  refine os_goto (tgt := 2) hX dX11_split_73 (by decide) ?_
  exact hk2 _ _ _ h
set_option maxHeartbeats 4000000 in
theorem ql_X11_split_2 {κ : oKv} {n : Nat} {call : oCl} {kc : Nat → List Value → oSt → Option Value × oSt → Prop} {v : Option Value × oSt} {X : Nat → zLv → List Value → oSt → Prop} (hX : oSem RX11 cX11_split 4 0 none κ kc v X) (hc : ∀ j av s w, call j av s = some w → kc j av s w) : ∀ (f : Nat) (x0 : Option Nat) (x1 : Int32) (σ : oSt), ol_X11_split_2 n call κ f x0 x1 σ = some v → X 2 [some (va_rf x0), some (.int x1), none, none] [] σ := by
  intro f
  induction f with
  | zero => intro x0 x1 σ h; cases h
  | succ f hk2 =>
    intro x0 x1 σ h
    rw [ol_X11_split_2] at h
    refine os_iload_n hX dX11_split_2 rfl rfl ?_
    refine os_aload_n (r := x0) hX dX11_split_3 rfl rfl ?_
    obtain ⟨v1, e2, h⟩ := obn_e h
    refine ow_get (r := x0) hX dX11_split_4 oF_RX11_15 (ovr_e e2) ?_
    obtain ⟨a3, e4, h⟩ := obn_e h
    obtain ⟨r7, s5, e6, h⟩ := oin_e h
    refine oc_RX11_19 (rb := v1)  hX dX11_split_7 (Nat.le_of_ble_eq_true rfl) e4 (hc _ _ _ _ e6) ?_
    refine os_icmp_ge (tgt := 76) hX dX11_split_10 (by decide) (fun c8 => ?_) (fun c8 => ?_)
    · rw [if_pos c8] at h
      refine os_weak hX (lw := [some (va_rf x0), none, none, none]) ⟨rfl, trivial⟩ ?_
      exact qj_X11_split_76 hX hc h
    · rw [if_neg c8] at h
      refine os_aload_n (r := x0) hX dX11_split_13 rfl rfl ?_
      obtain ⟨v9, e10, h⟩ := obn_e h
      refine ow_get (r := x0) hX dX11_split_14 oF_RX11_9 (ovi_e e10) ?_
      refine os_if_ge (tgt := 76) hX dX11_split_17 (by decide) (fun c11 => ?_) (fun c11 => ?_)
      · rw [if_pos c11] at h
        refine os_weak hX (lw := [some (va_rf x0), none, none, none]) ⟨rfl, trivial⟩ ?_
        exact qj_X11_split_76 hX hc h
      · rw [if_neg c11] at h
        refine os_aload_n (r := x0) hX dX11_split_20 rfl rfl ?_
        obtain ⟨v12, e13, h⟩ := obn_e h
        refine ow_get (r := x0) hX dX11_split_21 oF_RX11_15 (ovr_e e13) ?_
        refine os_iload_n hX dX11_split_24 rfl rfl ?_
        obtain ⟨a14, e15, h⟩ := obn_e h
        obtain ⟨r18, s16, e17, h⟩ := oin_e h
        refine oc_RX11_38 (rb := v12) (a1 := .int x1) hX dX11_split_25 (Nat.le_of_ble_eq_true rfl) e15 (hc _ _ _ _ e17) ?_
        refine os_istore_n hX dX11_split_28 rfl (by decide) rfl ?_
        dsimp only [List.set]
        refine os_iload_n hX dX11_split_29 rfl rfl ?_
        refine os_bipush (v := 32) hX dX11_split_30 (by decide) ?_
        refine os_icmp_eq (tgt := 70) hX dX11_split_32 (by decide) (fun c19 => ?_) (fun c19 => ?_)
        · rw [if_pos c19] at h
          refine os_weak hX (lw := [some (va_rf x0), some (.int x1), none, none]) ⟨rfl, rfl, trivial⟩ ?_
          exact qj_X11_split_70 hX hc hk2 h
        · rw [if_neg c19] at h
          refine os_iload_n hX dX11_split_35 rfl rfl ?_
          refine os_bipush (v := 10) hX dX11_split_36 (by decide) ?_
          refine os_icmp_eq (tgt := 70) hX dX11_split_38 (by decide) (fun c20 => ?_) (fun c20 => ?_)
          · rw [if_pos c20] at h
            refine os_weak hX (lw := [some (va_rf x0), some (.int x1), none, none]) ⟨rfl, rfl, trivial⟩ ?_
            exact qj_X11_split_70 hX hc hk2 h
          · rw [if_neg c20] at h
            refine os_aload_n (r := x0) hX dX11_split_41 rfl rfl ?_
            refine os_iload_n hX dX11_split_42 rfl rfl ?_
            obtain ⟨a21, e22, h⟩ := obn_e h
            obtain ⟨r25, s23, e24, h⟩ := oin_e h
            refine oc_RX11_42 (rb := x0) (a1 := .int x1) hX dX11_split_43 (Nat.le_of_ble_eq_true rfl) e22 (hc _ _ _ _ e24) ?_
            refine os_istore_n hX dX11_split_46 rfl (by decide) rfl ?_
            dsimp only [List.set]
            refine os_iload_n hX dX11_split_47 rfl rfl ?_
            refine os_iload_n hX dX11_split_48 rfl rfl ?_
            refine os_icmp_le (tgt := 65) hX dX11_split_49 (by decide) (fun c26 => ?_) (fun c26 => ?_)
            · rw [if_pos c26] at h
              refine os_aload_n (r := x0) hX dX11_split_65 rfl rfl ?_
              refine os_iload_n hX dX11_split_66 rfl rfl ?_
              obtain ⟨s27, e28, h⟩ := obn_e h
              refine ow_put (r := x0) (x := .int x1) hX dX11_split_67 oF_RX11_9 (by decide) (opn_I oT_13_5) e28 ?_
              refine os_weak hX (lw := [some (va_rf x0), some (.int x1), none, none]) ⟨rfl, rfl, trivial⟩ ?_
              exact qj_X11_split_70 hX hc hk2 h
            · rw [if_neg c26] at h
              refine os_aload_n (r := x0) hX dX11_split_52 rfl rfl ?_
              refine os_iload_n hX dX11_split_53 rfl rfl ?_
              refine os_iload_n hX dX11_split_54 rfl rfl ?_
              obtain ⟨a29, e30, h⟩ := obn_e h
              obtain ⟨s31, e32, h⟩ := ocv_e h
              refine oc_RX11_46 (rb := x0) (a1 := .int x1) (a2 := .int r25) hX dX11_split_55 (Nat.le_of_ble_eq_true rfl) e30 (hc _ _ _ _ e32) ?_
              refine os_iload_n hX dX11_split_58 rfl rfl ?_
              refine os_iconst (v := 1) hX dX11_split_59 (by decide) ?_
              refine os_isub hX dX11_split_60 ?_
              refine os_istore_n hX dX11_split_61 rfl (by decide) (ozlo (i := 0) (r := x0) rfl) ?_
              dsimp only [List.set]
              refine os_goto (tgt := 70) hX dX11_split_62 (by decide) ?_
              refine os_weak hX (lw := [some (va_rf x0), some (.int (r25 - 1)), none, none]) ⟨rfl, rfl, trivial⟩ ?_
              exact qj_X11_split_70 hX hc hk2 h
set_option maxHeartbeats 4000000 in
theorem qb_X11_split {κ : oKv} {n : Nat} {call : oCl} {kc : Nat → List Value → oSt → Option Value × oSt → Prop} {v : Option Value × oSt} {X : Nat → zLv → List Value → oSt → Prop} (hX : oSem RX11 cX11_split 4 0 none κ kc v X) (hc : ∀ j av s w, call j av s = some w → kc j av s w) {x0 : Option Nat} {σ : oSt} (h : ob_X11_split n call κ x0 σ = some v) : X 0 [some (va_rf x0), none, none, none] [] σ := by
  rw [ob_X11_split] at h
  refine os_iconst (v := 0) hX dX11_split_0 (by decide) ?_
  refine os_istore_n hX dX11_split_1 rfl (by decide) (ozlo (i := 0) (r := x0) rfl) ?_
  dsimp only [List.set]
  exact ql_X11_split_2 hX hc n _ _ _ h
def ob_X11_init (n : Nat) (call : oCl) (κ : oKv) (x0 : Option Nat) (x1 : Option Nat) (σ : oSt) : oRs :=
  obn (x0) fun a1 =>
  obn (opf σ x0 13 5 (.int (-1))) fun s3 =>
  obn (opf s3 x0 13 0 (va_rf x1)) fun s5 =>
  obn (oSt' κ s5 x1) fun a7 =>
  oin (call 207 [va_rf x1] s5) fun r11 s9 =>
  ogd (onn (r11 + 1)) (
  olet (onew s9 (.inl (.int, (r11 + 1).toNatClampNeg, .inl (fun _ => 0))) (r11 + 1).toNatClampNeg) fun s12 =>
  obn (opf s12 x0 13 1 (va_rf (some s9.2.1))) fun s15 =>
  obn (oSt' κ s15 x1) fun a17 =>
  oin (call 207 [va_rf x1] s15) fun r21 s19 =>
  ogd (onn (r21 + 1)) (
  olet (onew s19 (.inl (.int, (r21 + 1).toNatClampNeg, .inl (fun _ => 0))) (r21 + 1).toNatClampNeg) fun s22 =>
  obn (opf s22 x0 13 2 (va_rf (some s19.2.1))) fun s25 =>
  obn (oSt' κ s25 x1) fun a27 =>
  oin (call 207 [va_rf x1] s25) fun r31 s29 =>
  ogd (onn (r31 + 1)) (
  olet (onew s29 (.inl (.int, (r31 + 1).toNatClampNeg, .inl (fun _ => 0))) (r31 + 1).toNatClampNeg) fun s32 =>
  obn (opf s32 x0 13 3 (va_rf (some s29.2.1))) fun s35 =>
  obn (oob s35 x0 13) fun a37 =>
  ocv (call 171 [va_rf x0] s35) fun s39 =>
  some (none, s39))))
set_option maxHeartbeats 4000000 in
theorem qb_X11_init {κ : oKv} {n : Nat} {call : oCl} {kc : Nat → List Value → oSt → Option Value × oSt → Prop} {v : Option Value × oSt} {X : Nat → zLv → List Value → oSt → Prop} (hX : oSem RX11 cX11_init 2 2 none κ kc v X) (hc : ∀ j av s w, call j av s = some w → kc j av s w) {x0 : Option Nat} {x1 : Option Nat} {σ : oSt} (h : ob_X11_init n call κ x0 x1 σ = some v) : X 0 [some (va_rf x0), some (va_rf x1)] [] σ := by
  rw [ob_X11_init] at h
  refine os_aload_n (r := x0) hX dX11_init_0 rfl rfl ?_
  obtain ⟨a1, e2, h⟩ := obn_e h
  refine ow_oI (r := x0) hX dX11_init_1 oI_RX11_3 (Nat.le_of_ble_eq_true rfl) e2 ?_
  refine os_aload_n (r := x0) hX dX11_init_4 rfl rfl ?_
  refine os_iconst (v := (-1)) hX dX11_init_5 (by decide) ?_
  obtain ⟨s3, e4, h⟩ := obn_e h
  refine ow_put (r := x0) (x := .int (-1)) hX dX11_init_6 oF_RX11_9 (by decide) (opn_I oT_13_5) e4 ?_
  refine os_aload_n (r := x0) hX dX11_init_9 rfl rfl ?_
  refine os_aload_n (r := x1) hX dX11_init_10 rfl rfl ?_
  obtain ⟨s5, e6, h⟩ := obn_e h
  refine ow_putF (r := x0) (x := va_rf x1) hX dX11_init_11 oF_RX11_15 (by decide) rfl rfl (orf_n (Or.inl ⟨_, oT_13_0⟩) x1) e6 ?_
  refine os_aload_n (r := x0) hX dX11_init_14 rfl rfl ?_
  refine os_aload_n (r := x1) hX dX11_init_15 rfl rfl ?_
  obtain ⟨a7, e8, h⟩ := obn_e h
  obtain ⟨r11, s9, e10, h⟩ := oin_e h
  refine oc_RX11_19 (rb := x1)  hX dX11_init_16 (by simp only [List.map_cons, List.map_nil, List.sum_cons, List.sum_nil, ocat]; exact Nat.le_of_ble_eq_true rfl) e8 (hc _ _ _ _ e10) ?_
  refine os_iconst (v := 1) hX dX11_init_19 (by decide) ?_
  refine os_iadd hX dX11_init_20 ?_
  obtain ⟨b14, h⟩ := ogd_e h
  obtain ⟨s12, e13, h⟩ := olet_e h
  refine os_newI hX dX11_init_21 (onn_e b14).1 (onn_e b14).2 ?_
  rw [← e13]
  obtain ⟨s15, e16, h⟩ := obn_e h
  refine ow_putF (r := x0) (x := va_rf (some s9.2.1)) hX dX11_init_23 oF_RX11_25 (by decide) rfl rfl (orf_n (Or.inr ⟨_, oT_13_1⟩) (some s9.2.1)) e16 ?_
  refine os_aload_n (r := x0) hX dX11_init_26 rfl rfl ?_
  refine os_aload_n (r := x1) hX dX11_init_27 rfl rfl ?_
  obtain ⟨a17, e18, h⟩ := obn_e h
  obtain ⟨r21, s19, e20, h⟩ := oin_e h
  refine oc_RX11_19 (rb := x1)  hX dX11_init_28 (by simp only [List.map_cons, List.map_nil, List.sum_cons, List.sum_nil, ocat]; exact Nat.le_of_ble_eq_true rfl) e18 (hc _ _ _ _ e20) ?_
  refine os_iconst (v := 1) hX dX11_init_31 (by decide) ?_
  refine os_iadd hX dX11_init_32 ?_
  obtain ⟨b24, h⟩ := ogd_e h
  obtain ⟨s22, e23, h⟩ := olet_e h
  refine os_newI hX dX11_init_33 (onn_e b24).1 (onn_e b24).2 ?_
  rw [← e23]
  obtain ⟨s25, e26, h⟩ := obn_e h
  refine ow_putF (r := x0) (x := va_rf (some s19.2.1)) hX dX11_init_35 oF_RX11_29 (by decide) rfl rfl (orf_n (Or.inr ⟨_, oT_13_2⟩) (some s19.2.1)) e26 ?_
  refine os_aload_n (r := x0) hX dX11_init_38 rfl rfl ?_
  refine os_aload_n (r := x1) hX dX11_init_39 rfl rfl ?_
  obtain ⟨a27, e28, h⟩ := obn_e h
  obtain ⟨r31, s29, e30, h⟩ := oin_e h
  refine oc_RX11_19 (rb := x1)  hX dX11_init_40 (by simp only [List.map_cons, List.map_nil, List.sum_cons, List.sum_nil, ocat]; exact Nat.le_of_ble_eq_true rfl) e28 (hc _ _ _ _ e30) ?_
  refine os_iconst (v := 1) hX dX11_init_43 (by decide) ?_
  refine os_iadd hX dX11_init_44 ?_
  obtain ⟨b34, h⟩ := ogd_e h
  obtain ⟨s32, e33, h⟩ := olet_e h
  refine os_newI hX dX11_init_45 (onn_e b34).1 (onn_e b34).2 ?_
  rw [← e33]
  obtain ⟨s35, e36, h⟩ := obn_e h
  refine ow_putF (r := x0) (x := va_rf (some s29.2.1)) hX dX11_init_47 oF_RX11_32 (by decide) rfl rfl (orf_n (Or.inr ⟨_, oT_13_3⟩) (some s29.2.1)) e36 ?_
  refine os_aload_n (r := x0) hX dX11_init_50 rfl rfl ?_
  obtain ⟨a37, e38, h⟩ := obn_e h
  obtain ⟨s39, e40, h⟩ := ocv_e h
  refine oc_RX11_35 (rb := x0)  hX dX11_init_51 (Nat.le_of_ble_eq_true rfl) e38 (hc _ _ _ _ e40) ?_
  exact os_vret hX dX11_init_54 rfl (Option.some.inj h)
def ob_X12_init (n : Nat) (call : oCl) (κ : oKv) (x0 : Option Nat) (σ : oSt) : oRs :=
  obn (x0) fun a1 =>
  ogd (onn 2000) (
  olet (onew σ (.inl (.byte, (2000 : Int32).toNatClampNeg, .inl (fun _ => 0))) (2000 : Int32).toNatClampNeg) fun s3 =>
  obn (opf s3 x0 14 0 (va_rf (some σ.2.1))) fun s6 =>
  obn (opf s6 x0 14 5 (.int (-1))) fun s8 =>
  ogd (onn 128) (
  olet (onew s8 (.inl (.byte, (128 : Int32).toNatClampNeg, .inl (fun _ => 0))) (128 : Int32).toNatClampNeg) fun s10 =>
  obn (opf s10 x0 14 6 (va_rf (some s8.2.1))) fun s13 =>
  ogd (onn 128) (
  olet (onew s13 (.inl (.byte, (128 : Int32).toNatClampNeg, .inl (fun _ => 0))) (128 : Int32).toNatClampNeg) fun s15 =>
  obn (opf s15 x0 14 7 (va_rf (some s13.2.1))) fun s18 =>
  olet (onew s18 (.inr (1, odef 1)) (oq 1).2.2) fun s20 =>
  obn ((some s18.2.1)) fun a22 =>
  ocv (call 224 [va_rf (some s18.2.1)] s20) fun s24 =>
  obn (opf s24 x0 14 10 (va_rf (some s18.2.1))) fun s27 =>
  olet (onew s27 (.inr (3, odef 3)) (oq 3).2.2) fun s29 =>
  obn ((some s27.2.1)) fun a31 =>
  ocv (call 70 [va_rf (some s27.2.1)] s29) fun s33 =>
  obn (opf s33 x0 14 11 (va_rf (some s27.2.1))) fun s36 =>
  olet (onew s36 (.inr (5, odef 5)) (oq 5).2.2) fun s38 =>
  obn ((some s36.2.1)) fun a40 =>
  ocv (call 71 [va_rf (some s36.2.1)] s38) fun s42 =>
  obn (opf s42 x0 14 12 (va_rf (some s36.2.1))) fun s45 =>
  some (none, s45))))
set_option maxHeartbeats 4000000 in
theorem qb_X12_init {κ : oKv} {n : Nat} {call : oCl} {kc : Nat → List Value → oSt → Option Value × oSt → Prop} {v : Option Value × oSt} {X : Nat → zLv → List Value → oSt → Prop} (hX : oSem RX12 cX12_init 1 2 none κ kc v X) (hc : ∀ j av s w, call j av s = some w → kc j av s w) {x0 : Option Nat} {σ : oSt} (h : ob_X12_init n call κ x0 σ = some v) : X 0 [some (va_rf x0)] [] σ := by
  rw [ob_X12_init] at h
  refine os_aload_n (r := x0) hX dX12_init_0 rfl rfl ?_
  obtain ⟨a1, e2, h⟩ := obn_e h
  refine ow_oI (r := x0) hX dX12_init_1 oI_RX12_1 (Nat.le_of_ble_eq_true rfl) e2 ?_
  refine os_aload_n (r := x0) hX dX12_init_4 rfl rfl ?_
  refine os_sipush (v := 2000) hX dX12_init_5 (by decide) ?_
  obtain ⟨b5, h⟩ := ogd_e h
  obtain ⟨s3, e4, h⟩ := olet_e h
  refine os_newB hX dX12_init_8 (onn_e b5).1 (onn_e b5).2 ?_
  rw [← e4]
  obtain ⟨s6, e7, h⟩ := obn_e h
  refine ow_putF (r := x0) (x := va_rf (some σ.2.1)) hX dX12_init_10 oF_RX12_9 (by decide) rfl rfl (orf_n (Or.inr ⟨_, oT_14_0⟩) (some σ.2.1)) e7 ?_
  refine os_aload_n (r := x0) hX dX12_init_13 rfl rfl ?_
  refine os_iconst (v := (-1)) hX dX12_init_14 (by decide) ?_
  obtain ⟨s8, e9, h⟩ := obn_e h
  refine ow_put (r := x0) (x := .int (-1)) hX dX12_init_15 oF_RX12_13 (by decide) (opn_I oT_14_5) e9 ?_
  refine os_aload_n (r := x0) hX dX12_init_18 rfl rfl ?_
  refine os_sipush (v := 128) hX dX12_init_19 (by decide) ?_
  obtain ⟨b12, h⟩ := ogd_e h
  obtain ⟨s10, e11, h⟩ := olet_e h
  refine os_newB hX dX12_init_22 (onn_e b12).1 (onn_e b12).2 ?_
  rw [← e11]
  obtain ⟨s13, e14, h⟩ := obn_e h
  refine ow_put (r := x0) (x := va_rf (some s8.2.1)) hX dX12_init_24 oF_RX12_17 (by decide) (orf_n (Or.inr ⟨_, oT_14_6⟩) (some s8.2.1)) e14 ?_
  refine os_aload_n (r := x0) hX dX12_init_27 rfl rfl ?_
  refine os_sipush (v := 128) hX dX12_init_28 (by decide) ?_
  obtain ⟨b17, h⟩ := ogd_e h
  obtain ⟨s15, e16, h⟩ := olet_e h
  refine os_newB hX dX12_init_31 (onn_e b17).1 (onn_e b17).2 ?_
  rw [← e16]
  obtain ⟨s18, e19, h⟩ := obn_e h
  refine ow_put (r := x0) (x := va_rf (some s13.2.1)) hX dX12_init_33 oF_RX12_20 (by decide) (orf_n (Or.inr ⟨_, oT_14_7⟩) (some s13.2.1)) e19 ?_
  refine os_aload_n (r := x0) hX dX12_init_36 rfl rfl ?_
  obtain ⟨s20, e21, h⟩ := olet_e h
  refine os_new hX dX12_init_37 oN_RX12_23 ?_
  rw [← e21]
  refine os_dup hX dX12_init_40 (ocat (some s18.2.1)) ?_
  obtain ⟨a22, e23, h⟩ := obn_e h
  obtain ⟨s24, e25, h⟩ := ocv_e h
  refine oc_RX12_25 (rb := (some s18.2.1))  hX dX12_init_41 (by simp only [List.map_cons, List.map_nil, List.sum_cons, List.sum_nil, ocat]; exact Nat.le_of_ble_eq_true rfl) e23 (hc _ _ _ _ e25) ?_
  obtain ⟨s27, e28, h⟩ := obn_e h
  refine ow_putF (r := x0) (x := va_rf (some s18.2.1)) hX dX12_init_44 oF_RX12_26 (by decide) rfl rfl (orf_n (Or.inl ⟨_, oT_14_10⟩) (some s18.2.1)) e28 ?_
  refine os_aload_n (r := x0) hX dX12_init_47 rfl rfl ?_
  obtain ⟨s29, e30, h⟩ := olet_e h
  refine os_new hX dX12_init_48 oN_RX12_30 ?_
  rw [← e30]
  refine os_dup hX dX12_init_51 (ocat (some s27.2.1)) ?_
  obtain ⟨a31, e32, h⟩ := obn_e h
  obtain ⟨s33, e34, h⟩ := ocv_e h
  refine oc_RX12_32 (rb := (some s27.2.1))  hX dX12_init_52 (by simp only [List.map_cons, List.map_nil, List.sum_cons, List.sum_nil, ocat]; exact Nat.le_of_ble_eq_true rfl) e32 (hc _ _ _ _ e34) ?_
  obtain ⟨s36, e37, h⟩ := obn_e h
  refine ow_putF (r := x0) (x := va_rf (some s27.2.1)) hX dX12_init_55 oF_RX12_33 (by decide) rfl rfl (orf_n (Or.inl ⟨_, oT_14_11⟩) (some s27.2.1)) e37 ?_
  refine os_aload_n (r := x0) hX dX12_init_58 rfl rfl ?_
  obtain ⟨s38, e39, h⟩ := olet_e h
  refine os_new hX dX12_init_59 oN_RX12_37 ?_
  rw [← e39]
  refine os_dup hX dX12_init_62 (ocat (some s36.2.1)) ?_
  obtain ⟨a40, e41, h⟩ := obn_e h
  obtain ⟨s42, e43, h⟩ := ocv_e h
  refine oc_RX12_39 (rb := (some s36.2.1))  hX dX12_init_63 (by simp only [List.map_cons, List.map_nil, List.sum_cons, List.sum_nil, ocat]; exact Nat.le_of_ble_eq_true rfl) e41 (hc _ _ _ _ e43) ?_
  obtain ⟨s45, e46, h⟩ := obn_e h
  refine ow_putF (r := x0) (x := va_rf (some s36.2.1)) hX dX12_init_66 oF_RX12_40 (by decide) rfl rfl (orf_n (Or.inl ⟨_, oT_14_12⟩) (some s36.2.1)) e46 ?_
  exact os_vret hX dX12_init_69 rfl (Option.some.inj h)
def ol_X12_lay_3 (n : Nat) (call : oCl) (κ : oKv) : Nat → Option Nat → Int32 → Int32 → oSt → oRs
  | 0, _, _, _, _ => none
  | f + 1, x0, x1, x2, σ =>
    if x2 < 0 then
      some (none, σ)
    else
      obn (ovi (ofd σ x0 14 1)) fun v2 =>
      if 2000 ≤ v2 then
        some (none, σ)
      else
        obn (ovr (ofd σ x0 14 0)) fun v5 =>
        obn (ovi (ofd σ x0 14 1)) fun v7 =>
        obn (osi σ v5 .byte v7 (vp_nar .byte ((x1 >>> (x2 &&& 31)).toInt8.toInt32))) fun s9 =>
        obn (ovi (ofd s9 x0 14 1)) fun v11 =>
        obn (opf s9 x0 14 1 (.int (v11 + 1))) fun s13 =>
        ol_X12_lay_3 n call κ f x0 x1 (x2 + (-8)) s13
def ob_X12_lay (n : Nat) (call : oCl) (κ : oKv) (x0 : Option Nat) (x1 : Int32) (σ : oSt) : oRs :=
  ol_X12_lay_3 n call κ n x0 x1 24 σ
set_option maxHeartbeats 4000000 in
theorem ql_X12_lay_3 {κ : oKv} {n : Nat} {call : oCl} {kc : Nat → List Value → oSt → Option Value × oSt → Prop} {v : Option Value × oSt} {X : Nat → zLv → List Value → oSt → Prop} (hX : oSem RX12 cX12_lay 3 0 none κ kc v X) (hc : ∀ j av s w, call j av s = some w → kc j av s w) : ∀ (f : Nat) (x0 : Option Nat) (x1 : Int32) (x2 : Int32) (σ : oSt), ol_X12_lay_3 n call κ f x0 x1 x2 σ = some v → X 3 [some (va_rf x0), some (.int x1), some (.int x2)] [] σ := by
  intro f
  induction f with
  | zero => intro x0 x1 x2 σ h; cases h
  | succ f hk3 =>
    intro x0 x1 x2 σ h
    rw [ol_X12_lay_3] at h
    refine os_iload_n hX dX12_lay_3 rfl rfl ?_
    refine os_if_lt (tgt := 46) hX dX12_lay_4 (by decide) (fun c1 => ?_) (fun c1 => ?_)
    · rw [if_pos c1] at h
      exact os_vret hX dX12_lay_46 rfl (Option.some.inj h)
    · rw [if_neg c1] at h
      refine os_aload_n (r := x0) hX dX12_lay_7 rfl rfl ?_
      obtain ⟨v2, e3, h⟩ := obn_e h
      refine ow_get (r := x0) hX dX12_lay_8 oF_RX12_44 (ovi_e e3) ?_
      refine os_sipush (v := 2000) hX dX12_lay_11 (by decide) ?_
      refine os_icmp_ge (tgt := 46) hX dX12_lay_14 (by decide) (fun c4 => ?_) (fun c4 => ?_)
      · rw [if_pos c4] at h
        exact os_vret hX dX12_lay_46 rfl (Option.some.inj h)
      · rw [if_neg c4] at h
        refine os_aload_n (r := x0) hX dX12_lay_17 rfl rfl ?_
        obtain ⟨v5, e6, h⟩ := obn_e h
        refine ow_get (r := x0) hX dX12_lay_18 oF_RX12_9 (ovr_e e6) ?_
        refine os_aload_n (r := x0) hX dX12_lay_21 rfl rfl ?_
        obtain ⟨v7, e8, h⟩ := obn_e h
        refine ow_get (r := x0) hX dX12_lay_22 oF_RX12_44 (ovi_e e8) ?_
        refine os_iload_n hX dX12_lay_25 rfl rfl ?_
        refine os_iload_n hX dX12_lay_26 rfl rfl ?_
        refine os_ishr hX dX12_lay_27 ?_
        refine os_i2b hX dX12_lay_28 ?_
        obtain ⟨s9, e10, h⟩ := obn_e h
        refine ow_sb (r := v5) (i := v7) (x := (x1 >>> (x2 &&& 31)).toInt8.toInt32) hX dX12_lay_29 e10 ?_
        refine os_aload_n (r := x0) hX dX12_lay_30 rfl rfl ?_
        refine os_dup hX dX12_lay_31 (ocat x0) ?_
        obtain ⟨v11, e12, h⟩ := obn_e h
        refine ow_get (r := x0) hX dX12_lay_32 oF_RX12_44 (ovi_e e12) ?_
        refine os_iconst (v := 1) hX dX12_lay_35 (by decide) ?_
        refine os_iadd hX dX12_lay_36 ?_
        obtain ⟨s13, e14, h⟩ := obn_e h
        refine ow_put (r := x0) (x := .int (v11 + 1)) hX dX12_lay_37 oF_RX12_44 (by decide) (opn_I oT_14_1) e14 ?_
        refine os_iinc (v := x2 + (-8)) hX dX12_lay_40 rfl rfl (by decide) rfl ?_
        dsimp only [List.set]
        refine os_goto (tgt := 3) hX dX12_lay_43 (by decide) ?_
        exact hk3 _ _ _ _ h
set_option maxHeartbeats 4000000 in
theorem qb_X12_lay {κ : oKv} {n : Nat} {call : oCl} {kc : Nat → List Value → oSt → Option Value × oSt → Prop} {v : Option Value × oSt} {X : Nat → zLv → List Value → oSt → Prop} (hX : oSem RX12 cX12_lay 3 0 none κ kc v X) (hc : ∀ j av s w, call j av s = some w → kc j av s w) {x0 : Option Nat} {x1 : Int32} {σ : oSt} (h : ob_X12_lay n call κ x0 x1 σ = some v) : X 0 [some (va_rf x0), some (.int x1), none] [] σ := by
  rw [ob_X12_lay] at h
  refine os_bipush (v := 24) hX dX12_lay_0 (by decide) ?_
  refine os_istore_n hX dX12_lay_2 rfl (by decide) rfl ?_
  dsimp only [List.set]
  exact ql_X12_lay_3 hX hc n _ _ _ _ h
def ob_X12_feed (n : Nat) (call : oCl) (κ : oKv) (x0 : Option Nat) (x1 : Int32) (x2 : Int32) (x3 : Int32) (x4 : Int32) (x5 : Int32) (σ : oSt) : oRs :=
  obn (ovi (ofd σ x0 14 1)) fun v1 =>
  if v1 ≤ 1980 then
    obn (oob σ x0 14) fun a4 =>
    ocv (call 174 [va_rf x0, .int x1] σ) fun s6 =>
    obn (oob s6 x0 14) fun a9 =>
    ocv (call 174 [va_rf x0, .int x2] s6) fun s11 =>
    obn (oob s11 x0 14) fun a14 =>
    ocv (call 174 [va_rf x0, .int x3] s11) fun s16 =>
    obn (oob s16 x0 14) fun a19 =>
    ocv (call 174 [va_rf x0, .int x4] s16) fun s21 =>
    obn (oob s21 x0 14) fun a24 =>
    ocv (call 174 [va_rf x0, .int x5] s21) fun s26 =>
    some (some (.int 1), s26)
  else
    some (some (.int 0), σ)
set_option maxHeartbeats 4000000 in
theorem qb_X12_feed {κ : oKv} {n : Nat} {call : oCl} {kc : Nat → List Value → oSt → Option Value × oSt → Prop} {v : Option Value × oSt} {X : Nat → zLv → List Value → oSt → Prop} (hX : oSem RX12 cX12_feed 6 0 (some .boolean) κ kc v X) (hc : ∀ j av s w, call j av s = some w → kc j av s w) {x0 : Option Nat} {x1 : Int32} {x2 : Int32} {x3 : Int32} {x4 : Int32} {x5 : Int32} {σ : oSt} (h : ob_X12_feed n call κ x0 x1 x2 x3 x4 x5 σ = some v) : X 0 [some (va_rf x0), some (.int x1), some (.int x2), some (.int x3), some (.int x4), some (.int x5)] [] σ := by
  rw [ob_X12_feed] at h
  refine os_aload_n (r := x0) hX dX12_feed_0 rfl rfl ?_
  obtain ⟨v1, e2, h⟩ := obn_e h
  refine ow_get (r := x0) hX dX12_feed_1 oF_RX12_44 (ovi_e e2) ?_
  refine os_sipush (v := 1980) hX dX12_feed_4 (by decide) ?_
  refine os_icmp_le (tgt := 12) hX dX12_feed_7 (by decide) (fun c3 => ?_) (fun c3 => ?_)
  · rw [if_pos c3] at h
    refine os_aload_n (r := x0) hX dX12_feed_12 rfl rfl ?_
    refine os_iload_n hX dX12_feed_13 rfl rfl ?_
    obtain ⟨a4, e5, h⟩ := obn_e h
    obtain ⟨s6, e7, h⟩ := ocv_e h
    refine oc_RX12_47 (rb := x0) (a1 := .int x1) hX dX12_feed_14 (Nat.le_of_ble_eq_true rfl) e5 (hc _ _ _ _ e7) ?_
    refine os_aload_n (r := x0) hX dX12_feed_17 rfl rfl ?_
    refine os_iload_n hX dX12_feed_18 rfl rfl ?_
    obtain ⟨a9, e10, h⟩ := obn_e h
    obtain ⟨s11, e12, h⟩ := ocv_e h
    refine oc_RX12_47 (rb := x0) (a1 := .int x2) hX dX12_feed_19 (Nat.le_of_ble_eq_true rfl) e10 (hc _ _ _ _ e12) ?_
    refine os_aload_n (r := x0) hX dX12_feed_22 rfl rfl ?_
    refine os_iload_n hX dX12_feed_23 rfl rfl ?_
    obtain ⟨a14, e15, h⟩ := obn_e h
    obtain ⟨s16, e17, h⟩ := ocv_e h
    refine oc_RX12_47 (rb := x0) (a1 := .int x3) hX dX12_feed_24 (Nat.le_of_ble_eq_true rfl) e15 (hc _ _ _ _ e17) ?_
    refine os_aload_n (r := x0) hX dX12_feed_27 rfl rfl ?_
    refine os_iload hX dX12_feed_28 rfl ?_
    obtain ⟨a19, e20, h⟩ := obn_e h
    obtain ⟨s21, e22, h⟩ := ocv_e h
    refine oc_RX12_47 (rb := x0) (a1 := .int x4) hX dX12_feed_30 (Nat.le_of_ble_eq_true rfl) e20 (hc _ _ _ _ e22) ?_
    refine os_aload_n (r := x0) hX dX12_feed_33 rfl rfl ?_
    refine os_iload hX dX12_feed_34 rfl ?_
    obtain ⟨a24, e25, h⟩ := obn_e h
    obtain ⟨s26, e27, h⟩ := ocv_e h
    refine oc_RX12_47 (rb := x0) (a1 := .int x5) hX dX12_feed_36 (Nat.le_of_ble_eq_true rfl) e25 (hc _ _ _ _ e27) ?_
    refine os_iconst (v := 1) hX dX12_feed_39 (by decide) ?_
    exact os_nret (ty := .boolean) hX dX12_feed_40 rfl rfl (by decide) (Option.some.inj h)
  · rw [if_neg c3] at h
    refine os_iconst (v := 0) hX dX12_feed_10 (by decide) ?_
    exact os_nret (ty := .boolean) hX dX12_feed_11 rfl rfl (by decide) (Option.some.inj h)
def ob_X12_end (n : Nat) (call : oCl) (κ : oKv) (x0 : Option Nat) (x1 : Int32) (σ : oSt) : oRs :=
  if x1 < 0 then
    some (some (.int 0), σ)
  else
    obn (ovi (ofd σ x0 14 1)) fun v2 =>
    if x1 ≤ v2 then
      obn (opf σ x0 14 1 (.int x1)) fun s5 =>
      some (some (.int 1), s5)
    else
      some (some (.int 0), σ)
set_option maxHeartbeats 4000000 in
theorem qb_X12_end {κ : oKv} {n : Nat} {call : oCl} {kc : Nat → List Value → oSt → Option Value × oSt → Prop} {v : Option Value × oSt} {X : Nat → zLv → List Value → oSt → Prop} (hX : oSem RX12 cX12_end 2 0 (some .boolean) κ kc v X) (hc : ∀ j av s w, call j av s = some w → kc j av s w) {x0 : Option Nat} {x1 : Int32} {σ : oSt} (h : ob_X12_end n call κ x0 x1 σ = some v) : X 0 [some (va_rf x0), some (.int x1)] [] σ := by
  rw [ob_X12_end] at h
  refine os_iload_n hX dX12_end_0 rfl rfl ?_
  refine os_if_lt (tgt := 12) hX dX12_end_1 (by decide) (fun c1 => ?_) (fun c1 => ?_)
  · rw [if_pos c1] at h
    refine os_iconst (v := 0) hX dX12_end_12 (by decide) ?_
    exact os_nret (ty := .boolean) hX dX12_end_13 rfl rfl (by decide) (Option.some.inj h)
  · rw [if_neg c1] at h
    refine os_iload_n hX dX12_end_4 rfl rfl ?_
    refine os_aload_n (r := x0) hX dX12_end_5 rfl rfl ?_
    obtain ⟨v2, e3, h⟩ := obn_e h
    refine ow_get (r := x0) hX dX12_end_6 oF_RX12_44 (ovi_e e3) ?_
    refine os_icmp_le (tgt := 14) hX dX12_end_9 (by decide) (fun c4 => ?_) (fun c4 => ?_)
    · rw [if_pos c4] at h
      refine os_aload_n (r := x0) hX dX12_end_14 rfl rfl ?_
      refine os_iload_n hX dX12_end_15 rfl rfl ?_
      obtain ⟨s5, e6, h⟩ := obn_e h
      refine ow_put (r := x0) (x := .int x1) hX dX12_end_16 oF_RX12_44 (by decide) (opn_I oT_14_1) e6 ?_
      refine os_iconst (v := 1) hX dX12_end_19 (by decide) ?_
      exact os_nret (ty := .boolean) hX dX12_end_20 rfl rfl (by decide) (Option.some.inj h)
    · rw [if_neg c4] at h
      refine os_iconst (v := 0) hX dX12_end_12 (by decide) ?_
      exact os_nret (ty := .boolean) hX dX12_end_13 rfl rfl (by decide) (Option.some.inj h)
def ob_X12_fault (n : Nat) (call : oCl) (κ : oKv) (x0 : Option Nat) (x1 : Int32) (x2 : Int32) (σ : oSt) : oRs :=
  obn (opf σ x0 14 5 (.int x2)) fun s1 =>
  some (some (.int x1), s1)
set_option maxHeartbeats 4000000 in
theorem qb_X12_fault {κ : oKv} {n : Nat} {call : oCl} {kc : Nat → List Value → oSt → Option Value × oSt → Prop} {v : Option Value × oSt} {X : Nat → zLv → List Value → oSt → Prop} (hX : oSem RX12 cX12_fault 3 0 (some .int) κ kc v X) (hc : ∀ j av s w, call j av s = some w → kc j av s w) {x0 : Option Nat} {x1 : Int32} {x2 : Int32} {σ : oSt} (h : ob_X12_fault n call κ x0 x1 x2 σ = some v) : X 0 [some (va_rf x0), some (.int x1), some (.int x2)] [] σ := by
  rw [ob_X12_fault] at h
  refine os_aload_n (r := x0) hX dX12_fault_0 rfl rfl ?_
  refine os_iload_n hX dX12_fault_1 rfl rfl ?_
  obtain ⟨s1, e2, h⟩ := obn_e h
  refine ow_put (r := x0) (x := .int x2) hX dX12_fault_2 oF_RX12_13 (by decide) (opn_I oT_14_5) e2 ?_
  refine os_iload_n hX dX12_fault_5 rfl rfl ?_
  exact os_iret hX dX12_fault_6 rfl (Option.some.inj h)
def ol_X12_compile_9 (n : Nat) (call : oCl) (κ : oKv) : Nat → Option Nat → Option Nat → Int32 → oSt → oRs
  | 0, _, _, _, _ => none
  | f + 1, x0, x1, x2, σ =>
    obn (ovi (ofd σ x0 14 1)) fun v1 =>
    if v1 ≤ x2 then
      obn (opf σ x0 14 1 (.int 0)) fun s4 =>
      obn (opf s4 x0 14 2 (va_rf none)) fun s6 =>
      obn (opf s6 x0 14 3 (va_rf none)) fun s8 =>
      obn (opf s8 x0 14 4 (va_rf none)) fun s10 =>
      obn (opf s10 x0 14 5 (.int (-1))) fun s12 =>
      obn (ovr (ofd s12 x0 14 12)) fun v14 =>
      obn (oob s12 v14 5) fun a16 =>
      ocv (call 72 [va_rf v14] s12) fun s18 =>
      olet (onew s18 (.inr (13, odef 13)) (oq 13).2.2) fun s21 =>
      olet (onew s21 (.inr (0, odef 0)) (oq 0).2.2) fun s23 =>
      obn ((some s21.2.1)) fun a25 =>
      ocv (call 196 [va_rf (some s21.2.1), va_rf x1] s23) fun s27 =>
      obn ((some s18.2.1)) fun a30 =>
      ocv (call 172 [va_rf (some s18.2.1), va_rf (some s21.2.1)] s27) fun s32 =>
      obn (ovi (ofd s32 (some s18.2.1) 13 5)) fun v35 =>
      if v35 < 0 then
        olet (onew s32 (.inr (9, odef 9)) (oq 9).2.2) fun s38 =>
        obn ((some s32.2.1)) fun a40 =>
        ocv (call 103 [va_rf (some s32.2.1), va_rf (some s18.2.1)] s38) fun s42 =>
        obn (oob s42 (some s32.2.1) 9) fun a45 =>
        ocv (call 145 [va_rf (some s32.2.1)] s42) fun s47 =>
        obn (ovi (ofd s47 (some s32.2.1) 9 15)) fun v50 =>
        if v50 < 0 then
          obn (ovi (ofd s47 (some s32.2.1) 9 16)) fun v53 =>
          if v53 < 0 then
            olet (onew s47 (.inr (12, odef 12)) (oq 12).2.2) fun s56 =>
            obn (ovi (ofd s56 (some s18.2.1) 13 4)) fun v58 =>
            obn ((some s47.2.1)) fun a60 =>
            ocv (call 147 [va_rf (some s47.2.1), .int v58] s56) fun s62 =>
            obn (oob s62 (some s47.2.1) 12) fun a65 =>
            ocv (call 162 [va_rf (some s47.2.1), va_rf (some s32.2.1)] s62) fun s67 =>
            obn (ovi (ofd s67 (some s47.2.1) 12 8)) fun v70 =>
            if v70 < 0 then
              obn (ovi (ofd s67 (some s47.2.1) 12 9)) fun v73 =>
              obn (oob s67 (some s32.2.1) 9) fun a75 =>
              ocv (call 122 [va_rf (some s32.2.1), .int v73] s67) fun s77 =>
              obn (ovi (ofd s77 (some s32.2.1) 9 17)) fun v80 =>
              if v80 < 0 then
                obn (opf s77 x0 14 2 (va_rf (some s32.2.1))) fun s83 =>
                obn (opf s83 x0 14 3 (va_rf (some s47.2.1))) fun s85 =>
                obn (ovr (ofd s85 x0 14 12)) fun v87 =>
                obn (ovr (ofd s85 (some s32.2.1) 9 10)) fun v89 =>
                obn (ovi (ofd s85 v89 7 8)) fun v91 =>
                obn (oob s85 (some s47.2.1) 12) fun a93 =>
                oin (call 22 [va_rf (some s47.2.1), .int v91] s85) fun r97 s95 =>
                obn (oob s95 v87 5) fun a98 =>
                ocv (call 73 [va_rf v87, va_rf (some s32.2.1), .int r97] s95) fun s100 =>
                some (some (.int 0), s100)
              else
                obn (ovi (ofd s77 (some s32.2.1) 9 17)) fun v103 =>
                obn (oob s77 x0 14) fun a105 =>
                oin (call 177 [va_rf x0, .int 5, .int v103] s77) fun r109 s107 =>
                some (some (.int r109), s107)
            else
              obn (ovi (ofd s67 (some s47.2.1) 12 8)) fun v110 =>
              obn (oob s67 x0 14) fun a112 =>
              oin (call 177 [va_rf x0, .int 4, .int v110] s67) fun r116 s114 =>
              some (some (.int r116), s114)
          else
            obn (ovi (ofd s47 (some s32.2.1) 9 16)) fun v117 =>
            obn (oob s47 x0 14) fun a119 =>
            oin (call 177 [va_rf x0, .int 3, .int v117] s47) fun r123 s121 =>
            some (some (.int r123), s121)
        else
          obn (ovi (ofd s47 (some s32.2.1) 9 15)) fun v124 =>
          obn (oob s47 x0 14) fun a126 =>
          oin (call 177 [va_rf x0, .int 2, .int v124] s47) fun r130 s128 =>
          some (some (.int r130), s128)
      else
        obn (ovi (ofd s32 (some s18.2.1) 13 5)) fun v131 =>
        obn (oob s32 x0 14) fun a133 =>
        oin (call 177 [va_rf x0, .int 1, .int v131] s32) fun r137 s135 =>
        some (some (.int r137), s135)
    else
      obn (ovr (ofd σ x0 14 0)) fun v138 =>
      obn (oai σ v138 .byte x2) fun v140 =>
      obn (osi σ x1 .char x2 (vp_nar .char (((v140 &&& 255).toUInt32 % 65536).toInt32))) fun s142 =>
      ol_X12_compile_9 n call κ f x0 x1 (x2 + 1) s142
def ob_X12_compile (n : Nat) (call : oCl) (κ : oKv) (x0 : Option Nat) (σ : oSt) : oRs :=
  obn (ovi (ofd σ x0 14 1)) fun v1 =>
  ogd (onn v1) (
  olet (onew σ (.inl (.char, v1.toNatClampNeg, .inl (fun _ => 0))) v1.toNatClampNeg) fun s3 =>
  ol_X12_compile_9 n call κ n x0 (some σ.2.1) 0 s3)
set_option maxHeartbeats 4000000 in
theorem ql_X12_compile_9 {κ : oKv} {n : Nat} {call : oCl} {kc : Nat → List Value → oSt → Option Value × oSt → Prop} {v : Option Value × oSt} {X : Nat → zLv → List Value → oSt → Prop} (hX : oSem RX12 cX12_compile 5 0 (some .int) κ kc v X) (hc : ∀ j av s w, call j av s = some w → kc j av s w) : ∀ (f : Nat) (x0 : Option Nat) (x1 : Option Nat) (x2 : Int32) (σ : oSt), ol_X12_compile_9 n call κ f x0 x1 x2 σ = some v → X 9 [some (va_rf x0), some (va_rf x1), some (.int x2), none, none] [] σ := by
  intro f
  induction f with
  | zero => intro x0 x1 x2 σ h; cases h
  | succ f hk9 =>
    intro x0 x1 x2 σ h
    rw [ol_X12_compile_9] at h
    refine os_iload_n hX dX12_compile_9 rfl rfl ?_
    refine os_aload_n (r := x0) hX dX12_compile_10 rfl rfl ?_
    obtain ⟨v1, e2, h⟩ := obn_e h
    refine ow_get (r := x0) hX dX12_compile_11 oF_RX12_44 (ovi_e e2) ?_
    refine os_icmp_ge (tgt := 37) hX dX12_compile_14 (by decide) (fun c3 => ?_) (fun c3 => ?_)
    · rw [if_pos c3] at h
      refine os_aload_n (r := x0) hX dX12_compile_37 rfl rfl ?_
      refine os_iconst (v := 0) hX dX12_compile_38 (by decide) ?_
      obtain ⟨s4, e5, h⟩ := obn_e h
      refine ow_put (r := x0) (x := .int 0) hX dX12_compile_39 oF_RX12_44 (by decide) (opn_I oT_14_1) e5 ?_
      refine os_aload_n (r := x0) hX dX12_compile_42 rfl rfl ?_
      refine os_null hX dX12_compile_43 ?_
      obtain ⟨s6, e7, h⟩ := obn_e h
      refine ow_put (r := x0) (x := va_rf none) hX dX12_compile_44 oF_RX12_51 (by decide) (orf_n (Or.inl ⟨_, oT_14_2⟩) none) e7 ?_
      refine os_aload_n (r := x0) hX dX12_compile_47 rfl rfl ?_
      refine os_null hX dX12_compile_48 ?_
      obtain ⟨s8, e9, h⟩ := obn_e h
      refine ow_put (r := x0) (x := va_rf none) hX dX12_compile_49 oF_RX12_55 (by decide) (orf_n (Or.inl ⟨_, oT_14_3⟩) none) e9 ?_
      refine os_aload_n (r := x0) hX dX12_compile_52 rfl rfl ?_
      refine os_null hX dX12_compile_53 ?_
      obtain ⟨s10, e11, h⟩ := obn_e h
      refine ow_put (r := x0) (x := va_rf none) hX dX12_compile_54 oF_RX12_59 (by decide) (orf_n (Or.inl ⟨_, oT_14_4⟩) none) e11 ?_
      refine os_aload_n (r := x0) hX dX12_compile_57 rfl rfl ?_
      refine os_iconst (v := (-1)) hX dX12_compile_58 (by decide) ?_
      obtain ⟨s12, e13, h⟩ := obn_e h
      refine ow_put (r := x0) (x := .int (-1)) hX dX12_compile_59 oF_RX12_13 (by decide) (opn_I oT_14_5) e13 ?_
      refine os_aload_n (r := x0) hX dX12_compile_62 rfl rfl ?_
      obtain ⟨v14, e15, h⟩ := obn_e h
      refine ow_get (r := x0) hX dX12_compile_63 oF_RX12_40 (ovr_e e15) ?_
      obtain ⟨a16, e17, h⟩ := obn_e h
      obtain ⟨s18, e19, h⟩ := ocv_e h
      refine oc_RX12_63 (rb := v14)  hX dX12_compile_66 (Nat.le_of_ble_eq_true rfl) e17 (hc _ _ _ _ e19) ?_
      obtain ⟨s21, e22, h⟩ := olet_e h
      refine os_new hX dX12_compile_69 oN_RX12_66 ?_
      rw [← e22]
      refine os_dup hX dX12_compile_72 (ocat (some s18.2.1)) ?_
      obtain ⟨s23, e24, h⟩ := olet_e h
      refine os_new hX dX12_compile_73 oN_RX12_68 ?_
      rw [← e24]
      refine os_dup hX dX12_compile_76 (ocat (some s21.2.1)) ?_
      refine os_aload_n (r := x1) hX dX12_compile_77 rfl rfl ?_
      obtain ⟨a25, e26, h⟩ := obn_e h
      obtain ⟨s27, e28, h⟩ := ocv_e h
      refine oc_RX12_70 (rb := (some s21.2.1)) (a1 := va_rf x1) hX dX12_compile_78 (by simp only [List.map_cons, List.map_nil, List.sum_cons, List.sum_nil, ocat]; exact Nat.le_of_ble_eq_true rfl) e26 (hc _ _ _ _ e28) ?_
      obtain ⟨a30, e31, h⟩ := obn_e h
      obtain ⟨s32, e33, h⟩ := ocv_e h
      refine oc_RX12_73 (rb := (some s18.2.1)) (a1 := va_rf (some s21.2.1)) hX dX12_compile_81 (by simp only [List.map_cons, List.map_nil, List.sum_cons, List.sum_nil, ocat]; exact Nat.le_of_ble_eq_true rfl) e31 (hc _ _ _ _ e33) ?_
      refine os_astore_n (r := (some s18.2.1)) hX dX12_compile_84 rfl (by decide) (ozlo (i := 1) (r := x1) rfl) ?_
      dsimp only [List.set]
      refine os_aload_n (r := (some s18.2.1)) hX dX12_compile_85 rfl rfl ?_
      obtain ⟨v35, e36, h⟩ := obn_e h
      refine ow_get (r := (some s18.2.1)) hX dX12_compile_86 oF_RX12_76 (ovi_e e36) ?_
      refine os_if_lt (tgt := 102) hX dX12_compile_89 (by decide) (fun c37 => ?_) (fun c37 => ?_)
      · rw [if_pos c37] at h
        obtain ⟨s38, e39, h⟩ := olet_e h
        refine os_new hX dX12_compile_102 oN_RX12_83 ?_
        rw [← e39]
        refine os_dup hX dX12_compile_105 (ocat (some s32.2.1)) ?_
        refine os_aload_n (r := (some s18.2.1)) hX dX12_compile_106 rfl rfl ?_
        obtain ⟨a40, e41, h⟩ := obn_e h
        obtain ⟨s42, e43, h⟩ := ocv_e h
        refine oc_RX12_85 (rb := (some s32.2.1)) (a1 := va_rf (some s18.2.1)) hX dX12_compile_107 (by simp only [List.map_cons, List.map_nil, List.sum_cons, List.sum_nil, ocat]; exact Nat.le_of_ble_eq_true rfl) e41 (hc _ _ _ _ e43) ?_
        refine os_astore_n (r := (some s32.2.1)) hX dX12_compile_110 rfl (by decide) (ozlo (i := 2) (r := (some s18.2.1)) rfl) ?_
        dsimp only [List.set]
        refine os_aload_n (r := (some s32.2.1)) hX dX12_compile_111 rfl rfl ?_
        obtain ⟨a45, e46, h⟩ := obn_e h
        obtain ⟨s47, e48, h⟩ := ocv_e h
        refine oc_RX12_88 (rb := (some s32.2.1))  hX dX12_compile_112 (Nat.le_of_ble_eq_true rfl) e46 (hc _ _ _ _ e48) ?_
        refine os_aload_n (r := (some s32.2.1)) hX dX12_compile_115 rfl rfl ?_
        obtain ⟨v50, e51, h⟩ := obn_e h
        refine ow_get (r := (some s32.2.1)) hX dX12_compile_116 oF_RX12_91 (ovi_e e51) ?_
        refine os_if_lt (tgt := 132) hX dX12_compile_119 (by decide) (fun c52 => ?_) (fun c52 => ?_)
        · rw [if_pos c52] at h
          refine os_aload_n (r := (some s32.2.1)) hX dX12_compile_132 rfl rfl ?_
          obtain ⟨v53, e54, h⟩ := obn_e h
          refine ow_get (r := (some s32.2.1)) hX dX12_compile_133 oF_RX12_93 (ovi_e e54) ?_
          refine os_if_lt (tgt := 149) hX dX12_compile_136 (by decide) (fun c55 => ?_) (fun c55 => ?_)
          · rw [if_pos c55] at h
            obtain ⟨s56, e57, h⟩ := olet_e h
            refine os_new hX dX12_compile_149 oN_RX12_96 ?_
            rw [← e57]
            refine os_dup hX dX12_compile_152 (ocat (some s47.2.1)) ?_
            refine os_aload_n (r := (some s18.2.1)) hX dX12_compile_153 rfl rfl ?_
            obtain ⟨v58, e59, h⟩ := obn_e h
            refine ow_get (r := (some s18.2.1)) hX dX12_compile_154 oF_RX12_98 (ovi_e e59) ?_
            obtain ⟨a60, e61, h⟩ := obn_e h
            obtain ⟨s62, e63, h⟩ := ocv_e h
            refine oc_RX12_101 (rb := (some s47.2.1)) (a1 := .int v58) hX dX12_compile_157 (by simp only [List.map_cons, List.map_nil, List.sum_cons, List.sum_nil, ocat]; exact Nat.le_of_ble_eq_true rfl) e61 (hc _ _ _ _ e63) ?_
            refine os_astore (r := (some s47.2.1)) hX dX12_compile_160 (by decide) (ozlo (i := 3) (r := (some s32.2.1)) rfl) ?_
            dsimp only [List.set]
            refine os_aload (r := (some s47.2.1)) hX dX12_compile_162 rfl ?_
            refine os_aload_n (r := (some s32.2.1)) hX dX12_compile_164 rfl rfl ?_
            obtain ⟨a65, e66, h⟩ := obn_e h
            obtain ⟨s67, e68, h⟩ := ocv_e h
            refine oc_RX12_103 (rb := (some s47.2.1)) (a1 := va_rf (some s32.2.1)) hX dX12_compile_165 (Nat.le_of_ble_eq_true rfl) e66 (hc _ _ _ _ e68) ?_
            refine os_aload (r := (some s47.2.1)) hX dX12_compile_168 rfl ?_
            obtain ⟨v70, e71, h⟩ := obn_e h
            refine ow_get (r := (some s47.2.1)) hX dX12_compile_170 oF_RX12_107 (ovi_e e71) ?_
            refine os_if_lt (tgt := 187) hX dX12_compile_173 (by decide) (fun c72 => ?_) (fun c72 => ?_)
            · rw [if_pos c72] at h
              refine os_aload_n (r := (some s32.2.1)) hX dX12_compile_187 rfl rfl ?_
              refine os_aload (r := (some s47.2.1)) hX dX12_compile_188 rfl ?_
              obtain ⟨v73, e74, h⟩ := obn_e h
              refine ow_get (r := (some s47.2.1)) hX dX12_compile_190 oF_RX12_108 (ovi_e e74) ?_
              obtain ⟨a75, e76, h⟩ := obn_e h
              obtain ⟨s77, e78, h⟩ := ocv_e h
              refine oc_RX12_111 (rb := (some s32.2.1)) (a1 := .int v73) hX dX12_compile_193 (Nat.le_of_ble_eq_true rfl) e76 (hc _ _ _ _ e78) ?_
              refine os_aload_n (r := (some s32.2.1)) hX dX12_compile_196 rfl rfl ?_
              obtain ⟨v80, e81, h⟩ := obn_e h
              refine ow_get (r := (some s32.2.1)) hX dX12_compile_197 oF_RX12_114 (ovi_e e81) ?_
              refine os_if_lt (tgt := 213) hX dX12_compile_200 (by decide) (fun c82 => ?_) (fun c82 => ?_)
              · rw [if_pos c82] at h
                refine os_aload_n (r := x0) hX dX12_compile_213 rfl rfl ?_
                refine os_aload_n (r := (some s32.2.1)) hX dX12_compile_214 rfl rfl ?_
                obtain ⟨s83, e84, h⟩ := obn_e h
                refine ow_put (r := x0) (x := va_rf (some s32.2.1)) hX dX12_compile_215 oF_RX12_51 (by decide) (orf_n (Or.inl ⟨_, oT_14_2⟩) (some s32.2.1)) e84 ?_
                refine os_aload_n (r := x0) hX dX12_compile_218 rfl rfl ?_
                refine os_aload (r := (some s47.2.1)) hX dX12_compile_219 rfl ?_
                obtain ⟨s85, e86, h⟩ := obn_e h
                refine ow_put (r := x0) (x := va_rf (some s47.2.1)) hX dX12_compile_221 oF_RX12_55 (by decide) (orf_n (Or.inl ⟨_, oT_14_3⟩) (some s47.2.1)) e86 ?_
                refine os_aload_n (r := x0) hX dX12_compile_224 rfl rfl ?_
                obtain ⟨v87, e88, h⟩ := obn_e h
                refine ow_get (r := x0) hX dX12_compile_225 oF_RX12_40 (ovr_e e88) ?_
                refine os_aload_n (r := (some s32.2.1)) hX dX12_compile_228 rfl rfl ?_
                refine os_aload (r := (some s47.2.1)) hX dX12_compile_229 rfl ?_
                refine os_aload_n (r := (some s32.2.1)) hX dX12_compile_231 rfl rfl ?_
                obtain ⟨v89, e90, h⟩ := obn_e h
                refine ow_get (r := (some s32.2.1)) hX dX12_compile_232 oF_RX12_117 (ovr_e e90) ?_
                obtain ⟨v91, e92, h⟩ := obn_e h
                refine ow_get (r := v89) hX dX12_compile_235 oF_RX12_121 (ovi_e e92) ?_
                obtain ⟨a93, e94, h⟩ := obn_e h
                obtain ⟨r97, s95, e96, h⟩ := oin_e h
                refine oc_RX12_126 (rb := (some s47.2.1)) (a1 := .int v91) hX dX12_compile_238 (by simp only [List.map_cons, List.map_nil, List.sum_cons, List.sum_nil, ocat]; exact Nat.le_of_ble_eq_true rfl) e94 (hc _ _ _ _ e96) ?_
                obtain ⟨a98, e99, h⟩ := obn_e h
                obtain ⟨s100, e101, h⟩ := ocv_e h
                refine oc_RX12_130 (rb := v87) (a1 := va_rf (some s32.2.1)) (a2 := .int r97) hX dX12_compile_241 (Nat.le_of_ble_eq_true rfl) e99 (hc _ _ _ _ e101) ?_
                refine os_iconst (v := 0) hX dX12_compile_244 (by decide) ?_
                exact os_iret hX dX12_compile_245 rfl (Option.some.inj h)
              · rw [if_neg c82] at h
                refine os_aload_n (r := x0) hX dX12_compile_203 rfl rfl ?_
                refine os_iconst (v := 5) hX dX12_compile_204 (by decide) ?_
                refine os_aload_n (r := (some s32.2.1)) hX dX12_compile_205 rfl rfl ?_
                obtain ⟨v103, e104, h⟩ := obn_e h
                refine ow_get (r := (some s32.2.1)) hX dX12_compile_206 oF_RX12_114 (ovi_e e104) ?_
                obtain ⟨a105, e106, h⟩ := obn_e h
                obtain ⟨r109, s107, e108, h⟩ := oin_e h
                refine oc_RX12_79 (rb := x0) (a1 := .int 5) (a2 := .int v103) hX dX12_compile_209 (Nat.le_of_ble_eq_true rfl) e106 (hc _ _ _ _ e108) ?_
                exact os_iret hX dX12_compile_212 rfl (Option.some.inj h)
            · rw [if_neg c72] at h
              refine os_aload_n (r := x0) hX dX12_compile_176 rfl rfl ?_
              refine os_iconst (v := 4) hX dX12_compile_177 (by decide) ?_
              refine os_aload (r := (some s47.2.1)) hX dX12_compile_178 rfl ?_
              obtain ⟨v110, e111, h⟩ := obn_e h
              refine ow_get (r := (some s47.2.1)) hX dX12_compile_180 oF_RX12_107 (ovi_e e111) ?_
              obtain ⟨a112, e113, h⟩ := obn_e h
              obtain ⟨r116, s114, e115, h⟩ := oin_e h
              refine oc_RX12_79 (rb := x0) (a1 := .int 4) (a2 := .int v110) hX dX12_compile_183 (Nat.le_of_ble_eq_true rfl) e113 (hc _ _ _ _ e115) ?_
              exact os_iret hX dX12_compile_186 rfl (Option.some.inj h)
          · rw [if_neg c55] at h
            refine os_aload_n (r := x0) hX dX12_compile_139 rfl rfl ?_
            refine os_iconst (v := 3) hX dX12_compile_140 (by decide) ?_
            refine os_aload_n (r := (some s32.2.1)) hX dX12_compile_141 rfl rfl ?_
            obtain ⟨v117, e118, h⟩ := obn_e h
            refine ow_get (r := (some s32.2.1)) hX dX12_compile_142 oF_RX12_93 (ovi_e e118) ?_
            obtain ⟨a119, e120, h⟩ := obn_e h
            obtain ⟨r123, s121, e122, h⟩ := oin_e h
            refine oc_RX12_79 (rb := x0) (a1 := .int 3) (a2 := .int v117) hX dX12_compile_145 (Nat.le_of_ble_eq_true rfl) e120 (hc _ _ _ _ e122) ?_
            exact os_iret hX dX12_compile_148 rfl (Option.some.inj h)
        · rw [if_neg c52] at h
          refine os_aload_n (r := x0) hX dX12_compile_122 rfl rfl ?_
          refine os_iconst (v := 2) hX dX12_compile_123 (by decide) ?_
          refine os_aload_n (r := (some s32.2.1)) hX dX12_compile_124 rfl rfl ?_
          obtain ⟨v124, e125, h⟩ := obn_e h
          refine ow_get (r := (some s32.2.1)) hX dX12_compile_125 oF_RX12_91 (ovi_e e125) ?_
          obtain ⟨a126, e127, h⟩ := obn_e h
          obtain ⟨r130, s128, e129, h⟩ := oin_e h
          refine oc_RX12_79 (rb := x0) (a1 := .int 2) (a2 := .int v124) hX dX12_compile_128 (Nat.le_of_ble_eq_true rfl) e127 (hc _ _ _ _ e129) ?_
          exact os_iret hX dX12_compile_131 rfl (Option.some.inj h)
      · rw [if_neg c37] at h
        refine os_aload_n (r := x0) hX dX12_compile_92 rfl rfl ?_
        refine os_iconst (v := 1) hX dX12_compile_93 (by decide) ?_
        refine os_aload_n (r := (some s18.2.1)) hX dX12_compile_94 rfl rfl ?_
        obtain ⟨v131, e132, h⟩ := obn_e h
        refine ow_get (r := (some s18.2.1)) hX dX12_compile_95 oF_RX12_76 (ovi_e e132) ?_
        obtain ⟨a133, e134, h⟩ := obn_e h
        obtain ⟨r137, s135, e136, h⟩ := oin_e h
        refine oc_RX12_79 (rb := x0) (a1 := .int 1) (a2 := .int v131) hX dX12_compile_98 (Nat.le_of_ble_eq_true rfl) e134 (hc _ _ _ _ e136) ?_
        exact os_iret hX dX12_compile_101 rfl (Option.some.inj h)
    · rw [if_neg c3] at h
      refine os_aload_n (r := x1) hX dX12_compile_17 rfl rfl ?_
      refine os_iload_n hX dX12_compile_18 rfl rfl ?_
      refine os_aload_n (r := x0) hX dX12_compile_19 rfl rfl ?_
      obtain ⟨v138, e139, h⟩ := obn_e h
      refine ow_get (r := x0) hX dX12_compile_20 oF_RX12_9 (ovr_e e139) ?_
      refine os_iload_n hX dX12_compile_23 rfl rfl ?_
      obtain ⟨v140, e141, h⟩ := obn_e h
      refine ow_ab (r := v138) (i := x2) hX dX12_compile_24 e141 ?_
      refine os_sipush (v := 255) hX dX12_compile_25 (by decide) ?_
      refine os_iand hX dX12_compile_28 ?_
      refine os_i2c hX dX12_compile_29 ?_
      obtain ⟨s142, e143, h⟩ := obn_e h
      refine ow_sc (r := x1) (i := x2) (x := ((v140 &&& 255).toUInt32 % 65536).toInt32) hX dX12_compile_30 e143 ?_
      refine os_iinc (v := x2 + 1) hX dX12_compile_31 rfl rfl (by decide) (ozlo (i := 1) (r := x1) rfl) ?_
      dsimp only [List.set]
      refine os_goto (tgt := 9) hX dX12_compile_34 (by decide) ?_
      exact hk9 _ _ _ _ h
set_option maxHeartbeats 4000000 in
theorem qb_X12_compile {κ : oKv} {n : Nat} {call : oCl} {kc : Nat → List Value → oSt → Option Value × oSt → Prop} {v : Option Value × oSt} {X : Nat → zLv → List Value → oSt → Prop} (hX : oSem RX12 cX12_compile 5 0 (some .int) κ kc v X) (hc : ∀ j av s w, call j av s = some w → kc j av s w) {x0 : Option Nat} {σ : oSt} (h : ob_X12_compile n call κ x0 σ = some v) : X 0 [some (va_rf x0), none, none, none, none] [] σ := by
  rw [ob_X12_compile] at h
  refine os_aload_n (r := x0) hX dX12_compile_0 rfl rfl ?_
  obtain ⟨v1, e2, h⟩ := obn_e h
  refine ow_get (r := x0) hX dX12_compile_1 oF_RX12_44 (ovi_e e2) ?_
  obtain ⟨b5, h⟩ := ogd_e h
  obtain ⟨s3, e4, h⟩ := olet_e h
  refine os_newC hX dX12_compile_4 (onn_e b5).1 (onn_e b5).2 ?_
  rw [← e4]
  refine os_astore_n (r := (some σ.2.1)) hX dX12_compile_6 rfl (by decide) (ozlo (i := 0) (r := x0) rfl) ?_
  dsimp only [List.set]
  refine os_iconst (v := 0) hX dX12_compile_7 (by decide) ?_
  refine os_istore_n hX dX12_compile_8 rfl (by decide) (ozlo (i := 1) (r := (some σ.2.1)) rfl) ?_
  dsimp only [List.set]
  exact ql_X12_compile_9 hX hc n _ _ _ _ h
def oj_X12_accepted_60 (n : Nat) (call : oCl) (κ : oKv) (x0 : Option Nat) (σ : oSt) : oRs :=
  obn (ovr (ofd σ x0 14 4)) fun v1 =>
  obn (ovi (ofd σ v1 2 9)) fun v3 =>
  obn (opf σ x0 14 5 (.int v3)) fun s5 =>
  obn (ovi (ofd s5 x0 14 5)) fun v7 =>
  if 0 ≤ v7 then
    some (some (.int 0), s5)
  else
    some (some (.int 1), s5)
def ob_X12_accepted (n : Nat) (call : oCl) (κ : oKv) (x0 : Option Nat) (σ : oSt) : oRs :=
  obn (ovr (ofd σ x0 14 2)) fun v1 =>
  if v1 = none then
    some (some (.int (-1)), σ)
  else
    obn (ovr (ofd σ x0 14 4)) fun v4 =>
    if v4 = none then
      olet (onew σ (.inr (2, odef 2)) (oq 2).2.2) fun s7 =>
      obn (ovr (ofd s7 x0 14 2)) fun v9 =>
      obn (ovr (ofd s7 x0 14 3)) fun v11 =>
      obn (ovr (ofd s7 x0 14 11)) fun v13 =>
      obn ((some σ.2.1)) fun a15 =>
      ocv (call 0 [va_rf (some σ.2.1), va_rf v9, va_rf v11, va_rf v13] s7) fun s17 =>
      obn (opf s17 x0 14 4 (va_rf (some σ.2.1))) fun s20 =>
      obn (ovr (ofd s20 x0 14 4)) fun v22 =>
      obn (oob s20 v22 2) fun a24 =>
      ocv (call 37 [va_rf v22] s20) fun s26 =>
      obn (ovr (ofd s26 x0 14 4)) fun v29 =>
      obn (oob s26 v29 2) fun a31 =>
      ocv (call 68 [va_rf v29] s26) fun s33 =>
      obn (ovr (ofd s33 x0 14 4)) fun v36 =>
      obn (oob s33 v36 2) fun a38 =>
      ocv (call 65 [va_rf v36] s33) fun s40 =>
      oj_X12_accepted_60 n call κ x0 s40
    else
      oj_X12_accepted_60 n call κ x0 σ
set_option maxHeartbeats 4000000 in
theorem qj_X12_accepted_60 {κ : oKv} {n : Nat} {call : oCl} {kc : Nat → List Value → oSt → Option Value × oSt → Prop} {v : Option Value × oSt} {X : Nat → zLv → List Value → oSt → Prop} (hX : oSem RX12 cX12_accepted 1 0 (some .int) κ kc v X) (hc : ∀ j av s w, call j av s = some w → kc j av s w) {x0 : Option Nat} {σ : oSt} (h : oj_X12_accepted_60 n call κ x0 σ = some v) : X 60 [some (va_rf x0)] [] σ := by
  rw [oj_X12_accepted_60] at h
  refine os_aload_n (r := x0) hX dX12_accepted_60 rfl rfl ?_
  refine os_aload_n (r := x0) hX dX12_accepted_61 rfl rfl ?_
  obtain ⟨v1, e2, h⟩ := obn_e h
  refine ow_get (r := x0) hX dX12_accepted_62 oF_RX12_59 (ovr_e e2) ?_
  obtain ⟨v3, e4, h⟩ := obn_e h
  refine ow_get (r := v1) hX dX12_accepted_65 oF_RX12_148 (ovi_e e4) ?_
  obtain ⟨s5, e6, h⟩ := obn_e h
  refine ow_put (r := x0) (x := .int v3) hX dX12_accepted_68 oF_RX12_13 (by decide) (opn_I oT_14_5) e6 ?_
  refine os_aload_n (r := x0) hX dX12_accepted_71 rfl rfl ?_
  obtain ⟨v7, e8, h⟩ := obn_e h
  refine ow_get (r := x0) hX dX12_accepted_72 oF_RX12_13 (ovi_e e8) ?_
  refine os_if_ge (tgt := 82) hX dX12_accepted_75 (by decide) (fun c9 => ?_) (fun c9 => ?_)
  · rw [if_pos c9] at h
    refine os_iconst (v := 0) hX dX12_accepted_82 (by decide) ?_
    exact os_iret hX dX12_accepted_83 rfl (Option.some.inj h)
  · rw [if_neg c9] at h
    refine os_iconst (v := 1) hX dX12_accepted_78 (by decide) ?_
    refine os_goto (tgt := 83) hX dX12_accepted_79 (by decide) ?_
    exact os_iret hX dX12_accepted_83 rfl (Option.some.inj h)
set_option maxHeartbeats 4000000 in
theorem qb_X12_accepted {κ : oKv} {n : Nat} {call : oCl} {kc : Nat → List Value → oSt → Option Value × oSt → Prop} {v : Option Value × oSt} {X : Nat → zLv → List Value → oSt → Prop} (hX : oSem RX12 cX12_accepted 1 0 (some .int) κ kc v X) (hc : ∀ j av s w, call j av s = some w → kc j av s w) {x0 : Option Nat} {σ : oSt} (h : ob_X12_accepted n call κ x0 σ = some v) : X 0 [some (va_rf x0)] [] σ := by
  rw [ob_X12_accepted] at h
  refine os_aload_n (r := x0) hX dX12_accepted_0 rfl rfl ?_
  obtain ⟨v1, e2, h⟩ := obn_e h
  refine ow_get (r := x0) hX dX12_accepted_1 oF_RX12_51 (ovr_e e2) ?_
  refine os_ifnonnull (r := v1) (tgt := 9) hX dX12_accepted_4 (by decide) (fun c3 => ?_) (fun c3 => ?_)
  · rw [if_neg c3] at h
    refine os_aload_n (r := x0) hX dX12_accepted_9 rfl rfl ?_
    obtain ⟨v4, e5, h⟩ := obn_e h
    refine ow_get (r := x0) hX dX12_accepted_10 oF_RX12_59 (ovr_e e5) ?_
    refine os_ifnonnull (r := v4) (tgt := 60) hX dX12_accepted_13 (by decide) (fun c6 => ?_) (fun c6 => ?_)
    · rw [if_neg c6] at h
      exact qj_X12_accepted_60 hX hc h
    · rw [if_pos c6] at h
      refine os_aload_n (r := x0) hX dX12_accepted_16 rfl rfl ?_
      obtain ⟨s7, e8, h⟩ := olet_e h
      refine os_new hX dX12_accepted_17 oN_RX12_134 ?_
      rw [← e8]
      refine os_dup hX dX12_accepted_20 (ocat (some σ.2.1)) ?_
      refine os_aload_n (r := x0) hX dX12_accepted_21 rfl rfl ?_
      obtain ⟨v9, e10, h⟩ := obn_e h
      refine ow_get (r := x0) hX dX12_accepted_22 oF_RX12_51 (ovr_e e10) ?_
      refine os_aload_n (r := x0) hX dX12_accepted_25 rfl rfl ?_
      obtain ⟨v11, e12, h⟩ := obn_e h
      refine ow_get (r := x0) hX dX12_accepted_26 oF_RX12_55 (ovr_e e12) ?_
      refine os_aload_n (r := x0) hX dX12_accepted_29 rfl rfl ?_
      obtain ⟨v13, e14, h⟩ := obn_e h
      refine ow_get (r := x0) hX dX12_accepted_30 oF_RX12_33 (ovr_e e14) ?_
      obtain ⟨a15, e16, h⟩ := obn_e h
      obtain ⟨s17, e18, h⟩ := ocv_e h
      refine oc_RX12_136 (rb := (some σ.2.1)) (a1 := va_rf v9) (a2 := va_rf v11) (a3 := va_rf v13) hX dX12_accepted_33 (by simp only [List.map_cons, List.map_nil, List.sum_cons, List.sum_nil, ocat]; exact Nat.le_of_ble_eq_true rfl) e16 (hc _ _ _ _ e18) ?_
      obtain ⟨s20, e21, h⟩ := obn_e h
      refine ow_put (r := x0) (x := va_rf (some σ.2.1)) hX dX12_accepted_36 oF_RX12_59 (by decide) (orf_n (Or.inl ⟨_, oT_14_4⟩) (some σ.2.1)) e21 ?_
      refine os_aload_n (r := x0) hX dX12_accepted_39 rfl rfl ?_
      obtain ⟨v22, e23, h⟩ := obn_e h
      refine ow_get (r := x0) hX dX12_accepted_40 oF_RX12_59 (ovr_e e23) ?_
      obtain ⟨a24, e25, h⟩ := obn_e h
      obtain ⟨s26, e27, h⟩ := ocv_e h
      refine oc_RX12_139 (rb := v22)  hX dX12_accepted_43 (Nat.le_of_ble_eq_true rfl) e25 (hc _ _ _ _ e27) ?_
      refine os_aload_n (r := x0) hX dX12_accepted_46 rfl rfl ?_
      obtain ⟨v29, e30, h⟩ := obn_e h
      refine ow_get (r := x0) hX dX12_accepted_47 oF_RX12_59 (ovr_e e30) ?_
      obtain ⟨a31, e32, h⟩ := obn_e h
      obtain ⟨s33, e34, h⟩ := ocv_e h
      refine oc_RX12_142 (rb := v29)  hX dX12_accepted_50 (Nat.le_of_ble_eq_true rfl) e32 (hc _ _ _ _ e34) ?_
      refine os_aload_n (r := x0) hX dX12_accepted_53 rfl rfl ?_
      obtain ⟨v36, e37, h⟩ := obn_e h
      refine ow_get (r := x0) hX dX12_accepted_54 oF_RX12_59 (ovr_e e37) ?_
      obtain ⟨a38, e39, h⟩ := obn_e h
      obtain ⟨s40, e41, h⟩ := ocv_e h
      refine oc_RX12_145 (rb := v36)  hX dX12_accepted_57 (Nat.le_of_ble_eq_true rfl) e39 (hc _ _ _ _ e41) ?_
      exact qj_X12_accepted_60 hX hc h
  · rw [if_pos c3] at h
    refine os_iconst (v := (-1)) hX dX12_accepted_7 (by decide) ?_
    exact os_iret hX dX12_accepted_8 rfl (Option.some.inj h)
def ob_X12_place (n : Nat) (call : oCl) (κ : oKv) (x0 : Option Nat) (σ : oSt) : oRs :=
  obn (ovi (ofd σ x0 14 5)) fun v1 =>
  some (some (.int v1), σ)
set_option maxHeartbeats 4000000 in
theorem qb_X12_place {κ : oKv} {n : Nat} {call : oCl} {kc : Nat → List Value → oSt → Option Value × oSt → Prop} {v : Option Value × oSt} {X : Nat → zLv → List Value → oSt → Prop} (hX : oSem RX12 cX12_place 1 0 (some .int) κ kc v X) (hc : ∀ j av s w, call j av s = some w → kc j av s w) {x0 : Option Nat} {σ : oSt} (h : ob_X12_place n call κ x0 σ = some v) : X 0 [some (va_rf x0)] [] σ := by
  rw [ob_X12_place] at h
  refine os_aload_n (r := x0) hX dX12_place_0 rfl rfl ?_
  obtain ⟨v1, e2, h⟩ := obn_e h
  refine ow_get (r := x0) hX dX12_place_1 oF_RX12_13 (ovi_e e2) ?_
  exact os_iret hX dX12_place_4 rfl (Option.some.inj h)
def oj_X12_put__68 (n : Nat) (call : oCl) (κ : oKv) (x0 : Option Nat) (σ : oSt) : oRs :=
  obn (ovi (ofd σ x0 14 9)) fun v1 =>
  obn (opf σ x0 14 9 (.int (v1 + 1))) fun s3 =>
  some (none, s3)
def oj_X12_put__45 (n : Nat) (call : oCl) (κ : oKv) (x0 : Option Nat) (x1 : Int32) (σ : oSt) : oRs :=
  obn (ovi (ofd σ x0 14 9)) fun v1 =>
  obn (ovr (ofd σ x0 14 7)) fun v3 =>
  obn (oln2 κ σ v3) fun v5 =>
  if v5 ≤ v1 then
    oj_X12_put__68 n call κ x0 σ
  else
    obn (ovr (ofd σ x0 14 7)) fun v8 =>
    obn (ovi (ofd σ x0 14 9)) fun v10 =>
    obn (osi σ v8 .byte v10 (vp_nar .byte x1.toInt8.toInt32)) fun s12 =>
    oj_X12_put__68 n call κ x0 s12
def ob_X12_put_ (n : Nat) (call : oCl) (κ : oKv) (x0 : Option Nat) (x1 : Int32) (σ : oSt) : oRs :=
  obn (ovi (ofd σ x0 14 9)) fun v1 =>
  obn (ovr (ofd σ x0 14 7)) fun v3 =>
  obn (oln2 κ σ v3) fun v5 =>
  if v1 = v5 then
    obn (ovi (ofd σ x0 14 9)) fun v8 =>
    if 16000 ≤ v8 then
      oj_X12_put__45 n call κ x0 x1 σ
    else
      obn (ovr (ofd σ x0 14 7)) fun v11 =>
      obn (ovi (ofd σ x0 14 9)) fun v13 =>
      orn (call 240 [va_rf v11, .int ((if 16000 < (2 * v13) then 16000 else (2 * v13)))] σ) fun r17 s15 =>
      obn (opf s15 x0 14 7 (va_rf r17)) fun s18 =>
      oj_X12_put__45 n call κ x0 x1 s18
  else
    oj_X12_put__45 n call κ x0 x1 σ
set_option maxHeartbeats 4000000 in
theorem qj_X12_put__68 {κ : oKv} {n : Nat} {call : oCl} {kc : Nat → List Value → oSt → Option Value × oSt → Prop} {v : Option Value × oSt} {X : Nat → zLv → List Value → oSt → Prop} (hX : oSem RX12 cX12_put_ 2 0 none κ kc v X) (hc : ∀ j av s w, call j av s = some w → kc j av s w) {x0 : Option Nat} {σ : oSt} (h : oj_X12_put__68 n call κ x0 σ = some v) : X 68 [some (va_rf x0), none] [] σ := by
  rw [oj_X12_put__68] at h
  refine os_aload_n (r := x0) hX dX12_put__68 rfl rfl ?_
  refine os_dup hX dX12_put__69 (ocat x0) ?_
  obtain ⟨v1, e2, h⟩ := obn_e h
  refine ow_get (r := x0) hX dX12_put__70 oF_RX12_158 (ovi_e e2) ?_
  refine os_iconst (v := 1) hX dX12_put__73 (by decide) ?_
  refine os_iadd hX dX12_put__74 ?_
  obtain ⟨s3, e4, h⟩ := obn_e h
  refine ow_put (r := x0) (x := .int (v1 + 1)) hX dX12_put__75 oF_RX12_158 (by decide) (opn_I oT_14_9) e4 ?_
  exact os_vret hX dX12_put__78 rfl (Option.some.inj h)
set_option maxHeartbeats 4000000 in
theorem qj_X12_put__45 {κ : oKv} {n : Nat} {call : oCl} {kc : Nat → List Value → oSt → Option Value × oSt → Prop} {v : Option Value × oSt} {X : Nat → zLv → List Value → oSt → Prop} (hX : oSem RX12 cX12_put_ 2 0 none κ kc v X) (hc : ∀ j av s w, call j av s = some w → kc j av s w) {x0 : Option Nat} {x1 : Int32} {σ : oSt} (h : oj_X12_put__45 n call κ x0 x1 σ = some v) : X 45 [some (va_rf x0), some (.int x1)] [] σ := by
  rw [oj_X12_put__45] at h
  refine os_aload_n (r := x0) hX dX12_put__45 rfl rfl ?_
  obtain ⟨v1, e2, h⟩ := obn_e h
  refine ow_get (r := x0) hX dX12_put__46 oF_RX12_158 (ovi_e e2) ?_
  refine os_aload_n (r := x0) hX dX12_put__49 rfl rfl ?_
  obtain ⟨v3, e4, h⟩ := obn_e h
  refine ow_get (r := x0) hX dX12_put__50 oF_RX12_20 (ovr_e e4) ?_
  obtain ⟨v5, e6, h⟩ := obn_e h
  refine ow_len (r := v3) hX dX12_put__53 e6 ?_
  refine os_icmp_ge (tgt := 68) hX dX12_put__54 (by decide) (fun c7 => ?_) (fun c7 => ?_)
  · rw [if_pos c7] at h
    refine os_weak hX (lw := [some (va_rf x0), none]) ⟨rfl, trivial⟩ ?_
    exact qj_X12_put__68 hX hc h
  · rw [if_neg c7] at h
    refine os_aload_n (r := x0) hX dX12_put__57 rfl rfl ?_
    obtain ⟨v8, e9, h⟩ := obn_e h
    refine ow_get (r := x0) hX dX12_put__58 oF_RX12_20 (ovr_e e9) ?_
    refine os_aload_n (r := x0) hX dX12_put__61 rfl rfl ?_
    obtain ⟨v10, e11, h⟩ := obn_e h
    refine ow_get (r := x0) hX dX12_put__62 oF_RX12_158 (ovi_e e11) ?_
    refine os_iload_n hX dX12_put__65 rfl rfl ?_
    refine os_i2b hX dX12_put__66 ?_
    obtain ⟨s12, e13, h⟩ := obn_e h
    refine ow_sb (r := v8) (i := v10) (x := x1.toInt8.toInt32) hX dX12_put__67 e13 ?_
    refine os_weak hX (lw := [some (va_rf x0), none]) ⟨rfl, trivial⟩ ?_
    exact qj_X12_put__68 hX hc h
set_option maxHeartbeats 4000000 in
theorem qb_X12_put_ {κ : oKv} {n : Nat} {call : oCl} {kc : Nat → List Value → oSt → Option Value × oSt → Prop} {v : Option Value × oSt} {X : Nat → zLv → List Value → oSt → Prop} (hX : oSem RX12 cX12_put_ 2 0 none κ kc v X) (hc : ∀ j av s w, call j av s = some w → kc j av s w) {x0 : Option Nat} {x1 : Int32} {σ : oSt} (h : ob_X12_put_ n call κ x0 x1 σ = some v) : X 0 [some (va_rf x0), some (.int x1)] [] σ := by
  rw [ob_X12_put_] at h
  refine os_aload_n (r := x0) hX dX12_put__0 rfl rfl ?_
  obtain ⟨v1, e2, h⟩ := obn_e h
  refine ow_get (r := x0) hX dX12_put__1 oF_RX12_158 (ovi_e e2) ?_
  refine os_aload_n (r := x0) hX dX12_put__4 rfl rfl ?_
  obtain ⟨v3, e4, h⟩ := obn_e h
  refine ow_get (r := x0) hX dX12_put__5 oF_RX12_20 (ovr_e e4) ?_
  obtain ⟨v5, e6, h⟩ := obn_e h
  refine ow_len (r := v3) hX dX12_put__8 e6 ?_
  refine os_icmp_ne (tgt := 45) hX dX12_put__9 (by decide) (fun c7 => ?_) (fun c7 => ?_)
  · rw [if_neg c7] at h
    exact qj_X12_put__45 hX hc h
  · rw [if_pos c7] at h
    refine os_aload_n (r := x0) hX dX12_put__12 rfl rfl ?_
    obtain ⟨v8, e9, h⟩ := obn_e h
    refine ow_get (r := x0) hX dX12_put__13 oF_RX12_158 (ovi_e e9) ?_
    refine os_sipush (v := 16000) hX dX12_put__16 (by decide) ?_
    refine os_icmp_ge (tgt := 45) hX dX12_put__19 (by decide) (fun c10 => ?_) (fun c10 => ?_)
    · rw [if_pos c10] at h
      exact qj_X12_put__45 hX hc h
    · rw [if_neg c10] at h
      refine os_aload_n (r := x0) hX dX12_put__22 rfl rfl ?_
      refine os_aload_n (r := x0) hX dX12_put__23 rfl rfl ?_
      obtain ⟨v11, e12, h⟩ := obn_e h
      refine ow_get (r := x0) hX dX12_put__24 oF_RX12_20 (ovr_e e12) ?_
      refine os_iconst (v := 2) hX dX12_put__27 (by decide) ?_
      refine os_aload_n (r := x0) hX dX12_put__28 rfl rfl ?_
      obtain ⟨v13, e14, h⟩ := obn_e h
      refine ow_get (r := x0) hX dX12_put__29 oF_RX12_158 (ovi_e e14) ?_
      refine os_imul hX dX12_put__32 ?_
      refine os_sipush (v := 16000) hX dX12_put__33 (by decide) ?_
      refine os_mmin hX dX12_put__36 ommin_RX12_294 (by simp only [List.map_cons, List.map_nil, List.sum_cons, List.sum_nil, ocat]; exact Nat.le_of_ble_eq_true rfl) ?_
      obtain ⟨r17, s15, e16, h⟩ := orn_e h
      refine oc_RX12_297 (a1 := va_rf v11) (a2 := .int ((if 16000 < (2 * v13) then 16000 else (2 * v13)))) hX dX12_put__39 (by simp only [List.map_cons, List.map_nil, List.sum_cons, List.sum_nil, ocat]; exact Nat.le_of_ble_eq_true rfl) (hc _ _ _ _ e16) ?_
      obtain ⟨s18, e19, h⟩ := obn_e h
      refine ow_put (r := x0) (x := va_rf r17) hX dX12_put__42 oF_RX12_20 (by decide) (orf_n (Or.inr ⟨_, oT_14_7⟩) r17) e19 ?_
      exact qj_X12_put__45 hX hc h
def ol_X12_put_2 (n : Nat) (call : oCl) (κ : oKv) : Nat → Option Nat → Option Nat → Int32 → oSt → oRs
  | 0, _, _, _, _ => none
  | f + 1, x0, x1, x2, σ =>
    obn (oSt' κ σ x1) fun a1 =>
    oin (call 207 [va_rf x1] σ) fun r5 s3 =>
    if r5 ≤ x2 then
      some (none, s3)
    else
      obn (oSt' κ s3 x1) fun a7 =>
      oin (call 201 [va_rf x1, .int x2] s3) fun r11 s9 =>
      obn (oob s9 x0 14) fun a12 =>
      ocv (call 181 [va_rf x0, .int r11] s9) fun s14 =>
      ol_X12_put_2 n call κ f x0 x1 (x2 + 1) s14
def ob_X12_put (n : Nat) (call : oCl) (κ : oKv) (x0 : Option Nat) (x1 : Option Nat) (σ : oSt) : oRs :=
  ol_X12_put_2 n call κ n x0 x1 0 σ
set_option maxHeartbeats 4000000 in
theorem ql_X12_put_2 {κ : oKv} {n : Nat} {call : oCl} {kc : Nat → List Value → oSt → Option Value × oSt → Prop} {v : Option Value × oSt} {X : Nat → zLv → List Value → oSt → Prop} (hX : oSem RX12 cX12_put 3 0 none κ kc v X) (hc : ∀ j av s w, call j av s = some w → kc j av s w) : ∀ (f : Nat) (x0 : Option Nat) (x1 : Option Nat) (x2 : Int32) (σ : oSt), ol_X12_put_2 n call κ f x0 x1 x2 σ = some v → X 2 [some (va_rf x0), some (va_rf x1), some (.int x2)] [] σ := by
  intro f
  induction f with
  | zero => intro x0 x1 x2 σ h; cases h
  | succ f hk2 =>
    intro x0 x1 x2 σ h
    rw [ol_X12_put_2] at h
    refine os_iload_n hX dX12_put_2 rfl rfl ?_
    refine os_aload_n (r := x1) hX dX12_put_3 rfl rfl ?_
    obtain ⟨a1, e2, h⟩ := obn_e h
    obtain ⟨r5, s3, e4, h⟩ := oin_e h
    refine oc_RX12_287 (rb := x1)  hX dX12_put_4 (Nat.le_of_ble_eq_true rfl) e2 (hc _ _ _ _ e4) ?_
    refine os_icmp_ge (tgt := 25) hX dX12_put_7 (by decide) (fun c6 => ?_) (fun c6 => ?_)
    · rw [if_pos c6] at h
      exact os_vret hX dX12_put_25 rfl (Option.some.inj h)
    · rw [if_neg c6] at h
      refine os_aload_n (r := x0) hX dX12_put_10 rfl rfl ?_
      refine os_aload_n (r := x1) hX dX12_put_11 rfl rfl ?_
      refine os_iload_n hX dX12_put_12 rfl rfl ?_
      obtain ⟨a7, e8, h⟩ := obn_e h
      obtain ⟨r11, s9, e10, h⟩ := oin_e h
      refine oc_RX12_290 (rb := x1) (a1 := .int x2) hX dX12_put_13 (by simp only [List.map_cons, List.map_nil, List.sum_cons, List.sum_nil, ocat]; exact Nat.le_of_ble_eq_true rfl) e8 (hc _ _ _ _ e10) ?_
      obtain ⟨a12, e13, h⟩ := obn_e h
      obtain ⟨s14, e15, h⟩ := ocv_e h
      refine oc_RX12_201 (rb := x0) (a1 := .int r11) hX dX12_put_16 (Nat.le_of_ble_eq_true rfl) e13 (hc _ _ _ _ e15) ?_
      refine os_iinc (v := x2 + 1) hX dX12_put_19 rfl rfl (by decide) (ozlo (i := 1) (r := x1) rfl) ?_
      dsimp only [List.set]
      refine os_goto (tgt := 2) hX dX12_put_22 (by decide) ?_
      exact hk2 _ _ _ _ h
set_option maxHeartbeats 4000000 in
theorem qb_X12_put {κ : oKv} {n : Nat} {call : oCl} {kc : Nat → List Value → oSt → Option Value × oSt → Prop} {v : Option Value × oSt} {X : Nat → zLv → List Value → oSt → Prop} (hX : oSem RX12 cX12_put 3 0 none κ kc v X) (hc : ∀ j av s w, call j av s = some w → kc j av s w) {x0 : Option Nat} {x1 : Option Nat} {σ : oSt} (h : ob_X12_put n call κ x0 x1 σ = some v) : X 0 [some (va_rf x0), some (va_rf x1), none] [] σ := by
  rw [ob_X12_put] at h
  refine os_iconst (v := 0) hX dX12_put_0 (by decide) ?_
  refine os_istore_n hX dX12_put_1 rfl (by decide) (ozlo (i := 1) (r := x1) rfl) ?_
  dsimp only [List.set]
  exact ql_X12_put_2 hX hc n _ _ _ _ h
def ol_X12_tellNumber_55 (n : Nat) (call : oCl) (κ : oKv) : Nat → Option Nat → Int64 → Int64 → oSt → oRs
  | 0, _, _, _, _ => none
  | f + 1, x0, x3, x5, σ =>
    if (lg_cmp x5 0) ≤ 0 then
      some (none, σ)
    else
      ogd (decide (¬ x5 = 0)) (
      ogd (decide (¬ (10 : Int64) = 0)) (
      obn (oob σ x0 14) fun a4 =>
      ocv (call 181 [va_rf x0, .int ((((48 + ((x3 / x5) - (x3 / x5) / 10 * 10)).toInt32).toUInt32 % 65536).toInt32)] σ) fun s6 =>
      ogd (decide (¬ (10 : Int64) = 0)) (
      ol_X12_tellNumber_55 n call κ f x0 x3 (x5 / 10) s6)))
def ol_X12_tellNumber_23 (n : Nat) (call : oCl) (κ : oKv) : Nat → Option Nat → Int64 → Int64 → Int32 → oSt → oRs
  | 0, _, _, _, _, _ => none
  | f + 1, x0, x3, x5, x7, σ =>
    if 18 ≤ x7 then
      ol_X12_tellNumber_55 n call κ n x0 x3 x5 σ
    else
      ogd (decide (¬ x5 = 0)) (
      if (lg_cmp (x3 / x5) 10) < 0 then
        ol_X12_tellNumber_55 n call κ n x0 x3 x5 σ
      else
        ol_X12_tellNumber_23 n call κ f x0 x3 (x5 * 10) (x7 + 1) σ)
def oj_X12_tellNumber_12 (n : Nat) (call : oCl) (κ : oKv) (x0 : Option Nat) (x1 : Int64) (σ : oSt) : oRs :=
  ol_X12_tellNumber_23 n call κ n x0 ((if 0 < x1 then x1 else -x1)) 1 0 σ
def ob_X12_tellNumber (n : Nat) (call : oCl) (κ : oKv) (x0 : Option Nat) (x1 : Int64) (σ : oSt) : oRs :=
  if 0 ≤ (lg_cmp x1 0) then
    oj_X12_tellNumber_12 n call κ x0 x1 σ
  else
    obn (oob σ x0 14) fun a2 =>
    ocv (call 181 [va_rf x0, .int 45] σ) fun s4 =>
    oj_X12_tellNumber_12 n call κ x0 x1 s4
set_option maxHeartbeats 4000000 in
theorem ql_X12_tellNumber_55 {κ : oKv} {n : Nat} {call : oCl} {kc : Nat → List Value → oSt → Option Value × oSt → Prop} {v : Option Value × oSt} {X : Nat → zLv → List Value → oSt → Prop} (hX : oSem RX12 cX12_tellNumber 8 0 none κ kc v X) (hc : ∀ j av s w, call j av s = some w → kc j av s w) : ∀ (f : Nat) (x0 : Option Nat) (x3 : Int64) (x5 : Int64) (σ : oSt), ol_X12_tellNumber_55 n call κ f x0 x3 x5 σ = some v → X 55 [some (va_rf x0), none, none, some (.long x3), none, some (.long x5), none, none] [] σ := by
  intro f
  induction f with
  | zero => intro x0 x3 x5 σ h; cases h
  | succ f hk55 =>
    intro x0 x3 x5 σ h
    rw [ol_X12_tellNumber_55] at h
    refine os_lload hX dX12_tellNumber_55 rfl ?_
    refine os_lconst (v := 0) hX dX12_tellNumber_57 (by decide) ?_
    refine os_lcmp hX dX12_tellNumber_58 ?_
    refine os_if_le (tgt := 91) hX dX12_tellNumber_59 (by decide) (fun c1 => ?_) (fun c1 => ?_)
    · rw [if_pos c1] at h
      exact os_vret hX dX12_tellNumber_91 rfl (Option.some.inj h)
    · rw [if_neg c1] at h
      refine os_aload_n (r := x0) hX dX12_tellNumber_62 rfl rfl ?_
      refine os_ldc2 (x := 48) hX dX12_tellNumber_63 oCL_RX12_285 ?_
      refine os_lload_n hX dX12_tellNumber_66 rfl rfl ?_
      refine os_lload hX dX12_tellNumber_67 rfl ?_
      obtain ⟨b2, h⟩ := ogd_e h
      refine os_ldiv hX dX12_tellNumber_69 (znz_ok b2) ?_
      refine os_ldc2 (x := 10) hX dX12_tellNumber_70 oCL_RX12_283 ?_
      obtain ⟨b3, h⟩ := ogd_e h
      refine os_lrem hX dX12_tellNumber_73 (znz_ok b3) ?_
      refine os_ladd hX dX12_tellNumber_74 ?_
      refine os_l2i hX dX12_tellNumber_75 ?_
      refine os_i2c hX dX12_tellNumber_76 ?_
      obtain ⟨a4, e5, h⟩ := obn_e h
      obtain ⟨s6, e7, h⟩ := ocv_e h
      refine oc_RX12_201 (rb := x0) (a1 := .int ((((48 + ((x3 / x5) - (x3 / x5) / 10 * 10)).toInt32).toUInt32 % 65536).toInt32)) hX dX12_tellNumber_77 (Nat.le_of_ble_eq_true rfl) e5 (hc _ _ _ _ e7) ?_
      refine os_lload hX dX12_tellNumber_80 rfl ?_
      refine os_ldc2 (x := 10) hX dX12_tellNumber_82 oCL_RX12_283 ?_
      obtain ⟨b9, h⟩ := ogd_e h
      refine os_ldiv hX dX12_tellNumber_85 (znz_ok b9) ?_
      refine os_lstore hX dX12_tellNumber_86 (by decide) rfl ?_
      dsimp only [List.set]
      refine os_goto (tgt := 55) hX dX12_tellNumber_88 (by decide) ?_
      exact hk55 _ _ _ _ h
set_option maxHeartbeats 4000000 in
theorem ql_X12_tellNumber_23 {κ : oKv} {n : Nat} {call : oCl} {kc : Nat → List Value → oSt → Option Value × oSt → Prop} {v : Option Value × oSt} {X : Nat → zLv → List Value → oSt → Prop} (hX : oSem RX12 cX12_tellNumber 8 0 none κ kc v X) (hc : ∀ j av s w, call j av s = some w → kc j av s w) : ∀ (f : Nat) (x0 : Option Nat) (x3 : Int64) (x5 : Int64) (x7 : Int32) (σ : oSt), ol_X12_tellNumber_23 n call κ f x0 x3 x5 x7 σ = some v → X 23 [some (va_rf x0), none, none, some (.long x3), none, some (.long x5), none, some (.int x7)] [] σ := by
  intro f
  induction f with
  | zero => intro x0 x3 x5 x7 σ h; cases h
  | succ f hk23 =>
    intro x0 x3 x5 x7 σ h
    rw [ol_X12_tellNumber_23] at h
    refine os_iload hX dX12_tellNumber_23 rfl ?_
    refine os_bipush (v := 18) hX dX12_tellNumber_25 (by decide) ?_
    refine os_icmp_ge (tgt := 55) hX dX12_tellNumber_27 (by decide) (fun c1 => ?_) (fun c1 => ?_)
    · rw [if_pos c1] at h
      refine os_weak hX (lw := [some (va_rf x0), none, none, some (.long x3), none, some (.long x5), none, none]) ⟨rfl, rfl, rfl, trivial⟩ ?_
      exact ql_X12_tellNumber_55 hX hc n _ _ _ _ h
    · rw [if_neg c1] at h
      refine os_lload_n hX dX12_tellNumber_30 rfl rfl ?_
      refine os_lload hX dX12_tellNumber_31 rfl ?_
      obtain ⟨b2, h⟩ := ogd_e h
      refine os_ldiv hX dX12_tellNumber_33 (znz_ok b2) ?_
      refine os_ldc2 (x := 10) hX dX12_tellNumber_34 oCL_RX12_283 ?_
      refine os_lcmp hX dX12_tellNumber_37 ?_
      refine os_if_lt (tgt := 55) hX dX12_tellNumber_38 (by decide) (fun c3 => ?_) (fun c3 => ?_)
      · rw [if_pos c3] at h
        refine os_weak hX (lw := [some (va_rf x0), none, none, some (.long x3), none, some (.long x5), none, none]) ⟨rfl, rfl, rfl, trivial⟩ ?_
        exact ql_X12_tellNumber_55 hX hc n _ _ _ _ h
      · rw [if_neg c3] at h
        refine os_lload hX dX12_tellNumber_41 rfl ?_
        refine os_ldc2 (x := 10) hX dX12_tellNumber_43 oCL_RX12_283 ?_
        refine os_lmul hX dX12_tellNumber_46 ?_
        refine os_lstore hX dX12_tellNumber_47 (by decide) rfl ?_
        dsimp only [List.set]
        refine os_iinc (v := x7 + 1) hX dX12_tellNumber_49 rfl rfl (by decide) rfl ?_
        dsimp only [List.set]
        refine os_goto (tgt := 23) hX dX12_tellNumber_52 (by decide) ?_
        exact hk23 _ _ _ _ _ h
set_option maxHeartbeats 4000000 in
theorem qj_X12_tellNumber_12 {κ : oKv} {n : Nat} {call : oCl} {kc : Nat → List Value → oSt → Option Value × oSt → Prop} {v : Option Value × oSt} {X : Nat → zLv → List Value → oSt → Prop} (hX : oSem RX12 cX12_tellNumber 8 0 none κ kc v X) (hc : ∀ j av s w, call j av s = some w → kc j av s w) {x0 : Option Nat} {x1 : Int64} {σ : oSt} (h : oj_X12_tellNumber_12 n call κ x0 x1 σ = some v) : X 12 [some (va_rf x0), some (.long x1), none, none, none, none, none, none] [] σ := by
  rw [oj_X12_tellNumber_12] at h
  refine os_lload_n hX dX12_tellNumber_12 rfl rfl ?_
  refine os_mabsL hX dX12_tellNumber_13 omabsL_RX12_277 (Nat.le_of_ble_eq_true rfl) ?_
  refine os_lstore_n hX dX12_tellNumber_16 rfl (by decide) rfl ?_
  dsimp only [List.set]
  refine os_lconst (v := 1) hX dX12_tellNumber_17 (by decide) ?_
  refine os_lstore hX dX12_tellNumber_18 (by decide) rfl ?_
  dsimp only [List.set]
  refine os_iconst (v := 0) hX dX12_tellNumber_20 (by decide) ?_
  refine os_istore hX dX12_tellNumber_21 (by decide) rfl ?_
  dsimp only [List.set]
  refine os_weak hX (lw := [some (va_rf x0), none, none, some (.long ((if 0 < x1 then x1 else -x1))), none, some (.long 1), none, some (.int 0)]) ⟨rfl, rfl, rfl, rfl, trivial⟩ ?_
  exact ql_X12_tellNumber_23 hX hc n _ _ _ _ _ h
set_option maxHeartbeats 4000000 in
theorem qb_X12_tellNumber {κ : oKv} {n : Nat} {call : oCl} {kc : Nat → List Value → oSt → Option Value × oSt → Prop} {v : Option Value × oSt} {X : Nat → zLv → List Value → oSt → Prop} (hX : oSem RX12 cX12_tellNumber 8 0 none κ kc v X) (hc : ∀ j av s w, call j av s = some w → kc j av s w) {x0 : Option Nat} {x1 : Int64} {σ : oSt} (h : ob_X12_tellNumber n call κ x0 x1 σ = some v) : X 0 [some (va_rf x0), some (.long x1), none, none, none, none, none, none] [] σ := by
  rw [ob_X12_tellNumber] at h
  refine os_lload_n hX dX12_tellNumber_0 rfl rfl ?_
  refine os_lconst (v := 0) hX dX12_tellNumber_1 (by decide) ?_
  refine os_lcmp hX dX12_tellNumber_2 ?_
  refine os_if_ge (tgt := 12) hX dX12_tellNumber_3 (by decide) (fun c1 => ?_) (fun c1 => ?_)
  · rw [if_pos c1] at h
    exact qj_X12_tellNumber_12 hX hc h
  · rw [if_neg c1] at h
    refine os_aload_n (r := x0) hX dX12_tellNumber_6 rfl rfl ?_
    refine os_bipush (v := 45) hX dX12_tellNumber_7 (by decide) ?_
    obtain ⟨a2, e3, h⟩ := obn_e h
    obtain ⟨s4, e5, h⟩ := ocv_e h
    refine oc_RX12_201 (rb := x0) (a1 := .int 45) hX dX12_tellNumber_9 (Nat.le_of_ble_eq_true rfl) e3 (hc _ _ _ _ e5) ?_
    exact qj_X12_tellNumber_12 hX hc h
