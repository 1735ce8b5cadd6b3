/-! the methods of the reference as plain functions (60 to 79) -/
def j_formsOfCondition_22 (n : Nat) (call : zCl) (h0 : Nat) (qs : List Nat) (ks : Nat → Nat) (x1 : Int32) (σ : zSt) : zRs :=
  zgd (zin x1 2100) (
  zcv (call 60 [.ref h0, .int (σ.2.2.1 9 (x1).toNatClampNeg)] σ) fun s2 =>
  zgd (zin x1 2100) (
  zcv (call 60 [.ref h0, .int (s2.2.2.1 10 (x1).toNatClampNeg)] s2) fun s5 =>
  some (none, s5)))
def b_formsOfCondition (n : Nat) (call : zCl) (h0 : Nat) (qs : List Nat) (ks : Nat → Nat) (x1 : Int32) (σ : zSt) : zRs :=
  zgd (zin x1 2100) (
  if (σ.2.2.1 6 (x1).toNatClampNeg) = 20 then
    j_formsOfCondition_22 n call h0 qs ks x1 σ
  else
    zgd (zin x1 2100) (
    if (σ.2.2.1 6 (x1).toNatClampNeg) = 21 then
      j_formsOfCondition_22 n call h0 qs ks x1 σ
    else
      zgd (zin x1 2100) (
      if (σ.2.2.1 6 (x1).toNatClampNeg) = 22 then
        zgd (zin x1 2100) (
        zcv (call 60 [.ref h0, .int (σ.2.2.1 9 (x1).toNatClampNeg)] σ) fun s25 =>
        some (none, s25))
      else
        zgd (zin x1 2100) (
        if (σ.2.2.1 6 (x1).toNatClampNeg) = 25 then
          zcv (call 53 [.ref h0] σ) fun s9 =>
          zgd (zin x1 2100) (
          zcv (call 55 [.ref h0, .int (s9.2.2.1 9 (x1).toNatClampNeg), .int 1] s9) fun s12 =>
          zgd (zin x1 2100) (
          zcv (call 55 [.ref h0, .int (s12.2.2.1 10 (x1).toNatClampNeg), .int (-1)] s12) fun s15 =>
          zci (call 56 [.ref h0] s15) fun r19 s17 =>
          if r19 = 0 then
            zgd (zin x1 2100) (
            zcv (call 58 [.ref h0, .int (s17.2.2.1 8 (x1).toNatClampNeg)] s17) fun s22 =>
            some (none, s22))
          else
            some (none, s17)))
        else
          some (none, σ)))))
set_option maxHeartbeats 4000000 in
theorem pj_formsOfCondition_22 {h0 : Nat} {qs : List Nat} {ks : Nat → Nat} {n : Nat} {call : zCl} {kc : Nat → List Value → zSt → (Option Value → zSt → Prop) → Prop} {v : Option Value × zSt} {X : Nat → zLv → List Value → zSt → Prop} (hX : zSem cX13_formsOfCondition 2 none h0 qs ks kc (fun r u => (r, u) = v) X) (hc : ∀ j av s w, call j av s = some w → kc j av s (fun r u => (r, u) = w)) {x1 : Int32} {σ : zSt} (h : j_formsOfCondition_22 n call h0 qs ks x1 σ = some v) : X 22 [some (.ref h0), some (.int x1)] [] σ := by
  rw [j_formsOfCondition_22] at h
  refine zs_aload_n hX dX13_formsOfCondition_22 rfl rfl ?_
  refine zs_aload_n hX dX13_formsOfCondition_23 rfl rfl ?_
  refine zg_x1 hX dX13_formsOfCondition_24 ?_
  refine zs_iload_n hX dX13_formsOfCondition_27 rfl rfl ?_
  obtain ⟨b1, h⟩ := zgd_e h
  refine zl_x1 hX dX13_formsOfCondition_28 (zin_ok b1) ?_
  obtain ⟨s2, e3, h⟩ := zcv_e h
  refine zc_formsOfCondition hX dX13_formsOfCondition_29 (Nat.le_of_ble_eq_true rfl) (hc _ _ _ _ e3) (fun u9 h9 => ?_)
  cases h9
  refine zs_aload_n hX dX13_formsOfCondition_32 rfl rfl ?_
  refine zs_aload_n hX dX13_formsOfCondition_33 rfl rfl ?_
  refine zg_x2 hX dX13_formsOfCondition_34 ?_
  refine zs_iload_n hX dX13_formsOfCondition_37 rfl rfl ?_
  obtain ⟨b4, h⟩ := zgd_e h
  refine zl_x2 hX dX13_formsOfCondition_38 (zin_ok b4) ?_
  obtain ⟨s5, e6, h⟩ := zcv_e h
  refine zc_formsOfCondition hX dX13_formsOfCondition_39 (Nat.le_of_ble_eq_true rfl) (hc _ _ _ _ e6) (fun u9 h9 => ?_)
  cases h9
  refine zs_goto (tgt := 123) hX dX13_formsOfCondition_42 (by decide) ?_
  exact zs_vret hX dX13_formsOfCondition_123 rfl (Option.some.inj h)
set_option maxHeartbeats 4000000 in
theorem pb_formsOfCondition {h0 : Nat} {qs : List Nat} {ks : Nat → Nat} {n : Nat} {call : zCl} {kc : Nat → List Value → zSt → (Option Value → zSt → Prop) → Prop} {v : Option Value × zSt} {X : Nat → zLv → List Value → zSt → Prop} (hX : zSem cX13_formsOfCondition 2 none h0 qs ks kc (fun r u => (r, u) = v) X) (hc : ∀ j av s w, call j av s = some w → kc j av s (fun r u => (r, u) = w)) {x1 : Int32} {σ : zSt} (h : b_formsOfCondition n call h0 qs ks x1 σ = some v) : X 0 [some (.ref h0), some (.int x1)] [] σ := by
  rw [b_formsOfCondition] at h
  refine zs_aload_n hX dX13_formsOfCondition_0 rfl rfl ?_
  refine zg_kind hX dX13_formsOfCondition_1 ?_
  refine zs_iload_n hX dX13_formsOfCondition_4 rfl rfl ?_
  obtain ⟨b1, h⟩ := zgd_e h
  refine zl_kind hX dX13_formsOfCondition_5 (zin_ok b1) ?_
  refine zs_bipush (v := 20) hX dX13_formsOfCondition_6 (by decide) ?_
  refine zs_icmp_eq (tgt := 22) hX dX13_formsOfCondition_8 (by decide) (fun c2 => ?_) (fun c2 => ?_)
  · rw [if_pos c2] at h
    exact pj_formsOfCondition_22 hX hc h
  · rw [if_neg c2] at h
    refine zs_aload_n hX dX13_formsOfCondition_11 rfl rfl ?_
    refine zg_kind hX dX13_formsOfCondition_12 ?_
    refine zs_iload_n hX dX13_formsOfCondition_15 rfl rfl ?_
    obtain ⟨b3, h⟩ := zgd_e h
    refine zl_kind hX dX13_formsOfCondition_16 (zin_ok b3) ?_
    refine zs_bipush (v := 21) hX dX13_formsOfCondition_17 (by decide) ?_
    refine zs_icmp_ne (tgt := 45) hX dX13_formsOfCondition_19 (by decide) (fun c4 => ?_) (fun c4 => ?_)
    · rw [if_neg c4] at h
      refine zs_aload_n hX dX13_formsOfCondition_45 rfl rfl ?_
      refine zg_kind hX dX13_formsOfCondition_46 ?_
      refine zs_iload_n hX dX13_formsOfCondition_49 rfl rfl ?_
      obtain ⟨b5, h⟩ := zgd_e h
      refine zl_kind hX dX13_formsOfCondition_50 (zin_ok b5) ?_
      refine zs_bipush (v := 22) hX dX13_formsOfCondition_51 (by decide) ?_
      refine zs_icmp_ne (tgt := 69) hX dX13_formsOfCondition_53 (by decide) (fun c6 => ?_) (fun c6 => ?_)
      · rw [if_neg c6] at h
        refine zs_aload_n hX dX13_formsOfCondition_69 rfl rfl ?_
        refine zg_kind hX dX13_formsOfCondition_70 ?_
        refine zs_iload_n hX dX13_formsOfCondition_73 rfl rfl ?_
        obtain ⟨b7, h⟩ := zgd_e h
        refine zl_kind hX dX13_formsOfCondition_74 (zin_ok b7) ?_
        refine zs_bipush (v := 25) hX dX13_formsOfCondition_75 (by decide) ?_
        refine zs_icmp_ne (tgt := 123) hX dX13_formsOfCondition_77 (by decide) (fun c8 => ?_) (fun c8 => ?_)
        · rw [if_neg c8] at h
          exact zs_vret hX dX13_formsOfCondition_123 rfl (Option.some.inj h)
        · rw [if_pos c8] at h
          refine zs_aload_n hX dX13_formsOfCondition_80 rfl rfl ?_
          obtain ⟨s9, e10, h⟩ := zcv_e h
          refine zc_clearLine hX dX13_formsOfCondition_81 (Nat.le_of_ble_eq_true rfl) (hc _ _ _ _ e10) (fun u9 h9 => ?_)
          cases h9
          refine zs_aload_n hX dX13_formsOfCondition_84 rfl rfl ?_
          refine zs_aload_n hX dX13_formsOfCondition_85 rfl rfl ?_
          refine zg_x1 hX dX13_formsOfCondition_86 ?_
          refine zs_iload_n hX dX13_formsOfCondition_89 rfl rfl ?_
          obtain ⟨b11, h⟩ := zgd_e h
          refine zl_x1 hX dX13_formsOfCondition_90 (zin_ok b11) ?_
          refine zs_iconst (v := 1) hX dX13_formsOfCondition_91 (by decide) ?_
          obtain ⟨s12, e13, h⟩ := zcv_e h
          refine zc_addSum hX dX13_formsOfCondition_92 (Nat.le_of_ble_eq_true rfl) (hc _ _ _ _ e13) (fun u9 h9 => ?_)
          cases h9
          refine zs_aload_n hX dX13_formsOfCondition_95 rfl rfl ?_
          refine zs_aload_n hX dX13_formsOfCondition_96 rfl rfl ?_
          refine zg_x2 hX dX13_formsOfCondition_97 ?_
          refine zs_iload_n hX dX13_formsOfCondition_100 rfl rfl ?_
          obtain ⟨b14, h⟩ := zgd_e h
          refine zl_x2 hX dX13_formsOfCondition_101 (zin_ok b14) ?_
          refine zs_iconst (v := (-1)) hX dX13_formsOfCondition_102 (by decide) ?_
          obtain ⟨s15, e16, h⟩ := zcv_e h
          refine zc_addSum hX dX13_formsOfCondition_103 (Nat.le_of_ble_eq_true rfl) (hc _ _ _ _ e16) (fun u9 h9 => ?_)
          cases h9
          refine zs_aload_n hX dX13_formsOfCondition_106 rfl rfl ?_
          obtain ⟨r19, s17, e18, h⟩ := zci_e h
          refine zc_isForm hX dX13_formsOfCondition_107 (Nat.le_of_ble_eq_true rfl) (hc _ _ _ _ e18) (fun r9 u9 h9 => ?_)
          cases h9
          refine zs_if_ne (tgt := 123) hX dX13_formsOfCondition_110 (by decide) (fun c20 => ?_) (fun c20 => ?_)
          · rw [if_neg c20] at h
            exact zs_vret hX dX13_formsOfCondition_123 rfl (Option.some.inj h)
          · rw [if_pos c20] at h
            refine zs_aload_n hX dX13_formsOfCondition_113 rfl rfl ?_
            refine zs_aload_n hX dX13_formsOfCondition_114 rfl rfl ?_
            refine zg_sign hX dX13_formsOfCondition_115 ?_
            refine zs_iload_n hX dX13_formsOfCondition_118 rfl rfl ?_
            obtain ⟨b21, h⟩ := zgd_e h
            refine zl_sign hX dX13_formsOfCondition_119 (zin_ok b21) ?_
            obtain ⟨s22, e23, h⟩ := zcv_e h
            refine zc_wrongForm hX dX13_formsOfCondition_120 (Nat.le_of_ble_eq_true rfl) (hc _ _ _ _ e23) (fun u9 h9 => ?_)
            cases h9
            exact zs_vret hX dX13_formsOfCondition_123 rfl (Option.some.inj h)
      · rw [if_pos c6] at h
        refine zs_aload_n hX dX13_formsOfCondition_56 rfl rfl ?_
        refine zs_aload_n hX dX13_formsOfCondition_57 rfl rfl ?_
        refine zg_x1 hX dX13_formsOfCondition_58 ?_
        refine zs_iload_n hX dX13_formsOfCondition_61 rfl rfl ?_
        obtain ⟨b24, h⟩ := zgd_e h
        refine zl_x1 hX dX13_formsOfCondition_62 (zin_ok b24) ?_
        obtain ⟨s25, e26, h⟩ := zcv_e h
        refine zc_formsOfCondition hX dX13_formsOfCondition_63 (Nat.le_of_ble_eq_true rfl) (hc _ _ _ _ e26) (fun u9 h9 => ?_)
        cases h9
        refine zs_goto (tgt := 123) hX dX13_formsOfCondition_66 (by decide) ?_
        exact zs_vret hX dX13_formsOfCondition_123 rfl (Option.some.inj h)
    · rw [if_pos c4] at h
      exact pj_formsOfCondition_22 hX hc h
def b_leaves (n : Nat) (call : zCl) (h0 : Nat) (qs : List Nat) (ks : Nat → Nat) (x1 : Int32) (x2 : Int32) (σ : zSt) : zRs :=
  if x2 ≤ 60 then
    zci (call 42 [.ref h0, .int x1] σ) fun r4 s2 =>
    zci (call 52 [.ref h0, .int r4] s2) fun r7 s5 =>
    if r7 = 4 then
      zgd (zin r4 9000) (
      zgd (zin r4 9000) (
      zci (call 61 [.ref h0, .int (s5.2.2.1 35 (r4).toNatClampNeg), .int x2] s5) fun r13 s11 =>
      zci (call 61 [.ref h0, .int (s5.2.2.1 36 (r4).toNatClampNeg), .int r13] s11) fun r16 s14 =>
      some (some (.int r16), s14)))
    else
      some (some (.int (x2 + 1)), s5)
  else
    some (some (.int x2), σ)
set_option maxHeartbeats 4000000 in
theorem pb_leaves {h0 : Nat} {qs : List Nat} {ks : Nat → Nat} {n : Nat} {call : zCl} {kc : Nat → List Value → zSt → (Option Value → zSt → Prop) → Prop} {v : Option Value × zSt} {X : Nat → zLv → List Value → zSt → Prop} (hX : zSem cX13_leaves 5 (some .int) h0 qs ks kc (fun r u => (r, u) = v) X) (hc : ∀ j av s w, call j av s = some w → kc j av s (fun r u => (r, u) = w)) {x1 : Int32} {x2 : Int32} {σ : zSt} (h : b_leaves n call h0 qs ks x1 x2 σ = some v) : X 0 [some (.ref h0), some (.int x1), some (.int x2), none, none] [] σ := by
  rw [b_leaves] at h
  refine zs_iload_n hX dX13_leaves_0 rfl rfl ?_
  refine zs_bipush (v := 60) hX dX13_leaves_1 (by decide) ?_
  refine zs_icmp_le (tgt := 8) hX dX13_leaves_3 (by decide) (fun c1 => ?_) (fun c1 => ?_)
  · rw [if_pos c1] at h
    refine zs_aload_n hX dX13_leaves_8 rfl rfl ?_
    refine zs_iload_n hX dX13_leaves_9 rfl rfl ?_
    obtain ⟨r4, s2, e3, h⟩ := zci_e h
    refine zc_real hX dX13_leaves_10 (Nat.le_of_ble_eq_true rfl) (hc _ _ _ _ e3) (fun r9 u9 h9 => ?_)
    cases h9
    refine zs_istore_n hX dX13_leaves_13 rfl (by decide) rfl ?_
    dsimp only [List.set]
    refine zs_aload_n hX dX13_leaves_14 rfl rfl ?_
    refine zs_iload_n hX dX13_leaves_15 rfl rfl ?_
    obtain ⟨r7, s5, e6, h⟩ := zci_e h
    refine zc_sort hX dX13_leaves_16 (Nat.le_of_ble_eq_true rfl) (hc _ _ _ _ e6) (fun r9 u9 h9 => ?_)
    cases h9
    refine zs_istore hX dX13_leaves_19 (by decide) rfl ?_
    dsimp only [List.set]
    refine zs_iload hX dX13_leaves_21 rfl ?_
    refine zs_iconst (v := 4) hX dX13_leaves_23 (by decide) ?_
    refine zs_icmp_ne (tgt := 49) hX dX13_leaves_24 (by decide) (fun c8 => ?_) (fun c8 => ?_)
    · rw [if_neg c8] at h
      refine zs_iload_n hX dX13_leaves_49 rfl rfl ?_
      refine zs_iconst (v := 1) hX dX13_leaves_50 (by decide) ?_
      refine zs_iadd hX dX13_leaves_51 ?_
      exact zs_iret hX dX13_leaves_52 rfl (Option.some.inj h)
    · rw [if_pos c8] at h
      refine zs_aload_n hX dX13_leaves_27 rfl rfl ?_
      refine zs_aload_n hX dX13_leaves_28 rfl rfl ?_
      refine zg_tRight hX dX13_leaves_29 ?_
      refine zs_iload_n hX dX13_leaves_32 rfl rfl ?_
      obtain ⟨b9, h⟩ := zgd_e h
      refine zl_tRight hX dX13_leaves_33 (zin_ok b9) ?_
      refine zs_aload_n hX dX13_leaves_34 rfl rfl ?_
      refine zs_aload_n hX dX13_leaves_35 rfl rfl ?_
      refine zg_tLeft hX dX13_leaves_36 ?_
      refine zs_iload_n hX dX13_leaves_39 rfl rfl ?_
      obtain ⟨b10, h⟩ := zgd_e h
      refine zl_tLeft hX dX13_leaves_40 (zin_ok b10) ?_
      refine zs_iload_n hX dX13_leaves_41 rfl rfl ?_
      obtain ⟨r13, s11, e12, h⟩ := zci_e h
      refine zc_leaves hX dX13_leaves_42 (Nat.le_of_ble_eq_true rfl) (hc _ _ _ _ e12) (fun r9 u9 h9 => ?_)
      cases h9
      obtain ⟨r16, s14, e15, h⟩ := zci_e h
      refine zc_leaves hX dX13_leaves_45 (Nat.le_of_ble_eq_true rfl) (hc _ _ _ _ e15) (fun r9 u9 h9 => ?_)
      cases h9
      exact zs_iret hX dX13_leaves_48 rfl (Option.some.inj h)
  · rw [if_neg c1] at h
    refine zs_iload_n hX dX13_leaves_6 rfl rfl ?_
    exact zs_iret hX dX13_leaves_7 rfl (Option.some.inj h)
def b_wants (n : Nat) (call : zCl) (h0 : Nat) (qs : List Nat) (ks : Nat → Nat) (x1 : Int32) (x2 : Int32) (σ : zSt) : zRs :=
  if (σ.1 65) ≤ 60 then
    zci (call 61 [.ref h0, .int x1, .int (σ.1 65)] σ) fun r4 s2 =>
    zlet (zI s2 65 r4) fun s5 =>
    if (s5.1 65) ≤ 60 then
      some (none, s5)
    else
      zcv (call 58 [.ref h0, .int x2] s5) fun s8 =>
      some (none, s8)
  else
    some (none, σ)
set_option maxHeartbeats 4000000 in
theorem pb_wants {h0 : Nat} {qs : List Nat} {ks : Nat → Nat} {n : Nat} {call : zCl} {kc : Nat → List Value → zSt → (Option Value → zSt → Prop) → Prop} {v : Option Value × zSt} {X : Nat → zLv → List Value → zSt → Prop} (hX : zSem cX13_wants 3 none h0 qs ks kc (fun r u => (r, u) = v) X) (hc : ∀ j av s w, call j av s = some w → kc j av s (fun r u => (r, u) = w)) {x1 : Int32} {x2 : Int32} {σ : zSt} (h : b_wants n call h0 qs ks x1 x2 σ = some v) : X 0 [some (.ref h0), some (.int x1), some (.int x2)] [] σ := by
  rw [b_wants] at h
  refine zs_aload_n hX dX13_wants_0 rfl rfl ?_
  refine zg_cases hX dX13_wants_1 ?_
  refine zs_bipush (v := 60) hX dX13_wants_4 (by decide) ?_
  refine zs_icmp_le (tgt := 10) hX dX13_wants_6 (by decide) (fun c1 => ?_) (fun c1 => ?_)
  · rw [if_pos c1] at h
    refine zs_aload_n hX dX13_wants_10 rfl rfl ?_
    refine zs_aload_n hX dX13_wants_11 rfl rfl ?_
    refine zs_iload_n hX dX13_wants_12 rfl rfl ?_
    refine zs_aload_n hX dX13_wants_13 rfl rfl ?_
    refine zg_cases hX dX13_wants_14 ?_
    obtain ⟨r4, s2, e3, h⟩ := zci_e h
    refine zc_leaves hX dX13_wants_17 (Nat.le_of_ble_eq_true rfl) (hc _ _ _ _ e3) (fun r9 u9 h9 => ?_)
    cases h9
    obtain ⟨s5, e6, h⟩ := zlet_e h
    refine zp_cases hX dX13_wants_20 ?_
    rw [← e6]
    refine zs_aload_n hX dX13_wants_23 rfl rfl ?_
    refine zg_cases hX dX13_wants_24 ?_
    refine zs_bipush (v := 60) hX dX13_wants_27 (by decide) ?_
    refine zs_icmp_le (tgt := 37) hX dX13_wants_29 (by decide) (fun c7 => ?_) (fun c7 => ?_)
    · rw [if_pos c7] at h
      exact zs_vret hX dX13_wants_37 rfl (Option.some.inj h)
    · rw [if_neg c7] at h
      refine zs_aload_n hX dX13_wants_32 rfl rfl ?_
      refine zs_iload_n hX dX13_wants_33 rfl rfl ?_
      obtain ⟨s8, e9, h⟩ := zcv_e h
      refine zc_wrongForm hX dX13_wants_34 (Nat.le_of_ble_eq_true rfl) (hc _ _ _ _ e9) (fun u9 h9 => ?_)
      cases h9
      exact zs_vret hX dX13_wants_37 rfl (Option.some.inj h)
  · rw [if_neg c1] at h
    exact zs_vret hX dX13_wants_9 rfl (Option.some.inj h)
def j_formsOf_448 (n : Nat) (call : zCl) (h0 : Nat) (qs : List Nat) (ks : Nat → Nat) (k350 : Int32 → Int32 → Int32 → zSt → zRs) (x1 : Int32) (x2 : Int32) (x3 : Int32) (σ : zSt) : zRs :=
  k350 x1 x2 (x3 + 1) σ
def l_formsOf_350 (n : Nat) (call : zCl) (h0 : Nat) (qs : List Nat) (ks : Nat → Nat) : Nat → Int32 → Int32 → Int32 → zSt → zRs
  | 0, _, _, _, _ => none
  | f + 1, x1, x2, x3, σ =>
    zgd (zin x1 2100) (
    if (σ.2.2.1 11 (x1).toNatClampNeg) ≤ x3 then
      some (none, σ)
    else
      zgd (zin x1 2100) (
      zgd (zin ((σ.2.2.1 10 (x1).toNatClampNeg) + x3) 2100) (
      if (σ.2.2.1 19 (((σ.2.2.1 10 (x1).toNatClampNeg) + x3)).toNatClampNeg) = 1 then
        zgd (zin ((σ.2.2.1 10 (x1).toNatClampNeg) + x3) 2100) (
        zcv (call 63 [.ref h0, .int (σ.2.2.1 20 (((σ.2.2.1 10 (x1).toNatClampNeg) + x3)).toNatClampNeg), .int x2] σ) fun s20 =>
        j_formsOf_448 n call h0 qs ks (l_formsOf_350 n call h0 qs ks f) x1 x2 x3 s20)
      else
        zgd (zin ((σ.2.2.1 10 (x1).toNatClampNeg) + x3) 2100) (
        if (σ.2.2.1 19 (((σ.2.2.1 10 (x1).toNatClampNeg) + x3)).toNatClampNeg) = 0 then
          zgd (zin ((σ.2.2.1 10 (x1).toNatClampNeg) + x3) 2100) (
          zgd (zin (σ.2.2.1 21 (((σ.2.2.1 10 (x1).toNatClampNeg) + x3)).toNatClampNeg) 2000) (
          if (σ.2.2.1 1 ((σ.2.2.1 21 (((σ.2.2.1 10 (x1).toNatClampNeg) + x3)).toNatClampNeg)).toNatClampNeg) = 40 then
            zgd (zin ((σ.2.2.1 10 (x1).toNatClampNeg) + x3) 2100) (
            zci (call 57 [.ref h0, .int (σ.2.2.1 20 (((σ.2.2.1 10 (x1).toNatClampNeg) + x3)).toNatClampNeg)] σ) fun r14 s12 =>
            if r14 = 0 then
              zgd (zin ((σ.2.2.1 10 (x1).toNatClampNeg) + x3) 2100) (
              zcv (call 58 [.ref h0, .int (s12.2.2.1 21 (((σ.2.2.1 10 (x1).toNatClampNeg) + x3)).toNatClampNeg)] s12) fun s17 =>
              j_formsOf_448 n call h0 qs ks (l_formsOf_350 n call h0 qs ks f) x1 x2 x3 s17)
            else
              j_formsOf_448 n call h0 qs ks (l_formsOf_350 n call h0 qs ks f) x1 x2 x3 s12)
          else
            j_formsOf_448 n call h0 qs ks (l_formsOf_350 n call h0 qs ks f) x1 x2 x3 σ))
        else
          j_formsOf_448 n call h0 qs ks (l_formsOf_350 n call h0 qs ks f) x1 x2 x3 σ))))
def j_formsOf_289 (n : Nat) (call : zCl) (h0 : Nat) (qs : List Nat) (ks : Nat → Nat) (x1 : Int32) (x3 : Int32) (σ : zSt) : zRs :=
  zgd (zin x1 2100) (
  zcv (call 60 [.ref h0, .int (σ.2.2.1 9 (x1).toNatClampNeg)] σ) fun s2 =>
  zgd (zin x1 2100) (
  zcv (call 63 [.ref h0, .int (s2.2.2.1 11 (x1).toNatClampNeg), .int x3] s2) fun s5 =>
  zgd (zin x1 2100) (
  if (s5.2.2.1 6 (x1).toNatClampNeg) = 4 then
    zgd (zin x1 2100) (
    zcv (call 63 [.ref h0, .int (s5.2.2.1 12 (x1).toNatClampNeg), .int x3] s5) fun s10 =>
    some (none, s10))
  else
    some (none, s5))))
def j_formsOf_260 (n : Nat) (call : zCl) (h0 : Nat) (qs : List Nat) (ks : Nat → Nat) (x1 : Int32) (x2 : Int32) (σ : zSt) : zRs :=
  zgd (zin x1 2100) (
  zci (call 59 [.ref h0, .int (σ.2.2.1 9 (x1).toNatClampNeg)] σ) fun r4 s2 =>
  if (x2 + r4) ≤ 6 then
    j_formsOf_289 n call h0 qs ks x1 (x2 + r4) s2
  else
    zgd (zin x1 2100) (
    zcv (call 58 [.ref h0, .int (s2.2.2.1 8 (x1).toNatClampNeg)] s2) fun s7 =>
    j_formsOf_289 n call h0 qs ks x1 (x2 + r4) s7))
def b_formsOf (n : Nat) (call : zCl) (h0 : Nat) (qs : List Nat) (ks : Nat → Nat) (x1 : Int32) (x2 : Int32) (σ : zSt) : zRs :=
  zgd (zin x1 2100) (
  if (σ.2.2.1 6 (x1).toNatClampNeg) = 1 then
    zgd (zin x1 2100) (
    zgd (zin x1 2100) (
    zcv (call 62 [.ref h0, .int (σ.2.2.1 39 (x1).toNatClampNeg), .int (σ.2.2.1 7 (x1).toNatClampNeg)] σ) fun s5 =>
    zgd (zin x1 2100) (
    zcv (call 63 [.ref h0, .int (s5.2.2.1 11 (x1).toNatClampNeg), .int x2] s5) fun s8 =>
    zgd (zin x1 2100) (
    zcv (call 63 [.ref h0, .int (s8.2.2.1 12 (x1).toNatClampNeg), .int x2] s8) fun s11 =>
    some (none, s11)))))
  else
  if (σ.2.2.1 6 (x1).toNatClampNeg) = 2 then
    zgd (zin x1 2100) (
    zgd (zin x1 2100) (
    zcv (call 62 [.ref h0, .int (σ.2.2.1 39 (x1).toNatClampNeg), .int (σ.2.2.1 7 (x1).toNatClampNeg)] σ) fun s16 =>
    zgd (zin x1 2100) (
    zgd (zin (s16.2.2.1 9 (x1).toNatClampNeg) 2010) (
    zgd (zin (s16.2.2.1 32 ((s16.2.2.1 9 (x1).toNatClampNeg)).toNatClampNeg) 700) (
    zgd (zin x1 2100) (
    zcv (call 62 [.ref h0, .int (s16.2.2.1 31 ((s16.2.2.1 32 ((s16.2.2.1 9 (x1).toNatClampNeg)).toNatClampNeg)).toNatClampNeg), .int (s16.2.2.1 7 (x1).toNatClampNeg)] s16) fun s22 =>
    zgd (zin x1 2100) (
    zcv (call 63 [.ref h0, .int (s22.2.2.1 11 (x1).toNatClampNeg), .int x2] s22) fun s25 =>
    zgd (zin x1 2100) (
    zcv (call 63 [.ref h0, .int (s25.2.2.1 12 (x1).toNatClampNeg), .int x2] s25) fun s28 =>
    some (none, s28)))))))))
  else
  if (σ.2.2.1 6 (x1).toNatClampNeg) = 3 then
    zgd (zin x1 2100) (
    zgd (zin x1 2100) (
    zcv (call 62 [.ref h0, .int (σ.2.2.1 39 (x1).toNatClampNeg), .int (σ.2.2.1 7 (x1).toNatClampNeg)] σ) fun s33 =>
    zgd (zin x1 2100) (
    zcv (call 63 [.ref h0, .int (s33.2.2.1 11 (x1).toNatClampNeg), .int x2] s33) fun s36 =>
    some (none, s36))))
  else
  if (σ.2.2.1 6 (x1).toNatClampNeg) = 4 then
    zgd (zin x1 2100) (
    if (σ.2.2.1 6 (x1).toNatClampNeg) = 4 then
      zgd (zin x1 2100) (
      zgd (zin x1 2100) (
      zcv (call 62 [.ref h0, .int (σ.2.2.1 39 (x1).toNatClampNeg), .int (σ.2.2.1 7 (x1).toNatClampNeg)] σ) fun s43 =>
      j_formsOf_260 n call h0 qs ks x1 x2 s43))
    else
      j_formsOf_260 n call h0 qs ks x1 x2 σ)
  else
  if (σ.2.2.1 6 (x1).toNatClampNeg) = 5 then
    zgd (zin x1 2100) (
    if (σ.2.2.1 6 (x1).toNatClampNeg) = 4 then
      zgd (zin x1 2100) (
      zgd (zin x1 2100) (
      zcv (call 62 [.ref h0, .int (σ.2.2.1 39 (x1).toNatClampNeg), .int (σ.2.2.1 7 (x1).toNatClampNeg)] σ) fun s50 =>
      j_formsOf_260 n call h0 qs ks x1 x2 s50))
    else
      j_formsOf_260 n call h0 qs ks x1 x2 σ)
  else
  if (σ.2.2.1 6 (x1).toNatClampNeg) = 6 then
    zgd (zin x1 2100) (
    zcv (call 63 [.ref h0, .int (σ.2.2.1 12 (x1).toNatClampNeg), .int x2] σ) fun s54 =>
    some (none, s54))
  else
  if (σ.2.2.1 6 (x1).toNatClampNeg) = 7 then
    some (none, σ)
  else
  if (σ.2.2.1 6 (x1).toNatClampNeg) = 8 then
    some (none, σ)
  else
  if (σ.2.2.1 6 (x1).toNatClampNeg) = 9 then
    some (none, σ)
  else
  if (σ.2.2.1 6 (x1).toNatClampNeg) = 10 then
    some (none, σ)
  else
  if (σ.2.2.1 6 (x1).toNatClampNeg) = 11 then
    some (none, σ)
  else
  if (σ.2.2.1 6 (x1).toNatClampNeg) = 12 then
    some (none, σ)
  else
  if (σ.2.2.1 6 (x1).toNatClampNeg) = 13 then
    some (none, σ)
  else
  if (σ.2.2.1 6 (x1).toNatClampNeg) = 14 then
    some (none, σ)
  else
  if (σ.2.2.1 6 (x1).toNatClampNeg) = 15 then
    l_formsOf_350 n call h0 qs ks n x1 x2 0 σ
  else
  if (σ.2.2.1 6 (x1).toNatClampNeg) = 16 then
    zgd (zin x1 2100) (
    zcv (call 63 [.ref h0, .int (σ.2.2.1 11 (x1).toNatClampNeg), .int x2] σ) fun s67 =>
    some (none, s67))
  else
  if (σ.2.2.1 6 (x1).toNatClampNeg) = 17 then
    some (none, σ)
  else
  if (σ.2.2.1 6 (x1).toNatClampNeg) = 18 then
    some (none, σ)
  else
  if (σ.2.2.1 6 (x1).toNatClampNeg) = 19 then
    zgd (zin x1 2100) (
    zgd (zin x1 2100) (
    zcv (call 62 [.ref h0, .int (σ.2.2.1 39 (x1).toNatClampNeg), .int (σ.2.2.1 7 (x1).toNatClampNeg)] σ) fun s74 =>
    zgd (zin x1 2100) (
    zcv (call 63 [.ref h0, .int (s74.2.2.1 11 (x1).toNatClampNeg), .int x2] s74) fun s77 =>
    zgd (zin x1 2100) (
    zcv (call 63 [.ref h0, .int (s77.2.2.1 12 (x1).toNatClampNeg), .int x2] s77) fun s80 =>
    some (none, s80)))))
  else
  some (none, σ))
set_option maxHeartbeats 4000000 in
theorem pj_formsOf_448 {h0 : Nat} {qs : List Nat} {ks : Nat → Nat} {n : Nat} {call : zCl} {kc : Nat → List Value → zSt → (Option Value → zSt → Prop) → Prop} {v : Option Value × zSt} {X : Nat → zLv → List Value → zSt → Prop} (hX : zSem cX13_formsOf 5 none h0 qs ks kc (fun r u => (r, u) = v) X) (hc : ∀ j av s w, call j av s = some w → kc j av s (fun r u => (r, u) = w)) {k350 : Int32 → Int32 → Int32 → zSt → zRs} (hk350 : ∀ (x1 : Int32) (x2 : Int32) (x3 : Int32) (s : zSt), k350 x1 x2 x3 s = some v → X 350 [some (.ref h0), some (.int x1), some (.int x2), some (.int x3), none] [] s) {x1 : Int32} {x2 : Int32} {x3 : Int32} {σ : zSt} (h : j_formsOf_448 n call h0 qs ks k350 x1 x2 x3 σ = some v) : X 448 [some (.ref h0), some (.int x1), some (.int x2), some (.int x3), none] [] σ := by
  rw [j_formsOf_448] at h
  refine zs_iinc (v := x3 + 1) hX dX13_formsOf_448 rfl rfl (by decide) rfl ?_
  dsimp only [List.set]
  refine zs_goto (tgt := 350) hX dX13_formsOf_451 (by decide) ?_
  exact hk350 _ _ _ _ h
set_option maxHeartbeats 4000000 in
theorem pl_formsOf_350 {h0 : Nat} {qs : List Nat} {ks : Nat → Nat} {n : Nat} {call : zCl} {kc : Nat → List Value → zSt → (Option Value → zSt → Prop) → Prop} {v : Option Value × zSt} {X : Nat → zLv → List Value → zSt → Prop} (hX : zSem cX13_formsOf 5 none h0 qs ks kc (fun r u => (r, u) = v) X) (hc : ∀ j av s w, call j av s = some w → kc j av s (fun r u => (r, u) = w)) : ∀ (f : Nat) (x1 : Int32) (x2 : Int32) (x3 : Int32) (σ : zSt), l_formsOf_350 n call h0 qs ks f x1 x2 x3 σ = some v → X 350 [some (.ref h0), some (.int x1), some (.int x2), some (.int x3), none] [] σ := by
  intro f
  induction f with
  | zero => intro x1 x2 x3 σ h; cases h
  | succ f hk350 =>
    intro x1 x2 x3 σ h
    rw [l_formsOf_350] at h
    refine zs_iload_n hX dX13_formsOf_350 rfl rfl ?_
    refine zs_aload_n hX dX13_formsOf_351 rfl rfl ?_
    refine zg_x3 hX dX13_formsOf_352 ?_
    refine zs_iload_n hX dX13_formsOf_355 rfl rfl ?_
    obtain ⟨b1, h⟩ := zgd_e h
    refine zl_x3 hX dX13_formsOf_356 (zin_ok b1) ?_
    refine zs_icmp_ge (tgt := 454) hX dX13_formsOf_357 (by decide) (fun c2 => ?_) (fun c2 => ?_)
    · rw [if_pos c2] at h
      refine zs_goto (tgt := 512) hX dX13_formsOf_454 (by decide) ?_
      exact zs_vret hX dX13_formsOf_512 rfl (Option.some.inj h)
    · rw [if_neg c2] at h
      refine zs_aload_n hX dX13_formsOf_360 rfl rfl ?_
      refine zg_x2 hX dX13_formsOf_361 ?_
      refine zs_iload_n hX dX13_formsOf_364 rfl rfl ?_
      obtain ⟨b3, h⟩ := zgd_e h
      refine zl_x2 hX dX13_formsOf_365 (zin_ok b3) ?_
      refine zs_iload_n hX dX13_formsOf_366 rfl rfl ?_
      refine zs_iadd hX dX13_formsOf_367 ?_
      refine zs_istore hX dX13_formsOf_368 (by decide) rfl ?_
      dsimp only [List.set]
      refine zs_aload_n hX dX13_formsOf_370 rfl rfl ?_
      refine zg_aKind hX dX13_formsOf_371 ?_
      refine zs_iload hX dX13_formsOf_374 rfl ?_
      obtain ⟨b4, h⟩ := zgd_e h
      refine zl_aKind hX dX13_formsOf_376 (zin_ok b4) ?_
      refine zs_iconst (v := 1) hX dX13_formsOf_377 (by decide) ?_
      refine zs_icmp_ne (tgt := 396) hX dX13_formsOf_378 (by decide) (fun c5 => ?_) (fun c5 => ?_)
      · rw [if_neg c5] at h
        refine zs_aload_n hX dX13_formsOf_396 rfl rfl ?_
        refine zg_aKind hX dX13_formsOf_397 ?_
        refine zs_iload hX dX13_formsOf_400 rfl ?_
        obtain ⟨b6, h⟩ := zgd_e h
        refine zl_aKind hX dX13_formsOf_402 (zin_ok b6) ?_
        refine zs_if_ne (tgt := 448) hX dX13_formsOf_403 (by decide) (fun c7 => ?_) (fun c7 => ?_)
        · rw [if_neg c7] at h
          refine zs_weak hX (lw := [some (.ref h0), some (.int x1), some (.int x2), some (.int x3), none]) ⟨rfl, rfl, rfl, rfl, trivial⟩ ?_
          exact pj_formsOf_448 hX hc hk350 h
        · rw [if_pos c7] at h
          refine zs_aload_n hX dX13_formsOf_406 rfl rfl ?_
          refine zg_text hX dX13_formsOf_407 ?_
          refine zs_aload_n hX dX13_formsOf_410 rfl rfl ?_
          refine zg_aAt hX dX13_formsOf_411 ?_
          refine zs_iload hX dX13_formsOf_414 rfl ?_
          obtain ⟨b8, h⟩ := zgd_e h
          refine zl_aAt hX dX13_formsOf_416 (zin_ok b8) ?_
          obtain ⟨b9, h⟩ := zgd_e h
          refine zl_text hX dX13_formsOf_417 (zin_ok b9) ?_
          refine zs_bipush (v := 40) hX dX13_formsOf_418 (by decide) ?_
          refine zs_icmp_ne (tgt := 448) hX dX13_formsOf_420 (by decide) (fun c10 => ?_) (fun c10 => ?_)
          · rw [if_neg c10] at h
            refine zs_weak hX (lw := [some (.ref h0), some (.int x1), some (.int x2), some (.int x3), none]) ⟨rfl, rfl, rfl, rfl, trivial⟩ ?_
            exact pj_formsOf_448 hX hc hk350 h
          · rw [if_pos c10] at h
            refine zs_aload_n hX dX13_formsOf_423 rfl rfl ?_
            refine zs_aload_n hX dX13_formsOf_424 rfl rfl ?_
            refine zg_aWhat hX dX13_formsOf_425 ?_
            refine zs_iload hX dX13_formsOf_428 rfl ?_
            obtain ⟨b11, h⟩ := zgd_e h
            refine zl_aWhat hX dX13_formsOf_430 (zin_ok b11) ?_
            obtain ⟨r14, s12, e13, h⟩ := zci_e h
            refine zc_isTerm hX dX13_formsOf_431 (Nat.le_of_ble_eq_true rfl) (hc _ _ _ _ e13) (fun r9 u9 h9 => ?_)
            cases h9
            refine zs_if_ne (tgt := 448) hX dX13_formsOf_434 (by decide) (fun c15 => ?_) (fun c15 => ?_)
            · rw [if_neg c15] at h
              refine zs_weak hX (lw := [some (.ref h0), some (.int x1), some (.int x2), some (.int x3), none]) ⟨rfl, rfl, rfl, rfl, trivial⟩ ?_
              exact pj_formsOf_448 hX hc hk350 h
            · rw [if_pos c15] at h
              refine zs_aload_n hX dX13_formsOf_437 rfl rfl ?_
              refine zs_aload_n hX dX13_formsOf_438 rfl rfl ?_
              refine zg_aAt hX dX13_formsOf_439 ?_
              refine zs_iload hX dX13_formsOf_442 rfl ?_
              obtain ⟨b16, h⟩ := zgd_e h
              refine zl_aAt hX dX13_formsOf_444 (zin_ok b16) ?_
              obtain ⟨s17, e18, h⟩ := zcv_e h
              refine zc_wrongForm hX dX13_formsOf_445 (Nat.le_of_ble_eq_true rfl) (hc _ _ _ _ e18) (fun u9 h9 => ?_)
              cases h9
              refine zs_weak hX (lw := [some (.ref h0), some (.int x1), some (.int x2), some (.int x3), none]) ⟨rfl, rfl, rfl, rfl, trivial⟩ ?_
              exact pj_formsOf_448 hX hc hk350 h
      · rw [if_pos c5] at h
        refine zs_aload_n hX dX13_formsOf_381 rfl rfl ?_
        refine zs_aload_n hX dX13_formsOf_382 rfl rfl ?_
        refine zg_aWhat hX dX13_formsOf_383 ?_
        refine zs_iload hX dX13_formsOf_386 rfl ?_
        obtain ⟨b19, h⟩ := zgd_e h
        refine zl_aWhat hX dX13_formsOf_388 (zin_ok b19) ?_
        refine zs_iload_n hX dX13_formsOf_389 rfl rfl ?_
        obtain ⟨s20, e21, h⟩ := zcv_e h
        refine zc_formsOf hX dX13_formsOf_390 (Nat.le_of_ble_eq_true rfl) (hc _ _ _ _ e21) (fun u9 h9 => ?_)
        cases h9
        refine zs_goto (tgt := 448) hX dX13_formsOf_393 (by decide) ?_
        refine zs_weak hX (lw := [some (.ref h0), some (.int x1), some (.int x2), some (.int x3), none]) ⟨rfl, rfl, rfl, rfl, trivial⟩ ?_
        exact pj_formsOf_448 hX hc hk350 h
set_option maxHeartbeats 4000000 in
theorem pj_formsOf_289 {h0 : Nat} {qs : List Nat} {ks : Nat → Nat} {n : Nat} {call : zCl} {kc : Nat → List Value → zSt → (Option Value → zSt → Prop) → Prop} {v : Option Value × zSt} {X : Nat → zLv → List Value → zSt → Prop} (hX : zSem cX13_formsOf 5 none h0 qs ks kc (fun r u => (r, u) = v) X) (hc : ∀ j av s w, call j av s = some w → kc j av s (fun r u => (r, u) = w)) {x1 : Int32} {x3 : Int32} {σ : zSt} (h : j_formsOf_289 n call h0 qs ks x1 x3 σ = some v) : X 289 [some (.ref h0), some (.int x1), none, some (.int x3), none] [] σ := by
  rw [j_formsOf_289] at h
  refine zs_aload_n hX dX13_formsOf_289 rfl rfl ?_
  refine zs_aload_n hX dX13_formsOf_290 rfl rfl ?_
  refine zg_x1 hX dX13_formsOf_291 ?_
  refine zs_iload_n hX dX13_formsOf_294 rfl rfl ?_
  obtain ⟨b1, h⟩ := zgd_e h
  refine zl_x1 hX dX13_formsOf_295 (zin_ok b1) ?_
  obtain ⟨s2, e3, h⟩ := zcv_e h
  refine zc_formsOfCondition hX dX13_formsOf_296 (Nat.le_of_ble_eq_true rfl) (hc _ _ _ _ e3) (fun u9 h9 => ?_)
  cases h9
  refine zs_aload_n hX dX13_formsOf_299 rfl rfl ?_
  refine zs_aload_n hX dX13_formsOf_300 rfl rfl ?_
  refine zg_x3 hX dX13_formsOf_301 ?_
  refine zs_iload_n hX dX13_formsOf_304 rfl rfl ?_
  obtain ⟨b4, h⟩ := zgd_e h
  refine zl_x3 hX dX13_formsOf_305 (zin_ok b4) ?_
  refine zs_iload_n hX dX13_formsOf_306 rfl rfl ?_
  obtain ⟨s5, e6, h⟩ := zcv_e h
  refine zc_formsOf hX dX13_formsOf_307 (Nat.le_of_ble_eq_true rfl) (hc _ _ _ _ e6) (fun u9 h9 => ?_)
  cases h9
  refine zs_aload_n hX dX13_formsOf_310 rfl rfl ?_
  refine zg_kind hX dX13_formsOf_311 ?_
  refine zs_iload_n hX dX13_formsOf_314 rfl rfl ?_
  obtain ⟨b7, h⟩ := zgd_e h
  refine zl_kind hX dX13_formsOf_315 (zin_ok b7) ?_
  refine zs_iconst (v := 4) hX dX13_formsOf_316 (by decide) ?_
  refine zs_icmp_ne (tgt := 512) hX dX13_formsOf_317 (by decide) (fun c8 => ?_) (fun c8 => ?_)
  · rw [if_neg c8] at h
    exact zs_vret hX dX13_formsOf_512 rfl (Option.some.inj h)
  · rw [if_pos c8] at h
    refine zs_aload_n hX dX13_formsOf_320 rfl rfl ?_
    refine zs_aload_n hX dX13_formsOf_321 rfl rfl ?_
    refine zg_x4 hX dX13_formsOf_322 ?_
    refine zs_iload_n hX dX13_formsOf_325 rfl rfl ?_
    obtain ⟨b9, h⟩ := zgd_e h
    refine zl_x4 hX dX13_formsOf_326 (zin_ok b9) ?_
    refine zs_iload_n hX dX13_formsOf_327 rfl rfl ?_
    obtain ⟨s10, e11, h⟩ := zcv_e h
    refine zc_formsOf hX dX13_formsOf_328 (Nat.le_of_ble_eq_true rfl) (hc _ _ _ _ e11) (fun u9 h9 => ?_)
    cases h9
    refine zs_goto (tgt := 512) hX dX13_formsOf_331 (by decide) ?_
    exact zs_vret hX dX13_formsOf_512 rfl (Option.some.inj h)
set_option maxHeartbeats 4000000 in
theorem pj_formsOf_260 {h0 : Nat} {qs : List Nat} {ks : Nat → Nat} {n : Nat} {call : zCl} {kc : Nat → List Value → zSt → (Option Value → zSt → Prop) → Prop} {v : Option Value × zSt} {X : Nat → zLv → List Value → zSt → Prop} (hX : zSem cX13_formsOf 5 none h0 qs ks kc (fun r u => (r, u) = v) X) (hc : ∀ j av s w, call j av s = some w → kc j av s (fun r u => (r, u) = w)) {x1 : Int32} {x2 : Int32} {σ : zSt} (h : j_formsOf_260 n call h0 qs ks x1 x2 σ = some v) : X 260 [some (.ref h0), some (.int x1), some (.int x2), none, none] [] σ := by
  rw [j_formsOf_260] at h
  refine zs_iload_n hX dX13_formsOf_260 rfl rfl ?_
  refine zs_aload_n hX dX13_formsOf_261 rfl rfl ?_
  refine zs_aload_n hX dX13_formsOf_262 rfl rfl ?_
  refine zg_x1 hX dX13_formsOf_263 ?_
  refine zs_iload_n hX dX13_formsOf_266 rfl rfl ?_
  obtain ⟨b1, h⟩ := zgd_e h
  refine zl_x1 hX dX13_formsOf_267 (zin_ok b1) ?_
  obtain ⟨r4, s2, e3, h⟩ := zci_e h
  refine zc_count hX dX13_formsOf_268 (Nat.le_of_ble_eq_true rfl) (hc _ _ _ _ e3) (fun r9 u9 h9 => ?_)
  cases h9
  refine zs_iadd hX dX13_formsOf_271 ?_
  refine zs_istore_n hX dX13_formsOf_272 rfl (by decide) rfl ?_
  dsimp only [List.set]
  refine zs_iload_n hX dX13_formsOf_273 rfl rfl ?_
  refine zs_bipush (v := 6) hX dX13_formsOf_274 (by decide) ?_
  refine zs_icmp_le (tgt := 289) hX dX13_formsOf_276 (by decide) (fun c5 => ?_) (fun c5 => ?_)
  · rw [if_pos c5] at h
    refine zs_weak hX (lw := [some (.ref h0), some (.int x1), none, some (.int (x2 + r4)), none]) ⟨rfl, rfl, rfl, trivial⟩ ?_
    exact pj_formsOf_289 hX hc h
  · rw [if_neg c5] at h
    refine zs_aload_n hX dX13_formsOf_279 rfl rfl ?_
    refine zs_aload_n hX dX13_formsOf_280 rfl rfl ?_
    refine zg_sign hX dX13_formsOf_281 ?_
    refine zs_iload_n hX dX13_formsOf_284 rfl rfl ?_
    obtain ⟨b6, h⟩ := zgd_e h
    refine zl_sign hX dX13_formsOf_285 (zin_ok b6) ?_
    obtain ⟨s7, e8, h⟩ := zcv_e h
    refine zc_wrongForm hX dX13_formsOf_286 (Nat.le_of_ble_eq_true rfl) (hc _ _ _ _ e8) (fun u9 h9 => ?_)
    cases h9
    refine zs_weak hX (lw := [some (.ref h0), some (.int x1), none, some (.int (x2 + r4)), none]) ⟨rfl, rfl, rfl, trivial⟩ ?_
    exact pj_formsOf_289 hX hc h
set_option maxHeartbeats 4000000 in
theorem pb_formsOf {h0 : Nat} {qs : List Nat} {ks : Nat → Nat} {n : Nat} {call : zCl} {kc : Nat → List Value → zSt → (Option Value → zSt → Prop) → Prop} {v : Option Value × zSt} {X : Nat → zLv → List Value → zSt → Prop} (hX : zSem cX13_formsOf 5 none h0 qs ks kc (fun r u => (r, u) = v) X) (hc : ∀ j av s w, call j av s = some w → kc j av s (fun r u => (r, u) = w)) {x1 : Int32} {x2 : Int32} {σ : zSt} (h : b_formsOf n call h0 qs ks x1 x2 σ = some v) : X 0 [some (.ref h0), some (.int x1), some (.int x2), none, none] [] σ := by
  rw [b_formsOf] at h
  refine zs_aload_n hX dX13_formsOf_0 rfl rfl ?_
  refine zg_kind hX dX13_formsOf_1 ?_
  refine zs_iload_n hX dX13_formsOf_4 rfl rfl ?_
  obtain ⟨b1, h⟩ := zgd_e h
  refine zl_kind hX dX13_formsOf_5 (zin_ok b1) ?_
  by_cases c2 : (σ.2.2.1 6 (x1).toNatClampNeg) = 1
  · rw [if_pos c2] at h
    refine zs_tableIn (tgt := 96) (off := 90) hX dX13_formsOf_6 (by rw [c2]; decide) (by rw [c2]; decide) (by rw [c2]; rfl) (by decide) ?_
    refine zs_aload_n hX dX13_formsOf_96 rfl rfl ?_
    refine zs_aload_n hX dX13_formsOf_97 rfl rfl ?_
    refine zg_nodeType hX dX13_formsOf_98 ?_
    refine zs_iload_n hX dX13_formsOf_101 rfl rfl ?_
    obtain ⟨b3, h⟩ := zgd_e h
    refine zl_nodeType hX dX13_formsOf_102 (zin_ok b3) ?_
    refine zs_aload_n hX dX13_formsOf_103 rfl rfl ?_
    refine zg_at hX dX13_formsOf_104 ?_
    refine zs_iload_n hX dX13_formsOf_107 rfl rfl ?_
    obtain ⟨b4, h⟩ := zgd_e h
    refine zl_at hX dX13_formsOf_108 (zin_ok b4) ?_
    obtain ⟨s5, e6, h⟩ := zcv_e h
    refine zc_wants hX dX13_formsOf_109 (Nat.le_of_ble_eq_true rfl) (hc _ _ _ _ e6) (fun u9 h9 => ?_)
    cases h9
    refine zs_aload_n hX dX13_formsOf_112 rfl rfl ?_
    refine zs_aload_n hX dX13_formsOf_113 rfl rfl ?_
    refine zg_x3 hX dX13_formsOf_114 ?_
    refine zs_iload_n hX dX13_formsOf_117 rfl rfl ?_
    obtain ⟨b7, h⟩ := zgd_e h
    refine zl_x3 hX dX13_formsOf_118 (zin_ok b7) ?_
    refine zs_iload_n hX dX13_formsOf_119 rfl rfl ?_
    obtain ⟨s8, e9, h⟩ := zcv_e h
    refine zc_formsOf hX dX13_formsOf_120 (Nat.le_of_ble_eq_true rfl) (hc _ _ _ _ e9) (fun u9 h9 => ?_)
    cases h9
    refine zs_aload_n hX dX13_formsOf_123 rfl rfl ?_
    refine zs_aload_n hX dX13_formsOf_124 rfl rfl ?_
    refine zg_x4 hX dX13_formsOf_125 ?_
    refine zs_iload_n hX dX13_formsOf_128 rfl rfl ?_
    obtain ⟨b10, h⟩ := zgd_e h
    refine zl_x4 hX dX13_formsOf_129 (zin_ok b10) ?_
    refine zs_iload_n hX dX13_formsOf_130 rfl rfl ?_
    obtain ⟨s11, e12, h⟩ := zcv_e h
    refine zc_formsOf hX dX13_formsOf_131 (Nat.le_of_ble_eq_true rfl) (hc _ _ _ _ e12) (fun u9 h9 => ?_)
    cases h9
    refine zs_goto (tgt := 512) hX dX13_formsOf_134 (by decide) ?_
    exact zs_vret hX dX13_formsOf_512 rfl (Option.some.inj h)
  rw [if_neg c2] at h
  by_cases c13 : (σ.2.2.1 6 (x1).toNatClampNeg) = 2
  · rw [if_pos c13] at h
    refine zs_tableIn (tgt := 137) (off := 131) hX dX13_formsOf_6 (by rw [c13]; decide) (by rw [c13]; decide) (by rw [c13]; rfl) (by decide) ?_
    refine zs_aload_n hX dX13_formsOf_137 rfl rfl ?_
    refine zs_aload_n hX dX13_formsOf_138 rfl rfl ?_
    refine zg_nodeType hX dX13_formsOf_139 ?_
    refine zs_iload_n hX dX13_formsOf_142 rfl rfl ?_
    obtain ⟨b14, h⟩ := zgd_e h
    refine zl_nodeType hX dX13_formsOf_143 (zin_ok b14) ?_
    refine zs_aload_n hX dX13_formsOf_144 rfl rfl ?_
    refine zg_at hX dX13_formsOf_145 ?_
    refine zs_iload_n hX dX13_formsOf_148 rfl rfl ?_
    obtain ⟨b15, h⟩ := zgd_e h
    refine zl_at hX dX13_formsOf_149 (zin_ok b15) ?_
    obtain ⟨s16, e17, h⟩ := zcv_e h
    refine zc_wants hX dX13_formsOf_150 (Nat.le_of_ble_eq_true rfl) (hc _ _ _ _ e17) (fun u9 h9 => ?_)
    cases h9
    refine zs_aload_n hX dX13_formsOf_153 rfl rfl ?_
    refine zs_aload_n hX dX13_formsOf_154 rfl rfl ?_
    refine zg_dType hX dX13_formsOf_155 ?_
    refine zs_aload_n hX dX13_formsOf_158 rfl rfl ?_
    refine zg_whose hX dX13_formsOf_159 ?_
    refine zs_aload_n hX dX13_formsOf_162 rfl rfl ?_
    refine zg_x1 hX dX13_formsOf_163 ?_
    refine zs_iload_n hX dX13_formsOf_166 rfl rfl ?_
    obtain ⟨b18, h⟩ := zgd_e h
    refine zl_x1 hX dX13_formsOf_167 (zin_ok b18) ?_
    obtain ⟨b19, h⟩ := zgd_e h
    refine zl_whose hX dX13_formsOf_168 (zin_ok b19) ?_
    obtain ⟨b20, h⟩ := zgd_e h
    refine zl_dType hX dX13_formsOf_169 (zin_ok b20) ?_
    refine zs_aload_n hX dX13_formsOf_170 rfl rfl ?_
    refine zg_at hX dX13_formsOf_171 ?_
    refine zs_iload_n hX dX13_formsOf_174 rfl rfl ?_
    obtain ⟨b21, h⟩ := zgd_e h
    refine zl_at hX dX13_formsOf_175 (zin_ok b21) ?_
    obtain ⟨s22, e23, h⟩ := zcv_e h
    refine zc_wants hX dX13_formsOf_176 (Nat.le_of_ble_eq_true rfl) (hc _ _ _ _ e23) (fun u9 h9 => ?_)
    cases h9
    refine zs_aload_n hX dX13_formsOf_179 rfl rfl ?_
    refine zs_aload_n hX dX13_formsOf_180 rfl rfl ?_
    refine zg_x3 hX dX13_formsOf_181 ?_
    refine zs_iload_n hX dX13_formsOf_184 rfl rfl ?_
    obtain ⟨b24, h⟩ := zgd_e h
    refine zl_x3 hX dX13_formsOf_185 (zin_ok b24) ?_
    refine zs_iload_n hX dX13_formsOf_186 rfl rfl ?_
    obtain ⟨s25, e26, h⟩ := zcv_e h
    refine zc_formsOf hX dX13_formsOf_187 (Nat.le_of_ble_eq_true rfl) (hc _ _ _ _ e26) (fun u9 h9 => ?_)
    cases h9
    refine zs_aload_n hX dX13_formsOf_190 rfl rfl ?_
    refine zs_aload_n hX dX13_formsOf_191 rfl rfl ?_
    refine zg_x4 hX dX13_formsOf_192 ?_
    refine zs_iload_n hX dX13_formsOf_195 rfl rfl ?_
    obtain ⟨b27, h⟩ := zgd_e h
    refine zl_x4 hX dX13_formsOf_196 (zin_ok b27) ?_
    refine zs_iload_n hX dX13_formsOf_197 rfl rfl ?_
    obtain ⟨s28, e29, h⟩ := zcv_e h
    refine zc_formsOf hX dX13_formsOf_198 (Nat.le_of_ble_eq_true rfl) (hc _ _ _ _ e29) (fun u9 h9 => ?_)
    cases h9
    refine zs_goto (tgt := 512) hX dX13_formsOf_201 (by decide) ?_
    exact zs_vret hX dX13_formsOf_512 rfl (Option.some.inj h)
  rw [if_neg c13] at h
  by_cases c30 : (σ.2.2.1 6 (x1).toNatClampNeg) = 3
  · rw [if_pos c30] at h
    refine zs_tableIn (tgt := 204) (off := 198) hX dX13_formsOf_6 (by rw [c30]; decide) (by rw [c30]; decide) (by rw [c30]; rfl) (by decide) ?_
    refine zs_aload_n hX dX13_formsOf_204 rfl rfl ?_
    refine zs_aload_n hX dX13_formsOf_205 rfl rfl ?_
    refine zg_nodeType hX dX13_formsOf_206 ?_
    refine zs_iload_n hX dX13_formsOf_209 rfl rfl ?_
    obtain ⟨b31, h⟩ := zgd_e h
    refine zl_nodeType hX dX13_formsOf_210 (zin_ok b31) ?_
    refine zs_aload_n hX dX13_formsOf_211 rfl rfl ?_
    refine zg_at hX dX13_formsOf_212 ?_
    refine zs_iload_n hX dX13_formsOf_215 rfl rfl ?_
    obtain ⟨b32, h⟩ := zgd_e h
    refine zl_at hX dX13_formsOf_216 (zin_ok b32) ?_
    obtain ⟨s33, e34, h⟩ := zcv_e h
    refine zc_wants hX dX13_formsOf_217 (Nat.le_of_ble_eq_true rfl) (hc _ _ _ _ e34) (fun u9 h9 => ?_)
    cases h9
    refine zs_aload_n hX dX13_formsOf_220 rfl rfl ?_
    refine zs_aload_n hX dX13_formsOf_221 rfl rfl ?_
    refine zg_x3 hX dX13_formsOf_222 ?_
    refine zs_iload_n hX dX13_formsOf_225 rfl rfl ?_
    obtain ⟨b35, h⟩ := zgd_e h
    refine zl_x3 hX dX13_formsOf_226 (zin_ok b35) ?_
    refine zs_iload_n hX dX13_formsOf_227 rfl rfl ?_
    obtain ⟨s36, e37, h⟩ := zcv_e h
    refine zc_formsOf hX dX13_formsOf_228 (Nat.le_of_ble_eq_true rfl) (hc _ _ _ _ e37) (fun u9 h9 => ?_)
    cases h9
    refine zs_goto (tgt := 512) hX dX13_formsOf_231 (by decide) ?_
    exact zs_vret hX dX13_formsOf_512 rfl (Option.some.inj h)
  rw [if_neg c30] at h
  by_cases c38 : (σ.2.2.1 6 (x1).toNatClampNeg) = 4
  · rw [if_pos c38] at h
    refine zs_tableIn (tgt := 234) (off := 228) hX dX13_formsOf_6 (by rw [c38]; decide) (by rw [c38]; decide) (by rw [c38]; rfl) (by decide) ?_
    refine zs_aload_n hX dX13_formsOf_234 rfl rfl ?_
    refine zg_kind hX dX13_formsOf_235 ?_
    refine zs_iload_n hX dX13_formsOf_238 rfl rfl ?_
    obtain ⟨b39, h⟩ := zgd_e h
    refine zl_kind hX dX13_formsOf_239 (zin_ok b39) ?_
    refine zs_iconst (v := 4) hX dX13_formsOf_240 (by decide) ?_
    refine zs_icmp_ne (tgt := 260) hX dX13_formsOf_241 (by decide) (fun c40 => ?_) (fun c40 => ?_)
    · rw [if_neg c40] at h
      exact pj_formsOf_260 hX hc h
    · rw [if_pos c40] at h
      refine zs_aload_n hX dX13_formsOf_244 rfl rfl ?_
      refine zs_aload_n hX dX13_formsOf_245 rfl rfl ?_
      refine zg_nodeType hX dX13_formsOf_246 ?_
      refine zs_iload_n hX dX13_formsOf_249 rfl rfl ?_
      obtain ⟨b41, h⟩ := zgd_e h
      refine zl_nodeType hX dX13_formsOf_250 (zin_ok b41) ?_
      refine zs_aload_n hX dX13_formsOf_251 rfl rfl ?_
      refine zg_at hX dX13_formsOf_252 ?_
      refine zs_iload_n hX dX13_formsOf_255 rfl rfl ?_
      obtain ⟨b42, h⟩ := zgd_e h
      refine zl_at hX dX13_formsOf_256 (zin_ok b42) ?_
      obtain ⟨s43, e44, h⟩ := zcv_e h
      refine zc_wants hX dX13_formsOf_257 (Nat.le_of_ble_eq_true rfl) (hc _ _ _ _ e44) (fun u9 h9 => ?_)
      cases h9
      exact pj_formsOf_260 hX hc h
  rw [if_neg c38] at h
  by_cases c45 : (σ.2.2.1 6 (x1).toNatClampNeg) = 5
  · rw [if_pos c45] at h
    refine zs_tableIn (tgt := 234) (off := 228) hX dX13_formsOf_6 (by rw [c45]; decide) (by rw [c45]; decide) (by rw [c45]; rfl) (by decide) ?_
    refine zs_aload_n hX dX13_formsOf_234 rfl rfl ?_
    refine zg_kind hX dX13_formsOf_235 ?_
    refine zs_iload_n hX dX13_formsOf_238 rfl rfl ?_
    obtain ⟨b46, h⟩ := zgd_e h
    refine zl_kind hX dX13_formsOf_239 (zin_ok b46) ?_
    refine zs_iconst (v := 4) hX dX13_formsOf_240 (by decide) ?_
    refine zs_icmp_ne (tgt := 260) hX dX13_formsOf_241 (by decide) (fun c47 => ?_) (fun c47 => ?_)
    · rw [if_neg c47] at h
      exact pj_formsOf_260 hX hc h
    · rw [if_pos c47] at h
      refine zs_aload_n hX dX13_formsOf_244 rfl rfl ?_
      refine zs_aload_n hX dX13_formsOf_245 rfl rfl ?_
      refine zg_nodeType hX dX13_formsOf_246 ?_
      refine zs_iload_n hX dX13_formsOf_249 rfl rfl ?_
      obtain ⟨b48, h⟩ := zgd_e h
      refine zl_nodeType hX dX13_formsOf_250 (zin_ok b48) ?_
      refine zs_aload_n hX dX13_formsOf_251 rfl rfl ?_
      refine zg_at hX dX13_formsOf_252 ?_
      refine zs_iload_n hX dX13_formsOf_255 rfl rfl ?_
      obtain ⟨b49, h⟩ := zgd_e h
      refine zl_at hX dX13_formsOf_256 (zin_ok b49) ?_
      obtain ⟨s50, e51, h⟩ := zcv_e h
      refine zc_wants hX dX13_formsOf_257 (Nat.le_of_ble_eq_true rfl) (hc _ _ _ _ e51) (fun u9 h9 => ?_)
      cases h9
      exact pj_formsOf_260 hX hc h
  rw [if_neg c45] at h
  by_cases c52 : (σ.2.2.1 6 (x1).toNatClampNeg) = 6
  · rw [if_pos c52] at h
    refine zs_tableIn (tgt := 334) (off := 328) hX dX13_formsOf_6 (by rw [c52]; decide) (by rw [c52]; decide) (by rw [c52]; rfl) (by decide) ?_
    refine zs_aload_n hX dX13_formsOf_334 rfl rfl ?_
    refine zs_aload_n hX dX13_formsOf_335 rfl rfl ?_
    refine zg_x4 hX dX13_formsOf_336 ?_
    refine zs_iload_n hX dX13_formsOf_339 rfl rfl ?_
    obtain ⟨b53, h⟩ := zgd_e h
    refine zl_x4 hX dX13_formsOf_340 (zin_ok b53) ?_
    refine zs_iload_n hX dX13_formsOf_341 rfl rfl ?_
    obtain ⟨s54, e55, h⟩ := zcv_e h
    refine zc_formsOf hX dX13_formsOf_342 (Nat.le_of_ble_eq_true rfl) (hc _ _ _ _ e55) (fun u9 h9 => ?_)
    cases h9
    refine zs_goto (tgt := 512) hX dX13_formsOf_345 (by decide) ?_
    exact zs_vret hX dX13_formsOf_512 rfl (Option.some.inj h)
  rw [if_neg c52] at h
  by_cases c56 : (σ.2.2.1 6 (x1).toNatClampNeg) = 7
  · rw [if_pos c56] at h
    refine zs_tableIn (tgt := 512) (off := 506) hX dX13_formsOf_6 (by rw [c56]; decide) (by rw [c56]; decide) (by rw [c56]; rfl) (by decide) ?_
    exact zs_vret hX dX13_formsOf_512 rfl (Option.some.inj h)
  rw [if_neg c56] at h
  by_cases c57 : (σ.2.2.1 6 (x1).toNatClampNeg) = 8
  · rw [if_pos c57] at h
    refine zs_tableIn (tgt := 512) (off := 506) hX dX13_formsOf_6 (by rw [c57]; decide) (by rw [c57]; decide) (by rw [c57]; rfl) (by decide) ?_
    exact zs_vret hX dX13_formsOf_512 rfl (Option.some.inj h)
  rw [if_neg c57] at h
  by_cases c58 : (σ.2.2.1 6 (x1).toNatClampNeg) = 9
  · rw [if_pos c58] at h
    refine zs_tableIn (tgt := 512) (off := 506) hX dX13_formsOf_6 (by rw [c58]; decide) (by rw [c58]; decide) (by rw [c58]; rfl) (by decide) ?_
    exact zs_vret hX dX13_formsOf_512 rfl (Option.some.inj h)
  rw [if_neg c58] at h
  by_cases c59 : (σ.2.2.1 6 (x1).toNatClampNeg) = 10
  · rw [if_pos c59] at h
    refine zs_tableIn (tgt := 512) (off := 506) hX dX13_formsOf_6 (by rw [c59]; decide) (by rw [c59]; decide) (by rw [c59]; rfl) (by decide) ?_
    exact zs_vret hX dX13_formsOf_512 rfl (Option.some.inj h)
  rw [if_neg c59] at h
  by_cases c60 : (σ.2.2.1 6 (x1).toNatClampNeg) = 11
  · rw [if_pos c60] at h
    refine zs_tableIn (tgt := 512) (off := 506) hX dX13_formsOf_6 (by rw [c60]; decide) (by rw [c60]; decide) (by rw [c60]; rfl) (by decide) ?_
    exact zs_vret hX dX13_formsOf_512 rfl (Option.some.inj h)
  rw [if_neg c60] at h
  by_cases c61 : (σ.2.2.1 6 (x1).toNatClampNeg) = 12
  · rw [if_pos c61] at h
    refine zs_tableIn (tgt := 512) (off := 506) hX dX13_formsOf_6 (by rw [c61]; decide) (by rw [c61]; decide) (by rw [c61]; rfl) (by decide) ?_
    exact zs_vret hX dX13_formsOf_512 rfl (Option.some.inj h)
  rw [if_neg c61] at h
  by_cases c62 : (σ.2.2.1 6 (x1).toNatClampNeg) = 13
  · rw [if_pos c62] at h
    refine zs_tableIn (tgt := 512) (off := 506) hX dX13_formsOf_6 (by rw [c62]; decide) (by rw [c62]; decide) (by rw [c62]; rfl) (by decide) ?_
    exact zs_vret hX dX13_formsOf_512 rfl (Option.some.inj h)
  rw [if_neg c62] at h
  by_cases c63 : (σ.2.2.1 6 (x1).toNatClampNeg) = 14
  · rw [if_pos c63] at h
    refine zs_tableIn (tgt := 512) (off := 506) hX dX13_formsOf_6 (by rw [c63]; decide) (by rw [c63]; decide) (by rw [c63]; rfl) (by decide) ?_
    exact zs_vret hX dX13_formsOf_512 rfl (Option.some.inj h)
  rw [if_neg c63] at h
  by_cases c64 : (σ.2.2.1 6 (x1).toNatClampNeg) = 15
  · rw [if_pos c64] at h
    refine zs_tableIn (tgt := 348) (off := 342) hX dX13_formsOf_6 (by rw [c64]; decide) (by rw [c64]; decide) (by rw [c64]; rfl) (by decide) ?_
    refine zs_iconst (v := 0) hX dX13_formsOf_348 (by decide) ?_
    refine zs_istore_n hX dX13_formsOf_349 rfl (by decide) rfl ?_
    dsimp only [List.set]
    exact pl_formsOf_350 hX hc n _ _ _ _ h
  rw [if_neg c64] at h
  by_cases c65 : (σ.2.2.1 6 (x1).toNatClampNeg) = 16
  · rw [if_pos c65] at h
    refine zs_tableIn (tgt := 498) (off := 492) hX dX13_formsOf_6 (by rw [c65]; decide) (by rw [c65]; decide) (by rw [c65]; rfl) (by decide) ?_
    refine zs_aload_n hX dX13_formsOf_498 rfl rfl ?_
    refine zs_aload_n hX dX13_formsOf_499 rfl rfl ?_
    refine zg_x3 hX dX13_formsOf_500 ?_
    refine zs_iload_n hX dX13_formsOf_503 rfl rfl ?_
    obtain ⟨b66, h⟩ := zgd_e h
    refine zl_x3 hX dX13_formsOf_504 (zin_ok b66) ?_
    refine zs_iload_n hX dX13_formsOf_505 rfl rfl ?_
    obtain ⟨s67, e68, h⟩ := zcv_e h
    refine zc_formsOf hX dX13_formsOf_506 (Nat.le_of_ble_eq_true rfl) (hc _ _ _ _ e68) (fun u9 h9 => ?_)
    cases h9
    refine zs_goto (tgt := 512) hX dX13_formsOf_509 (by decide) ?_
    exact zs_vret hX dX13_formsOf_512 rfl (Option.some.inj h)
  rw [if_neg c65] at h
  by_cases c69 : (σ.2.2.1 6 (x1).toNatClampNeg) = 17
  · rw [if_pos c69] at h
    refine zs_tableIn (tgt := 512) (off := 506) hX dX13_formsOf_6 (by rw [c69]; decide) (by rw [c69]; decide) (by rw [c69]; rfl) (by decide) ?_
    exact zs_vret hX dX13_formsOf_512 rfl (Option.some.inj h)
  rw [if_neg c69] at h
  by_cases c70 : (σ.2.2.1 6 (x1).toNatClampNeg) = 18
  · rw [if_pos c70] at h
    refine zs_tableIn (tgt := 512) (off := 506) hX dX13_formsOf_6 (by rw [c70]; decide) (by rw [c70]; decide) (by rw [c70]; rfl) (by decide) ?_
    exact zs_vret hX dX13_formsOf_512 rfl (Option.some.inj h)
  rw [if_neg c70] at h
  by_cases c71 : (σ.2.2.1 6 (x1).toNatClampNeg) = 19
  · rw [if_pos c71] at h
    refine zs_tableIn (tgt := 457) (off := 451) hX dX13_formsOf_6 (by rw [c71]; decide) (by rw [c71]; decide) (by rw [c71]; rfl) (by decide) ?_
    refine zs_aload_n hX dX13_formsOf_457 rfl rfl ?_
    refine zs_aload_n hX dX13_formsOf_458 rfl rfl ?_
    refine zg_nodeType hX dX13_formsOf_459 ?_
    refine zs_iload_n hX dX13_formsOf_462 rfl rfl ?_
    obtain ⟨b72, h⟩ := zgd_e h
    refine zl_nodeType hX dX13_formsOf_463 (zin_ok b72) ?_
    refine zs_aload_n hX dX13_formsOf_464 rfl rfl ?_
    refine zg_at hX dX13_formsOf_465 ?_
    refine zs_iload_n hX dX13_formsOf_468 rfl rfl ?_
    obtain ⟨b73, h⟩ := zgd_e h
    refine zl_at hX dX13_formsOf_469 (zin_ok b73) ?_
    obtain ⟨s74, e75, h⟩ := zcv_e h
    refine zc_wants hX dX13_formsOf_470 (Nat.le_of_ble_eq_true rfl) (hc _ _ _ _ e75) (fun u9 h9 => ?_)
    cases h9
    refine zs_aload_n hX dX13_formsOf_473 rfl rfl ?_
    refine zs_aload_n hX dX13_formsOf_474 rfl rfl ?_
    refine zg_x3 hX dX13_formsOf_475 ?_
    refine zs_iload_n hX dX13_formsOf_478 rfl rfl ?_
    obtain ⟨b76, h⟩ := zgd_e h
    refine zl_x3 hX dX13_formsOf_479 (zin_ok b76) ?_
    refine zs_iload_n hX dX13_formsOf_480 rfl rfl ?_
    obtain ⟨s77, e78, h⟩ := zcv_e h
    refine zc_formsOf hX dX13_formsOf_481 (Nat.le_of_ble_eq_true rfl) (hc _ _ _ _ e78) (fun u9 h9 => ?_)
    cases h9
    refine zs_aload_n hX dX13_formsOf_484 rfl rfl ?_
    refine zs_aload_n hX dX13_formsOf_485 rfl rfl ?_
    refine zg_x4 hX dX13_formsOf_486 ?_
    refine zs_iload_n hX dX13_formsOf_489 rfl rfl ?_
    obtain ⟨b79, h⟩ := zgd_e h
    refine zl_x4 hX dX13_formsOf_490 (zin_ok b79) ?_
    refine zs_iload_n hX dX13_formsOf_491 rfl rfl ?_
    obtain ⟨s80, e81, h⟩ := zcv_e h
    refine zc_formsOf hX dX13_formsOf_492 (Nat.le_of_ble_eq_true rfl) (hc _ _ _ _ e81) (fun u9 h9 => ?_)
    cases h9
    refine zs_goto (tgt := 512) hX dX13_formsOf_495 (by decide) ?_
    exact zs_vret hX dX13_formsOf_512 rfl (Option.some.inj h)
  rw [if_neg c71] at h
  refine zs_tableOut (tgt := 512) hX dX13_formsOf_6 (by have := z_ne c2 (k := 1) (by decide); have := z_ne c13 (k := 2) (by decide); have := z_ne c30 (k := 3) (by decide); have := z_ne c38 (k := 4) (by decide); have := z_ne c45 (k := 5) (by decide); have := z_ne c52 (k := 6) (by decide); have := z_ne c56 (k := 7) (by decide); have := z_ne c57 (k := 8) (by decide); have := z_ne c58 (k := 9) (by decide); have := z_ne c59 (k := 10) (by decide); have := z_ne c60 (k := 11) (by decide); have := z_ne c61 (k := 12) (by decide); have := z_ne c62 (k := 13) (by decide); have := z_ne c63 (k := 14) (by decide); have := z_ne c64 (k := 15) (by decide); have := z_ne c65 (k := 16) (by decide); have := z_ne c69 (k := 17) (by decide); have := z_ne c70 (k := 18) (by decide); have := z_ne c71 (k := 19) (by decide); omega) (by decide) ?_
  exact zs_vret hX dX13_formsOf_512 rfl (Option.some.inj h)
def j_check_119 (n : Nat) (call : zCl) (h0 : Nat) (qs : List Nat) (ks : Nat → Nat) (k77 : Int32 → zSt → zRs) (x1 : Int32) (t1 : Int32) (t3 : Int32) (σ : zSt) : zRs :=
  zci (call 40 [.ref h0, .int t3, .int (-1), .int (-1)] σ) fun r3 s1 =>
  zgd (zin t1 700) (zlet (zA s1 31 (upd (s1.2.2.1 31) (t1).toNatClampNeg r3)) fun s5 =>
  k77 (x1 + 1) s5)
def l_check_77 (n : Nat) (call : zCl) (h0 : Nat) (qs : List Nat) (ks : Nat → Nat) : Nat → Int32 → zSt → zRs
  | 0, _, _ => none
  | f + 1, x1, σ =>
    if (σ.1 42) ≤ x1 then
      zci (call 49 [.ref h0, .int (σ.1 43)] σ) fun r4 s2 =>
      if (s2.1 11) = 0 then
        zlet (zI s2 65 0) fun s6 =>
        zcv (call 63 [.ref h0, .int (s6.1 43), .int 0] s6) fun s8 =>
        if (s8.1 52) < 0 then
          some (none, s8)
        else
          zcv (call 3 [.ref h0, .int 5, .int (s8.1 52)] s8) fun s11 =>
          some (none, s11)
      else
        some (none, s2)
    else
      zgd (zin x1 6) (
      if (σ.2.2.1 28 (x1).toNatClampNeg) = 0 then
        j_check_119 n call h0 qs ks (l_check_77 n call h0 qs ks f) x1 x1 1 σ
      else
        zgd (zin x1 6) (
        if (σ.2.2.1 28 (x1).toNatClampNeg) = 1 then
          j_check_119 n call h0 qs ks (l_check_77 n call h0 qs ks f) x1 x1 2 σ
        else
          j_check_119 n call h0 qs ks (l_check_77 n call h0 qs ks f) x1 x1 3 σ))
def l_check_22 (n : Nat) (call : zCl) (h0 : Nat) (qs : List Nat) (ks : Nat → Nat) : Nat → Int32 → zSt → zRs
  | 0, _, _ => none
  | f + 1, x1, σ =>
    if (σ.1 42) ≤ x1 then
      zcv (call 39 [.ref h0, .int (σ.1 43)] σ) fun s2 =>
      if (s2.1 52) < 0 then
        l_check_77 n call h0 qs ks n 0 s2
      else
        zcv (call 3 [.ref h0, .int 3, .int (s2.1 52)] s2) fun s5 =>
        some (none, s5)
    else
      zgd (zin x1 6) (
      zci (call 33 [.ref h0, .int (σ.2.2.1 27 (x1).toNatClampNeg)] σ) fun r10 s8 =>
      zcv (call 34 [.ref h0, .int r10] s8) fun s11 =>
      l_check_22 n call h0 qs ks f (x1 + 1) s11)
def b_check (n : Nat) (call : zCl) (h0 : Nat) (qs : List Nat) (ks : Nat → Nat) (σ : zSt) : zRs :=
  zlet (zI σ 50 0) fun s1 =>
  zlet (zI s1 51 0) fun s3 =>
  zlet (zI s3 52 (-1)) fun s5 =>
  zlet (zI s5 59 0) fun s7 =>
  l_check_22 n call h0 qs ks n 0 s7
set_option maxHeartbeats 4000000 in
theorem pj_check_119 {h0 : Nat} {qs : List Nat} {ks : Nat → Nat} {n : Nat} {call : zCl} {kc : Nat → List Value → zSt → (Option Value → zSt → Prop) → Prop} {v : Option Value × zSt} {X : Nat → zLv → List Value → zSt → Prop} (hX : zSem cX13_check 2 none h0 qs ks kc (fun r u => (r, u) = v) X) (hc : ∀ j av s w, call j av s = some w → kc j av s (fun r u => (r, u) = w)) {k77 : Int32 → zSt → zRs} (hk77 : ∀ (x1 : Int32) (s : zSt), k77 x1 s = some v → X 77 [some (.ref h0), some (.int x1)] [] s) {x1 : Int32} {t1 : Int32} {t3 : Int32} {σ : zSt} (h : j_check_119 n call h0 qs ks k77 x1 t1 t3 σ = some v) : X 119 [some (.ref h0), some (.int x1)] [.int t3, .ref h0, .int t1, .ref (qs.getD 31 0)] σ := by
  rw [j_check_119] at h
  refine zs_iconst (v := (-1)) hX dX13_check_119 (by decide) ?_
  refine zs_iconst (v := (-1)) hX dX13_check_120 (by decide) ?_
  obtain ⟨r3, s1, e2, h⟩ := zci_e h
  refine zc_newType hX dX13_check_121 (Nat.le_of_ble_eq_true rfl) (hc _ _ _ _ e2) (fun r9 u9 h9 => ?_)
  cases h9
  obtain ⟨b4, h⟩ := zgd_e h
  obtain ⟨s5, e6, h⟩ := zlet_e h
  refine zt_dType hX dX13_check_124 (zin_ok b4) ?_
  rw [← e6]
  refine zs_iinc (v := x1 + 1) hX dX13_check_125 rfl rfl (by decide) rfl ?_
  dsimp only [List.set]
  refine zs_goto (tgt := 77) hX dX13_check_128 (by decide) ?_
  exact hk77 _ _ h
set_option maxHeartbeats 4000000 in
theorem pl_check_77 {h0 : Nat} {qs : List Nat} {ks : Nat → Nat} {n : Nat} {call : zCl} {kc : Nat → List Value → zSt → (Option Value → zSt → Prop) → Prop} {v : Option Value × zSt} {X : Nat → zLv → List Value → zSt → Prop} (hX : zSem cX13_check 2 none h0 qs ks kc (fun r u => (r, u) = v) X) (hc : ∀ j av s w, call j av s = some w → kc j av s (fun r u => (r, u) = w)) : ∀ (f : Nat) (x1 : Int32) (σ : zSt), l_check_77 n call h0 qs ks f x1 σ = some v → X 77 [some (.ref h0), some (.int x1)] [] σ := by
  intro f
  induction f with
  | zero => intro x1 σ h; cases h
  | succ f hk77 =>
    intro x1 σ h
    rw [l_check_77] at h
    refine zs_iload_n hX dX13_check_77 rfl rfl ?_
    refine zs_aload_n hX dX13_check_78 rfl rfl ?_
    refine zg_inputs hX dX13_check_79 ?_
    refine zs_icmp_ge (tgt := 131) hX dX13_check_82 (by decide) (fun c1 => ?_) (fun c1 => ?_)
    · rw [if_pos c1] at h
      refine zs_aload_n hX dX13_check_131 rfl rfl ?_
      refine zs_aload_n hX dX13_check_132 rfl rfl ?_
      refine zg_root hX dX13_check_133 ?_
      obtain ⟨r4, s2, e3, h⟩ := zci_e h
      refine zc_typeOf hX dX13_check_136 (Nat.le_of_ble_eq_true rfl) (hc _ _ _ _ e3) (fun r9 u9 h9 => ?_)
      cases h9
      refine zs_pop hX dX13_check_139 rfl ?_
      refine zs_aload_n hX dX13_check_140 rfl rfl ?_
      refine zg_bad hX dX13_check_141 ?_
      refine zs_if_eq (tgt := 148) hX dX13_check_144 (by decide) (fun c5 => ?_) (fun c5 => ?_)
      · rw [if_pos c5] at h
        refine zs_aload_n hX dX13_check_148 rfl rfl ?_
        refine zs_iconst (v := 0) hX dX13_check_149 (by decide) ?_
        obtain ⟨s6, e7, h⟩ := zlet_e h
        refine zp_cases hX dX13_check_150 ?_
        rw [← e7]
        refine zs_aload_n hX dX13_check_153 rfl rfl ?_
        refine zs_aload_n hX dX13_check_154 rfl rfl ?_
        refine zg_root hX dX13_check_155 ?_
        refine zs_iconst (v := 0) hX dX13_check_158 (by decide) ?_
        obtain ⟨s8, e9, h⟩ := zcv_e h
        refine zc_formsOf hX dX13_check_159 (Nat.le_of_ble_eq_true rfl) (hc _ _ _ _ e9) (fun u9 h9 => ?_)
        cases h9
        refine zs_aload_n hX dX13_check_162 rfl rfl ?_
        refine zg_least hX dX13_check_163 ?_
        refine zs_if_lt (tgt := 178) hX dX13_check_166 (by decide) (fun c10 => ?_) (fun c10 => ?_)
        · rw [if_pos c10] at h
          exact zs_vret hX dX13_check_178 rfl (Option.some.inj h)
        · rw [if_neg c10] at h
          refine zs_aload_n hX dX13_check_169 rfl rfl ?_
          refine zs_iconst (v := 5) hX dX13_check_170 (by decide) ?_
          refine zs_aload_n hX dX13_check_171 rfl rfl ?_
          refine zg_least hX dX13_check_172 ?_
          obtain ⟨s11, e12, h⟩ := zcv_e h
          refine zc_fault hX dX13_check_175 (Nat.le_of_ble_eq_true rfl) (hc _ _ _ _ e12) (fun u9 h9 => ?_)
          cases h9
          exact zs_vret hX dX13_check_178 rfl (Option.some.inj h)
      · rw [if_neg c5] at h
        exact zs_vret hX dX13_check_147 rfl (Option.some.inj h)
    · rw [if_neg c1] at h
      refine zs_aload_n hX dX13_check_85 rfl rfl ?_
      refine zg_dType hX dX13_check_86 ?_
      refine zs_iload_n hX dX13_check_89 rfl rfl ?_
      refine zs_aload_n hX dX13_check_90 rfl rfl ?_
      refine zs_aload_n hX dX13_check_91 rfl rfl ?_
      refine zg_inSort hX dX13_check_92 ?_
      refine zs_iload_n hX dX13_check_95 rfl rfl ?_
      obtain ⟨b13, h⟩ := zgd_e h
      refine zl_inSort hX dX13_check_96 (zin_ok b13) ?_
      refine zs_if_ne (tgt := 104) hX dX13_check_97 (by decide) (fun c14 => ?_) (fun c14 => ?_)
      · rw [if_neg c14] at h
        refine zs_aload_n hX dX13_check_104 rfl rfl ?_
        refine zg_inSort hX dX13_check_105 ?_
        refine zs_iload_n hX dX13_check_108 rfl rfl ?_
        obtain ⟨b15, h⟩ := zgd_e h
        refine zl_inSort hX dX13_check_109 (zin_ok b15) ?_
        refine zs_iconst (v := 1) hX dX13_check_110 (by decide) ?_
        refine zs_icmp_ne (tgt := 118) hX dX13_check_111 (by decide) (fun c16 => ?_) (fun c16 => ?_)
        · rw [if_neg c16] at h
          refine zs_iconst (v := 3) hX dX13_check_118 (by decide) ?_
          exact pj_check_119 hX hc hk77 h
        · rw [if_pos c16] at h
          refine zs_iconst (v := 2) hX dX13_check_114 (by decide) ?_
          refine zs_goto (tgt := 119) hX dX13_check_115 (by decide) ?_
          exact pj_check_119 hX hc hk77 h
      · rw [if_pos c14] at h
        refine zs_iconst (v := 1) hX dX13_check_100 (by decide) ?_
        refine zs_goto (tgt := 119) hX dX13_check_101 (by decide) ?_
        exact pj_check_119 hX hc hk77 h
set_option maxHeartbeats 4000000 in
theorem pl_check_22 {h0 : Nat} {qs : List Nat} {ks : Nat → Nat} {n : Nat} {call : zCl} {kc : Nat → List Value → zSt → (Option Value → zSt → Prop) → Prop} {v : Option Value × zSt} {X : Nat → zLv → List Value → zSt → Prop} (hX : zSem cX13_check 2 none h0 qs ks kc (fun r u => (r, u) = v) X) (hc : ∀ j av s w, call j av s = some w → kc j av s (fun r u => (r, u) = w)) : ∀ (f : Nat) (x1 : Int32) (σ : zSt), l_check_22 n call h0 qs ks f x1 σ = some v → X 22 [some (.ref h0), some (.int x1)] [] σ := by
  intro f
  induction f with
  | zero => intro x1 σ h; cases h
  | succ f hk22 =>
    intro x1 σ h
    rw [l_check_22] at h
    refine zs_iload_n hX dX13_check_22 rfl rfl ?_
    refine zs_aload_n hX dX13_check_23 rfl rfl ?_
    refine zg_inputs hX dX13_check_24 ?_
    refine zs_icmp_ge (tgt := 50) hX dX13_check_27 (by decide) (fun c1 => ?_) (fun c1 => ?_)
    · rw [if_pos c1] at h
      refine zs_aload_n hX dX13_check_50 rfl rfl ?_
      refine zs_aload_n hX dX13_check_51 rfl rfl ?_
      refine zg_root hX dX13_check_52 ?_
      obtain ⟨s2, e3, h⟩ := zcv_e h
      refine zc_namesOf hX dX13_check_55 (Nat.le_of_ble_eq_true rfl) (hc _ _ _ _ e3) (fun u9 h9 => ?_)
      cases h9
      refine zs_aload_n hX dX13_check_58 rfl rfl ?_
      refine zg_least hX dX13_check_59 ?_
      refine zs_if_lt (tgt := 75) hX dX13_check_62 (by decide) (fun c4 => ?_) (fun c4 => ?_)
      · rw [if_pos c4] at h
        refine zs_iconst (v := 0) hX dX13_check_75 (by decide) ?_
        refine zs_istore_n hX dX13_check_76 rfl (by decide) rfl ?_
        dsimp only [List.set]
        exact pl_check_77 hX hc n _ _ h
      · rw [if_neg c4] at h
        refine zs_aload_n hX dX13_check_65 rfl rfl ?_
        refine zs_iconst (v := 3) hX dX13_check_66 (by decide) ?_
        refine zs_aload_n hX dX13_check_67 rfl rfl ?_
        refine zg_least hX dX13_check_68 ?_
        obtain ⟨s5, e6, h⟩ := zcv_e h
        refine zc_fault hX dX13_check_71 (Nat.le_of_ble_eq_true rfl) (hc _ _ _ _ e6) (fun u9 h9 => ?_)
        cases h9
        exact zs_vret hX dX13_check_74 rfl (Option.some.inj h)
    · rw [if_neg c1] at h
      refine zs_aload_n hX dX13_check_30 rfl rfl ?_
      refine zs_aload_n hX dX13_check_31 rfl rfl ?_
      refine zs_aload_n hX dX13_check_32 rfl rfl ?_
      refine zg_inWord hX dX13_check_33 ?_
      refine zs_iload_n hX dX13_check_36 rfl rfl ?_
      obtain ⟨b7, h⟩ := zgd_e h
      refine zl_inWord hX dX13_check_37 (zin_ok b7) ?_
      obtain ⟨r10, s8, e9, h⟩ := zci_e h
      refine zc_tell hX dX13_check_38 (Nat.le_of_ble_eq_true rfl) (hc _ _ _ _ e9) (fun r9 u9 h9 => ?_)
      cases h9
      obtain ⟨s11, e12, h⟩ := zcv_e h
      refine zc_counts hX dX13_check_41 (Nat.le_of_ble_eq_true rfl) (hc _ _ _ _ e12) (fun u9 h9 => ?_)
      cases h9
      refine zs_iinc (v := x1 + 1) hX dX13_check_44 rfl rfl (by decide) rfl ?_
      dsimp only [List.set]
      refine zs_goto (tgt := 22) hX dX13_check_47 (by decide) ?_
      exact hk22 _ _ h
set_option maxHeartbeats 4000000 in
theorem pb_check {h0 : Nat} {qs : List Nat} {ks : Nat → Nat} {n : Nat} {call : zCl} {kc : Nat → List Value → zSt → (Option Value → zSt → Prop) → Prop} {v : Option Value × zSt} {X : Nat → zLv → List Value → zSt → Prop} (hX : zSem cX13_check 2 none h0 qs ks kc (fun r u => (r, u) = v) X) (hc : ∀ j av s w, call j av s = some w → kc j av s (fun r u => (r, u) = w)) {σ : zSt} (h : b_check n call h0 qs ks σ = some v) : X 0 [some (.ref h0), none] [] σ := by
  rw [b_check] at h
  refine zs_aload_n hX dX13_check_0 rfl rfl ?_
  refine zs_iconst (v := 0) hX dX13_check_1 (by decide) ?_
  obtain ⟨s1, e2, h⟩ := zlet_e h
  refine zp_told hX dX13_check_2 ?_
  rw [← e2]
  refine zs_aload_n hX dX13_check_5 rfl rfl ?_
  refine zs_iconst (v := 0) hX dX13_check_6 (by decide) ?_
  obtain ⟨s3, e4, h⟩ := zlet_e h
  refine zp_scopes hX dX13_check_7 ?_
  rw [← e4]
  refine zs_aload_n hX dX13_check_10 rfl rfl ?_
  refine zs_iconst (v := (-1)) hX dX13_check_11 (by decide) ?_
  obtain ⟨s5, e6, h⟩ := zlet_e h
  refine zp_least hX dX13_check_12 ?_
  rw [← e6]
  refine zs_aload_n hX dX13_check_15 rfl rfl ?_
  refine zs_iconst (v := 0) hX dX13_check_16 (by decide) ?_
  obtain ⟨s7, e8, h⟩ := zlet_e h
  refine zp_types hX dX13_check_17 ?_
  rw [← e8]
  refine zs_iconst (v := 0) hX dX13_check_20 (by decide) ?_
  refine zs_istore_n hX dX13_check_21 rfl (by decide) rfl ?_
  dsimp only [List.set]
  exact pl_check_22 hX hc n _ _ h
def l_compile_134 (n : Nat) (call : zCl) (h0 : Nat) (qs : List Nat) (ks : Nat → Nat) (k119 : Int32 → zSt → zRs) : Nat → Int32 → Int32 → zSt → zRs
  | 0, _, _, _ => none
  | f + 1, x1, x2, σ =>
    if 1000 ≤ x2 then
      k119 (x1 + 1) σ
    else
      zgd (zin ((1000 * x1) + x2) 6000) (zlet (zG σ 104 (vp_updL (σ.2.2.2 104) (((1000 * x1) + x2)).toNatClampNeg 0)) fun s3 =>
      l_compile_134 n call h0 qs ks k119 f x1 (x2 + 1) s3)
def l_compile_119 (n : Nat) (call : zCl) (h0 : Nat) (qs : List Nat) (ks : Nat → Nat) : Nat → Int32 → zSt → zRs
  | 0, _, _ => none
  | f + 1, x1, σ =>
    if 6 ≤ x1 then
      some (some (.int 0), σ)
    else
      zgd (zin x1 6) (zlet (zG σ 103 (vp_updL (σ.2.2.2 103) (x1).toNatClampNeg 0)) fun s3 =>
      l_compile_134 n call h0 qs ks (l_compile_119 n call h0 qs ks f) n x1 0 s3)
def j_compile_92 (n : Nat) (call : zCl) (h0 : Nat) (qs : List Nat) (ks : Nat → Nat) (σ : zSt) : zRs :=
  if (σ.1 11) = 0 then
    zlet (zI σ 66 1) fun s2 =>
    l_compile_119 n call h0 qs ks n 0 s2
  else
    zlet (zI σ 69 (σ.1 12)) fun s4 =>
    some (some (.int (s4.1 11)), s4)
def j_compile_81 (n : Nat) (call : zCl) (h0 : Nat) (qs : List Nat) (ks : Nat → Nat) (σ : zSt) : zRs :=
  if (σ.1 11) = 0 then
    zcv (call 64 [.ref h0] σ) fun s2 =>
    j_compile_92 n call h0 qs ks s2
  else
    j_compile_92 n call h0 qs ks σ
def l_compile_15 (n : Nat) (call : zCl) (h0 : Nat) (qs : List Nat) (ks : Nat → Nat) : Nat → Int32 → zSt → zRs
  | 0, _, _ => none
  | f + 1, x1, σ =>
    if (σ.1 4) ≤ x1 then
      zlet (zI σ 66 0) fun s2 =>
      zlet (zI s2 67 0) fun s4 =>
      zlet (zI s4 69 (-1)) fun s6 =>
      zlet (zI s6 163 0) fun s8 =>
      zlet (zI s8 11 0) fun s10 =>
      zcv (call 9 [.ref h0] s10) fun s12 =>
      if (s12.1 11) = 0 then
        zcv (call 30 [.ref h0] s12) fun s15 =>
        j_compile_81 n call h0 qs ks s15
      else
        j_compile_81 n call h0 qs ks s12
    else
      zgd (zin x1 2000) (
      zgd (zin x1 2000) (zlet (zA σ 1 (upd (σ.2.2.1 1) (x1).toNatClampNeg (vp_nar .byte (σ.2.2.1 0 (x1).toNatClampNeg)))) fun s19 =>
      l_compile_15 n call h0 qs ks f (x1 + 1) s19))
def b_compile (n : Nat) (call : zCl) (h0 : Nat) (qs : List Nat) (ks : Nat → Nat) (σ : zSt) : zRs :=
  zlet (zI σ 4 (σ.1 3)) fun s1 =>
  zlet (zI s1 3 0) fun s3 =>
  l_compile_15 n call h0 qs ks n 0 s3
set_option maxHeartbeats 4000000 in
theorem pl_compile_134 {h0 : Nat} {qs : List Nat} {ks : Nat → Nat} {n : Nat} {call : zCl} {kc : Nat → List Value → zSt → (Option Value → zSt → Prop) → Prop} {v : Option Value × zSt} {X : Nat → zLv → List Value → zSt → Prop} (hX : zSem cX13_compile 3 (some .int) h0 qs ks kc (fun r u => (r, u) = v) X) (hc : ∀ j av s w, call j av s = some w → kc j av s (fun r u => (r, u) = w)) {k119 : Int32 → zSt → zRs} (hk119 : ∀ (x1 : Int32) (s : zSt), k119 x1 s = some v → X 119 [some (.ref h0), some (.int x1), none] [] s) : ∀ (f : Nat) (x1 : Int32) (x2 : Int32) (σ : zSt), l_compile_134 n call h0 qs ks k119 f x1 x2 σ = some v → X 134 [some (.ref h0), some (.int x1), some (.int x2)] [] σ := by
  intro f
  induction f with
  | zero => intro x1 x2 σ h; cases h
  | succ f hk134 =>
    intro x1 x2 σ h
    rw [l_compile_134] at h
    refine zs_iload_n hX dX13_compile_134 rfl rfl ?_
    refine zs_sipush (v := 1000) hX dX13_compile_135 (by decide) ?_
    refine zs_icmp_ge (tgt := 160) hX dX13_compile_138 (by decide) (fun c1 => ?_) (fun c1 => ?_)
    · rw [if_pos c1] at h
      refine zs_iinc (v := x1 + 1) hX dX13_compile_160 rfl rfl (by decide) rfl ?_
      dsimp only [List.set]
      refine zs_goto (tgt := 119) hX dX13_compile_163 (by decide) ?_
      refine zs_weak hX (lw := [some (.ref h0), some (.int (x1 + 1)), none]) ⟨rfl, rfl, trivial⟩ ?_
      exact hk119 _ _ h
    · rw [if_neg c1] at h
      refine zs_aload_n hX dX13_compile_141 rfl rfl ?_
      refine zg_elements hX dX13_compile_142 ?_
      refine zs_sipush (v := 1000) hX dX13_compile_145 (by decide) ?_
      refine zs_iload_n hX dX13_compile_148 rfl rfl ?_
      refine zs_imul hX dX13_compile_149 ?_
      refine zs_iload_n hX dX13_compile_150 rfl rfl ?_
      refine zs_iadd hX dX13_compile_151 ?_
      refine zs_lconst (v := 0) hX dX13_compile_152 (by decide) ?_
      obtain ⟨b2, h⟩ := zgd_e h
      obtain ⟨s3, e4, h⟩ := zlet_e h
      refine zt_elements hX dX13_compile_153 (zin_ok b2) ?_
      rw [← e4]
      refine zs_iinc (v := x2 + 1) hX dX13_compile_154 rfl rfl (by decide) rfl ?_
      dsimp only [List.set]
      refine zs_goto (tgt := 134) hX dX13_compile_157 (by decide) ?_
      exact hk134 _ _ _ h
set_option maxHeartbeats 4000000 in
theorem pl_compile_119 {h0 : Nat} {qs : List Nat} {ks : Nat → Nat} {n : Nat} {call : zCl} {kc : Nat → List Value → zSt → (Option Value → zSt → Prop) → Prop} {v : Option Value × zSt} {X : Nat → zLv → List Value → zSt → Prop} (hX : zSem cX13_compile 3 (some .int) h0 qs ks kc (fun r u => (r, u) = v) X) (hc : ∀ j av s w, call j av s = some w → kc j av s (fun r u => (r, u) = w)) : ∀ (f : Nat) (x1 : Int32) (σ : zSt), l_compile_119 n call h0 qs ks f x1 σ = some v → X 119 [some (.ref h0), some (.int x1), none] [] σ := by
  intro f
  induction f with
  | zero => intro x1 σ h; cases h
  | succ f hk119 =>
    intro x1 σ h
    rw [l_compile_119] at h
    refine zs_iload_n hX dX13_compile_119 rfl rfl ?_
    refine zs_bipush (v := 6) hX dX13_compile_120 (by decide) ?_
    refine zs_icmp_ge (tgt := 166) hX dX13_compile_122 (by decide) (fun c1 => ?_) (fun c1 => ?_)
    · rw [if_pos c1] at h
      refine zs_iconst (v := 0) hX dX13_compile_166 (by decide) ?_
      exact zs_iret hX dX13_compile_167 rfl (Option.some.inj h)
    · rw [if_neg c1] at h
      refine zs_aload_n hX dX13_compile_125 rfl rfl ?_
      refine zg_given hX dX13_compile_126 ?_
      refine zs_iload_n hX dX13_compile_129 rfl rfl ?_
      refine zs_lconst (v := 0) hX dX13_compile_130 (by decide) ?_
      obtain ⟨b2, h⟩ := zgd_e h
      obtain ⟨s3, e4, h⟩ := zlet_e h
      refine zt_given hX dX13_compile_131 (zin_ok b2) ?_
      rw [← e4]
      refine zs_iconst (v := 0) hX dX13_compile_132 (by decide) ?_
      refine zs_istore_n hX dX13_compile_133 rfl (by decide) rfl ?_
      dsimp only [List.set]
      exact pl_compile_134 hX hc hk119 n _ _ _ h
set_option maxHeartbeats 4000000 in
theorem pj_compile_92 {h0 : Nat} {qs : List Nat} {ks : Nat → Nat} {n : Nat} {call : zCl} {kc : Nat → List Value → zSt → (Option Value → zSt → Prop) → Prop} {v : Option Value × zSt} {X : Nat → zLv → List Value → zSt → Prop} (hX : zSem cX13_compile 3 (some .int) h0 qs ks kc (fun r u => (r, u) = v) X) (hc : ∀ j av s w, call j av s = some w → kc j av s (fun r u => (r, u) = w)) {σ : zSt} (h : j_compile_92 n call h0 qs ks σ = some v) : X 92 [some (.ref h0), none, none] [] σ := by
  rw [j_compile_92] at h
  refine zs_aload_n hX dX13_compile_92 rfl rfl ?_
  refine zg_bad hX dX13_compile_93 ?_
  refine zs_if_eq (tgt := 112) hX dX13_compile_96 (by decide) (fun c1 => ?_) (fun c1 => ?_)
  · rw [if_pos c1] at h
    refine zs_aload_n hX dX13_compile_112 rfl rfl ?_
    refine zs_iconst (v := 1) hX dX13_compile_113 (by decide) ?_
    obtain ⟨s2, e3, h⟩ := zlet_e h
    refine zp_hasOne hX dX13_compile_114 (by decide) (by decide) ?_
    rw [← e3]
    refine zs_iconst (v := 0) hX dX13_compile_117 (by decide) ?_
    refine zs_istore_n hX dX13_compile_118 rfl (by decide) rfl ?_
    dsimp only [List.set]
    exact pl_compile_119 hX hc n _ _ h
  · rw [if_neg c1] at h
    refine zs_aload_n hX dX13_compile_99 rfl rfl ?_
    refine zs_aload_n hX dX13_compile_100 rfl rfl ?_
    refine zg_badAt hX dX13_compile_101 ?_
    obtain ⟨s4, e5, h⟩ := zlet_e h
    refine zp_place hX dX13_compile_104 ?_
    rw [← e5]
    refine zs_aload_n hX dX13_compile_107 rfl rfl ?_
    refine zg_bad hX dX13_compile_108 ?_
    exact zs_iret hX dX13_compile_111 rfl (Option.some.inj h)
set_option maxHeartbeats 4000000 in
theorem pj_compile_81 {h0 : Nat} {qs : List Nat} {ks : Nat → Nat} {n : Nat} {call : zCl} {kc : Nat → List Value → zSt → (Option Value → zSt → Prop) → Prop} {v : Option Value × zSt} {X : Nat → zLv → List Value → zSt → Prop} (hX : zSem cX13_compile 3 (some .int) h0 qs ks kc (fun r u => (r, u) = v) X) (hc : ∀ j av s w, call j av s = some w → kc j av s (fun r u => (r, u) = w)) {σ : zSt} (h : j_compile_81 n call h0 qs ks σ = some v) : X 81 [some (.ref h0), none, none] [] σ := by
  rw [j_compile_81] at h
  refine zs_aload_n hX dX13_compile_81 rfl rfl ?_
  refine zg_bad hX dX13_compile_82 ?_
  refine zs_if_ne (tgt := 92) hX dX13_compile_85 (by decide) (fun c1 => ?_) (fun c1 => ?_)
  · rw [if_neg c1] at h
    exact pj_compile_92 hX hc h
  · rw [if_pos c1] at h
    refine zs_aload_n hX dX13_compile_88 rfl rfl ?_
    obtain ⟨s2, e3, h⟩ := zcv_e h
    refine zc_check hX dX13_compile_89 (Nat.le_of_ble_eq_true rfl) (hc _ _ _ _ e3) (fun u9 h9 => ?_)
    cases h9
    exact pj_compile_92 hX hc h
set_option maxHeartbeats 4000000 in
theorem pl_compile_15 {h0 : Nat} {qs : List Nat} {ks : Nat → Nat} {n : Nat} {call : zCl} {kc : Nat → List Value → zSt → (Option Value → zSt → Prop) → Prop} {v : Option Value × zSt} {X : Nat → zLv → List Value → zSt → Prop} (hX : zSem cX13_compile 3 (some .int) h0 qs ks kc (fun r u => (r, u) = v) X) (hc : ∀ j av s w, call j av s = some w → kc j av s (fun r u => (r, u) = w)) : ∀ (f : Nat) (x1 : Int32) (σ : zSt), l_compile_15 n call h0 qs ks f x1 σ = some v → X 15 [some (.ref h0), some (.int x1), none] [] σ := by
  intro f
  induction f with
  | zero => intro x1 σ h; cases h
  | succ f hk15 =>
    intro x1 σ h
    rw [l_compile_15] at h
    refine zs_iload_n hX dX13_compile_15 rfl rfl ?_
    refine zs_aload_n hX dX13_compile_16 rfl rfl ?_
    refine zg_size hX dX13_compile_17 ?_
    refine zs_icmp_ge (tgt := 41) hX dX13_compile_20 (by decide) (fun c1 => ?_) (fun c1 => ?_)
    · rw [if_pos c1] at h
      refine zs_aload_n hX dX13_compile_41 rfl rfl ?_
      refine zs_iconst (v := 0) hX dX13_compile_42 (by decide) ?_
      obtain ⟨s2, e3, h⟩ := zlet_e h
      refine zp_hasOne hX dX13_compile_43 (by decide) (by decide) ?_
      rw [← e3]
      refine zs_aload_n hX dX13_compile_46 rfl rfl ?_
      refine zs_iconst (v := 0) hX dX13_compile_47 (by decide) ?_
      obtain ⟨s4, e5, h⟩ := zlet_e h
      refine zp_wasAsked hX dX13_compile_48 (by decide) (by decide) ?_
      rw [← e5]
      refine zs_aload_n hX dX13_compile_51 rfl rfl ?_
      refine zs_iconst (v := (-1)) hX dX13_compile_52 (by decide) ?_
      obtain ⟨s6, e7, h⟩ := zlet_e h
      refine zp_place hX dX13_compile_53 ?_
      rw [← e7]
      refine zs_aload_n hX dX13_compile_56 rfl rfl ?_
      refine zs_iconst (v := 0) hX dX13_compile_57 (by decide) ?_
      obtain ⟨s8, e9, h⟩ := zlet_e h
      refine zp_ran hX dX13_compile_58 ?_
      rw [← e9]
      refine zs_aload_n hX dX13_compile_61 rfl rfl ?_
      refine zs_iconst (v := 0) hX dX13_compile_62 (by decide) ?_
      obtain ⟨s10, e11, h⟩ := zlet_e h
      refine zp_bad hX dX13_compile_63 ?_
      rw [← e11]
      refine zs_aload_n hX dX13_compile_66 rfl rfl ?_
      obtain ⟨s12, e13, h⟩ := zcv_e h
      refine zc_readWords hX dX13_compile_67 (Nat.le_of_ble_eq_true rfl) (hc _ _ _ _ e13) (fun u9 h9 => ?_)
      cases h9
      refine zs_aload_n hX dX13_compile_70 rfl rfl ?_
      refine zg_bad hX dX13_compile_71 ?_
      refine zs_if_ne (tgt := 81) hX dX13_compile_74 (by decide) (fun c14 => ?_) (fun c14 => ?_)
      · rw [if_neg c14] at h
        refine zs_weak hX (lw := [some (.ref h0), none, none]) ⟨rfl, trivial⟩ ?_
        exact pj_compile_81 hX hc h
      · rw [if_pos c14] at h
        refine zs_aload_n hX dX13_compile_77 rfl rfl ?_
        obtain ⟨s15, e16, h⟩ := zcv_e h
        refine zc_program hX dX13_compile_78 (Nat.le_of_ble_eq_true rfl) (hc _ _ _ _ e16) (fun u9 h9 => ?_)
        cases h9
        refine zs_weak hX (lw := [some (.ref h0), none, none]) ⟨rfl, trivial⟩ ?_
        exact pj_compile_81 hX hc h
    · rw [if_neg c1] at h
      refine zs_aload_n hX dX13_compile_23 rfl rfl ?_
      refine zg_text hX dX13_compile_24 ?_
      refine zs_iload_n hX dX13_compile_27 rfl rfl ?_
      refine zs_aload_n hX dX13_compile_28 rfl rfl ?_
      refine zg_tape hX dX13_compile_29 ?_
      refine zs_iload_n hX dX13_compile_32 rfl rfl ?_
      obtain ⟨b17, h⟩ := zgd_e h
      refine zl_tape hX dX13_compile_33 (zin_ok b17) ?_
      obtain ⟨b18, h⟩ := zgd_e h
      obtain ⟨s19, e20, h⟩ := zlet_e h
      refine zt_text hX dX13_compile_34 (zin_ok b18) ?_
      rw [← e20]
      refine zs_iinc (v := x1 + 1) hX dX13_compile_35 rfl rfl (by decide) rfl ?_
      dsimp only [List.set]
      refine zs_goto (tgt := 15) hX dX13_compile_38 (by decide) ?_
      exact hk15 _ _ h
set_option maxHeartbeats 4000000 in
theorem pb_compile {h0 : Nat} {qs : List Nat} {ks : Nat → Nat} {n : Nat} {call : zCl} {kc : Nat → List Value → zSt → (Option Value → zSt → Prop) → Prop} {v : Option Value × zSt} {X : Nat → zLv → List Value → zSt → Prop} (hX : zSem cX13_compile 3 (some .int) h0 qs ks kc (fun r u => (r, u) = v) X) (hc : ∀ j av s w, call j av s = some w → kc j av s (fun r u => (r, u) = w)) {σ : zSt} (h : b_compile n call h0 qs ks σ = some v) : X 0 [some (.ref h0), none, none] [] σ := by
  rw [b_compile] at h
  refine zs_aload_n hX dX13_compile_0 rfl rfl ?_
  refine zs_aload_n hX dX13_compile_1 rfl rfl ?_
  refine zg_length hX dX13_compile_2 ?_
  obtain ⟨s1, e2, h⟩ := zlet_e h
  refine zp_size hX dX13_compile_5 ?_
  rw [← e2]
  refine zs_aload_n hX dX13_compile_8 rfl rfl ?_
  refine zs_iconst (v := 0) hX dX13_compile_9 (by decide) ?_
  obtain ⟨s3, e4, h⟩ := zlet_e h
  refine zp_length hX dX13_compile_10 ?_
  rw [← e4]
  refine zs_iconst (v := 0) hX dX13_compile_13 (by decide) ?_
  refine zs_istore_n hX dX13_compile_14 rfl (by decide) rfl ?_
  dsimp only [List.set]
  exact pl_compile_15 hX hc n _ _ h
def b_place (n : Nat) (call : zCl) (h0 : Nat) (qs : List Nat) (ks : Nat → Nat) (σ : zSt) : zRs :=
  some (some (.int (σ.1 69)), σ)
set_option maxHeartbeats 4000000 in
theorem pb_place {h0 : Nat} {qs : List Nat} {ks : Nat → Nat} {n : Nat} {call : zCl} {kc : Nat → List Value → zSt → (Option Value → zSt → Prop) → Prop} {v : Option Value × zSt} {X : Nat → zLv → List Value → zSt → Prop} (hX : zSem cX13_place 1 (some .int) h0 qs ks kc (fun r u => (r, u) = v) X) (hc : ∀ j av s w, call j av s = some w → kc j av s (fun r u => (r, u) = w)) {σ : zSt} (h : b_place n call h0 qs ks σ = some v) : X 0 [some (.ref h0)] [] σ := by
  rw [b_place] at h
  refine zs_aload_n hX dX13_place_0 rfl rfl ?_
  refine zg_place hX dX13_place_1 ?_
  exact zs_iret hX dX13_place_4 rfl (Option.some.inj h)
def b_rich (n : Nat) (call : zCl) (h0 : Nat) (qs : List Nat) (ks : Nat → Nat) (x1 : Int32) (x2 : Int32) (x3 : Int32) (x4 : Int32) (x5 : Int32) (σ : zSt) : zRs :=
  zgd (zin (σ.1 75) 40000) (zlet (zA σ 42 (upd (σ.2.2.1 42) ((σ.1 75)).toNatClampNeg x1)) fun s2 =>
  zgd (zin (s2.1 75) 40000) (zlet (zA s2 43 (upd (s2.2.2.1 43) ((s2.1 75)).toNatClampNeg x2)) fun s5 =>
  zgd (zin (s5.1 75) 40000) (zlet (zA s5 44 (upd (s5.2.2.1 44) ((s5.1 75)).toNatClampNeg x3)) fun s8 =>
  zgd (zin (s8.1 75) 40000) (zlet (zA s8 45 (upd (s8.2.2.1 45) ((s8.1 75)).toNatClampNeg x4)) fun s11 =>
  zgd (zin (s11.1 75) 40000) (zlet (zA s11 46 (upd (s11.2.2.1 46) ((s11.1 75)).toNatClampNeg x5)) fun s14 =>
  zlet (zI s14 75 ((s14.1 75) + 1)) fun s16 =>
  some (some (.int ((s16.1 75) - 1)), s16))))))
set_option maxHeartbeats 4000000 in
theorem pb_rich {h0 : Nat} {qs : List Nat} {ks : Nat → Nat} {n : Nat} {call : zCl} {kc : Nat → List Value → zSt → (Option Value → zSt → Prop) → Prop} {v : Option Value × zSt} {X : Nat → zLv → List Value → zSt → Prop} (hX : zSem cX13_rich 6 (some .int) h0 qs ks kc (fun r u => (r, u) = v) X) (hc : ∀ j av s w, call j av s = some w → kc j av s (fun r u => (r, u) = w)) {x1 : Int32} {x2 : Int32} {x3 : Int32} {x4 : Int32} {x5 : Int32} {σ : zSt} (h : b_rich n call h0 qs ks x1 x2 x3 x4 x5 σ = some v) : X 0 [some (.ref h0), some (.int x1), some (.int x2), some (.int x3), some (.int x4), some (.int x5)] [] σ := by
  rw [b_rich] at h
  refine zs_aload_n hX dX13_rich_0 rfl rfl ?_
  refine zg_rKind hX dX13_rich_1 ?_
  refine zs_aload_n hX dX13_rich_4 rfl rfl ?_
  refine zg_rich hX dX13_rich_5 ?_
  refine zs_iload_n hX dX13_rich_8 rfl rfl ?_
  obtain ⟨b1, h⟩ := zgd_e h
  obtain ⟨s2, e3, h⟩ := zlet_e h
  refine zt_rKind hX dX13_rich_9 (zin_ok b1) ?_
  rw [← e3]
  refine zs_aload_n hX dX13_rich_10 rfl rfl ?_
  refine zg_rSaid hX dX13_rich_11 ?_
  refine zs_aload_n hX dX13_rich_14 rfl rfl ?_
  refine zg_rich hX dX13_rich_15 ?_
  refine zs_iload_n hX dX13_rich_18 rfl rfl ?_
  obtain ⟨b4, h⟩ := zgd_e h
  obtain ⟨s5, e6, h⟩ := zlet_e h
  refine zt_rSaid hX dX13_rich_19 (zin_ok b4) ?_
  rw [← e6]
  refine zs_aload_n hX dX13_rich_20 rfl rfl ?_
  refine zg_rName hX dX13_rich_21 ?_
  refine zs_aload_n hX dX13_rich_24 rfl rfl ?_
  refine zg_rich hX dX13_rich_25 ?_
  refine zs_iload_n hX dX13_rich_28 rfl rfl ?_
  obtain ⟨b7, h⟩ := zgd_e h
  obtain ⟨s8, e9, h⟩ := zlet_e h
  refine zt_rName hX dX13_rich_29 (zin_ok b7) ?_
  rw [← e9]
  refine zs_aload_n hX dX13_rich_30 rfl rfl ?_
  refine zg_rLeft hX dX13_rich_31 ?_
  refine zs_aload_n hX dX13_rich_34 rfl rfl ?_
  refine zg_rich hX dX13_rich_35 ?_
  refine zs_iload hX dX13_rich_38 rfl ?_
  obtain ⟨b10, h⟩ := zgd_e h
  obtain ⟨s11, e12, h⟩ := zlet_e h
  refine zt_rLeft hX dX13_rich_40 (zin_ok b10) ?_
  rw [← e12]
  refine zs_aload_n hX dX13_rich_41 rfl rfl ?_
  refine zg_rRight hX dX13_rich_42 ?_
  refine zs_aload_n hX dX13_rich_45 rfl rfl ?_
  refine zg_rich hX dX13_rich_46 ?_
  refine zs_iload hX dX13_rich_49 rfl ?_
  obtain ⟨b13, h⟩ := zgd_e h
  obtain ⟨s14, e15, h⟩ := zlet_e h
  refine zt_rRight hX dX13_rich_51 (zin_ok b13) ?_
  rw [← e15]
  refine zs_aload_n hX dX13_rich_52 rfl rfl ?_
  refine zs_dup hX dX13_rich_53 rfl ?_
  refine zg_rich hX dX13_rich_54 ?_
  refine zs_iconst (v := 1) hX dX13_rich_57 (by decide) ?_
  refine zs_iadd hX dX13_rich_58 ?_
  obtain ⟨s16, e17, h⟩ := zlet_e h
  refine zp_rich hX dX13_rich_59 ?_
  rw [← e17]
  refine zs_aload_n hX dX13_rich_62 rfl rfl ?_
  refine zg_rich hX dX13_rich_63 ?_
  refine zs_iconst (v := 1) hX dX13_rich_66 (by decide) ?_
  refine zs_isub hX dX13_rich_67 ?_
  exact zs_iret hX dX13_rich_68 rfl (Option.some.inj h)
def b_said (n : Nat) (call : zCl) (h0 : Nat) (qs : List Nat) (ks : Nat → Nat) (x1 : Int32) (x2 : Int32) (x3 : Int32) (σ : zSt) : zRs :=
  zgd (zin (σ.1 79) 24000) (zlet (zA σ 47 (upd (σ.2.2.1 47) ((σ.1 79)).toNatClampNeg x1)) fun s2 =>
  zgd (zin (s2.1 79) 24000) (zlet (zA s2 48 (upd (s2.2.2.1 48) ((s2.1 79)).toNatClampNeg x2)) fun s5 =>
  zgd (zin (s5.1 79) 24000) (zlet (zA s5 49 (upd (s5.2.2.1 49) ((s5.1 79)).toNatClampNeg x3)) fun s8 =>
  zlet (zI s8 79 ((s8.1 79) + 1)) fun s10 =>
  some (some (.int ((s10.1 79) - 1)), s10))))
set_option maxHeartbeats 4000000 in
theorem pb_said {h0 : Nat} {qs : List Nat} {ks : Nat → Nat} {n : Nat} {call : zCl} {kc : Nat → List Value → zSt → (Option Value → zSt → Prop) → Prop} {v : Option Value × zSt} {X : Nat → zLv → List Value → zSt → Prop} (hX : zSem cX13_said 4 (some .int) h0 qs ks kc (fun r u => (r, u) = v) X) (hc : ∀ j av s w, call j av s = some w → kc j av s (fun r u => (r, u) = w)) {x1 : Int32} {x2 : Int32} {x3 : Int32} {σ : zSt} (h : b_said n call h0 qs ks x1 x2 x3 σ = some v) : X 0 [some (.ref h0), some (.int x1), some (.int x2), some (.int x3)] [] σ := by
  rw [b_said] at h
  refine zs_aload_n hX dX13_said_0 rfl rfl ?_
  refine zg_saidCase hX dX13_said_1 ?_
  refine zs_aload_n hX dX13_said_4 rfl rfl ?_
  refine zg_saids hX dX13_said_5 ?_
  refine zs_iload_n hX dX13_said_8 rfl rfl ?_
  obtain ⟨b1, h⟩ := zgd_e h
  obtain ⟨s2, e3, h⟩ := zlet_e h
  refine zt_saidCase hX dX13_said_9 (zin_ok b1) ?_
  rw [← e3]
  refine zs_aload_n hX dX13_said_10 rfl rfl ?_
  refine zg_saidFact hX dX13_said_11 ?_
  refine zs_aload_n hX dX13_said_14 rfl rfl ?_
  refine zg_saids hX dX13_said_15 ?_
  refine zs_iload_n hX dX13_said_18 rfl rfl ?_
  obtain ⟨b4, h⟩ := zgd_e h
  obtain ⟨s5, e6, h⟩ := zlet_e h
  refine zt_saidFact hX dX13_said_19 (zin_ok b4) ?_
  rw [← e6]
  refine zs_aload_n hX dX13_said_20 rfl rfl ?_
  refine zg_saidPut hX dX13_said_21 ?_
  refine zs_aload_n hX dX13_said_24 rfl rfl ?_
  refine zg_saids hX dX13_said_25 ?_
  refine zs_iload_n hX dX13_said_28 rfl rfl ?_
  obtain ⟨b7, h⟩ := zgd_e h
  obtain ⟨s8, e9, h⟩ := zlet_e h
  refine zt_saidPut hX dX13_said_29 (zin_ok b7) ?_
  rw [← e9]
  refine zs_aload_n hX dX13_said_30 rfl rfl ?_
  refine zs_dup hX dX13_said_31 rfl ?_
  refine zg_saids hX dX13_said_32 ?_
  refine zs_iconst (v := 1) hX dX13_said_35 (by decide) ?_
  refine zs_iadd hX dX13_said_36 ?_
  obtain ⟨s10, e11, h⟩ := zlet_e h
  refine zp_saids hX dX13_said_37 ?_
  rw [← e11]
  refine zs_aload_n hX dX13_said_40 rfl rfl ?_
  refine zg_saids hX dX13_said_41 ?_
  refine zs_iconst (v := 1) hX dX13_said_44 (by decide) ?_
  refine zs_isub hX dX13_said_45 ?_
  exact zs_iret hX dX13_said_46 rfl (Option.some.inj h)
def b_fact (n : Nat) (call : zCl) (h0 : Nat) (qs : List Nat) (ks : Nat → Nat) (x1 : Int32) (x2 : Int32) (x3 : Int32) (x4 : Int64) (x6 : Int32) (σ : zSt) : zRs :=
  zgd (zin (σ.1 85) 12000) (zlet (zA σ 50 (upd (σ.2.2.1 50) ((σ.1 85)).toNatClampNeg x1)) fun s2 =>
  zgd (zin (s2.1 85) 12000) (zlet (zA s2 51 (upd (s2.2.2.1 51) ((s2.1 85)).toNatClampNeg x2)) fun s5 =>
  zgd (zin (s5.1 85) 12000) (zlet (zA s5 52 (upd (s5.2.2.1 52) ((s5.1 85)).toNatClampNeg x3)) fun s8 =>
  zgd (zin (s8.1 85) 12000) (zlet (zG s8 54 (vp_updL (s8.2.2.2 54) ((s8.1 85)).toNatClampNeg x4)) fun s11 =>
  zgd (zin (s11.1 85) 12000) (zlet (zA s11 53 (upd (s11.2.2.1 53) ((s11.1 85)).toNatClampNeg x6)) fun s14 =>
  zlet (zI s14 85 ((s14.1 85) + 1)) fun s16 =>
  some (some (.int ((s16.1 85) - 1)), s16))))))
set_option maxHeartbeats 4000000 in
theorem pb_fact {h0 : Nat} {qs : List Nat} {ks : Nat → Nat} {n : Nat} {call : zCl} {kc : Nat → List Value → zSt → (Option Value → zSt → Prop) → Prop} {v : Option Value × zSt} {X : Nat → zLv → List Value → zSt → Prop} (hX : zSem cX13_fact 7 (some .int) h0 qs ks kc (fun r u => (r, u) = v) X) (hc : ∀ j av s w, call j av s = some w → kc j av s (fun r u => (r, u) = w)) {x1 : Int32} {x2 : Int32} {x3 : Int32} {x4 : Int64} {x6 : Int32} {σ : zSt} (h : b_fact n call h0 qs ks x1 x2 x3 x4 x6 σ = some v) : X 0 [some (.ref h0), some (.int x1), some (.int x2), some (.int x3), some (.long x4), none, some (.int x6)] [] σ := by
  rw [b_fact] at h
  refine zs_aload_n hX dX13_fact_0 rfl rfl ?_
  refine zg_factRel hX dX13_fact_1 ?_
  refine zs_aload_n hX dX13_fact_4 rfl rfl ?_
  refine zg_facts hX dX13_fact_5 ?_
  refine zs_iload_n hX dX13_fact_8 rfl rfl ?_
  obtain ⟨b1, h⟩ := zgd_e h
  obtain ⟨s2, e3, h⟩ := zlet_e h
  refine zt_factRel hX dX13_fact_9 (zin_ok b1) ?_
  rw [← e3]
  refine zs_aload_n hX dX13_fact_10 rfl rfl ?_
  refine zg_factName hX dX13_fact_11 ?_
  refine zs_aload_n hX dX13_fact_14 rfl rfl ?_
  refine zg_facts hX dX13_fact_15 ?_
  refine zs_iload_n hX dX13_fact_18 rfl rfl ?_
  obtain ⟨b4, h⟩ := zgd_e h
  obtain ⟨s5, e6, h⟩ := zlet_e h
  refine zt_factName hX dX13_fact_19 (zin_ok b4) ?_
  rw [← e6]
  refine zs_aload_n hX dX13_fact_20 rfl rfl ?_
  refine zg_factTimes hX dX13_fact_21 ?_
  refine zs_aload_n hX dX13_fact_24 rfl rfl ?_
  refine zg_facts hX dX13_fact_25 ?_
  refine zs_iload_n hX dX13_fact_28 rfl rfl ?_
  obtain ⟨b7, h⟩ := zgd_e h
  obtain ⟨s8, e9, h⟩ := zlet_e h
  refine zt_factTimes hX dX13_fact_29 (zin_ok b7) ?_
  rw [← e9]
  refine zs_aload_n hX dX13_fact_30 rfl rfl ?_
  refine zg_factNumber hX dX13_fact_31 ?_
  refine zs_aload_n hX dX13_fact_34 rfl rfl ?_
  refine zg_facts hX dX13_fact_35 ?_
  refine zs_lload hX dX13_fact_38 rfl ?_
  obtain ⟨b10, h⟩ := zgd_e h
  obtain ⟨s11, e12, h⟩ := zlet_e h
  refine zt_factNumber hX dX13_fact_40 (zin_ok b10) ?_
  rw [← e12]
  refine zs_aload_n hX dX13_fact_41 rfl rfl ?_
  refine zg_factNext hX dX13_fact_42 ?_
  refine zs_aload_n hX dX13_fact_45 rfl rfl ?_
  refine zg_facts hX dX13_fact_46 ?_
  refine zs_iload hX dX13_fact_49 rfl ?_
  obtain ⟨b13, h⟩ := zgd_e h
  obtain ⟨s14, e15, h⟩ := zlet_e h
  refine zt_factNext hX dX13_fact_51 (zin_ok b13) ?_
  rw [← e15]
  refine zs_aload_n hX dX13_fact_52 rfl rfl ?_
  refine zs_dup hX dX13_fact_53 rfl ?_
  refine zg_facts hX dX13_fact_54 ?_
  refine zs_iconst (v := 1) hX dX13_fact_57 (by decide) ?_
  refine zs_iadd hX dX13_fact_58 ?_
  obtain ⟨s16, e17, h⟩ := zlet_e h
  refine zp_facts hX dX13_fact_59 ?_
  rw [← e17]
  refine zs_aload_n hX dX13_fact_62 rfl rfl ?_
  refine zg_facts hX dX13_fact_63 ?_
  refine zs_iconst (v := 1) hX dX13_fact_66 (by decide) ?_
  refine zs_isub hX dX13_fact_67 ?_
  exact zs_iret hX dX13_fact_68 rfl (Option.some.inj h)
def b_isSum (n : Nat) (call : zCl) (h0 : Nat) (qs : List Nat) (ks : Nat → Nat) (x1 : Int32) (σ : zSt) : zRs :=
  zci (call 57 [.ref h0, .int x1] σ) fun r3 s1 =>
  if r3 = 0 then
    some (some (.int (-1)), s1)
  else
    if (s1.1 63) = 0 then
      zci (call 69 [.ref h0, .int 0, .int (-1), .int 0, .long (s1.2.1 64), .int (-1)] s1) fun r13 s11 =>
      some (some (.int r13), s11)
    else
      zgd (zin 0 40) (
      zgd (zin 0 40) (
      zci (call 69 [.ref h0, .int 0, .int (s1.2.2.1 40 ((0 : Int32)).toNatClampNeg), .int (s1.2.2.1 41 ((0 : Int32)).toNatClampNeg), .long (s1.2.1 64), .int (-1)] s1) fun r10 s8 =>
      some (some (.int r10), s8)))
set_option maxHeartbeats 4000000 in
theorem pb_isSum {h0 : Nat} {qs : List Nat} {ks : Nat → Nat} {n : Nat} {call : zCl} {kc : Nat → List Value → zSt → (Option Value → zSt → Prop) → Prop} {v : Option Value × zSt} {X : Nat → zLv → List Value → zSt → Prop} (hX : zSem cX13_isSum 2 (some .int) h0 qs ks kc (fun r u => (r, u) = v) X) (hc : ∀ j av s w, call j av s = some w → kc j av s (fun r u => (r, u) = w)) {x1 : Int32} {σ : zSt} (h : b_isSum n call h0 qs ks x1 σ = some v) : X 0 [some (.ref h0), some (.int x1)] [] σ := by
  rw [b_isSum] at h
  refine zs_aload_n hX dX13_isSum_0 rfl rfl ?_
  refine zs_iload_n hX dX13_isSum_1 rfl rfl ?_
  obtain ⟨r3, s1, e2, h⟩ := zci_e h
  refine zc_isTerm hX dX13_isSum_2 (Nat.le_of_ble_eq_true rfl) (hc _ _ _ _ e2) (fun r9 u9 h9 => ?_)
  cases h9
  refine zs_if_eq (tgt := 55) hX dX13_isSum_5 (by decide) (fun c4 => ?_) (fun c4 => ?_)
  · rw [if_pos c4] at h
    refine zs_iconst (v := (-1)) hX dX13_isSum_55 (by decide) ?_
    exact zs_iret hX dX13_isSum_56 rfl (Option.some.inj h)
  · rw [if_neg c4] at h
    refine zs_aload_n hX dX13_isSum_8 rfl rfl ?_
    refine zg_lMany hX dX13_isSum_9 ?_
    refine zs_if_ne (tgt := 30) hX dX13_isSum_12 (by decide) (fun c5 => ?_) (fun c5 => ?_)
    · rw [if_neg c5] at h
      refine zs_aload_n hX dX13_isSum_30 rfl rfl ?_
      refine zs_iconst (v := 0) hX dX13_isSum_31 (by decide) ?_
      refine zs_aload_n hX dX13_isSum_32 rfl rfl ?_
      refine zg_lName hX dX13_isSum_33 ?_
      refine zs_iconst (v := 0) hX dX13_isSum_36 (by decide) ?_
      obtain ⟨b6, h⟩ := zgd_e h
      refine zl_lName hX dX13_isSum_37 (zin_ok b6) ?_
      refine zs_aload_n hX dX13_isSum_38 rfl rfl ?_
      refine zg_lTimes hX dX13_isSum_39 ?_
      refine zs_iconst (v := 0) hX dX13_isSum_42 (by decide) ?_
      obtain ⟨b7, h⟩ := zgd_e h
      refine zl_lTimes hX dX13_isSum_43 (zin_ok b7) ?_
      refine zs_aload_n hX dX13_isSum_44 rfl rfl ?_
      refine zg_lNumber hX dX13_isSum_45 ?_
      refine zs_iconst (v := (-1)) hX dX13_isSum_48 (by decide) ?_
      obtain ⟨r10, s8, e9, h⟩ := zci_e h
      refine zc_fact hX dX13_isSum_49 (Nat.le_of_ble_eq_true rfl) (hc _ _ _ _ e9) (fun r9 u9 h9 => ?_)
      cases h9
      refine zs_goto (tgt := 56) hX dX13_isSum_52 (by decide) ?_
      exact zs_iret hX dX13_isSum_56 rfl (Option.some.inj h)
    · rw [if_pos c5] at h
      refine zs_aload_n hX dX13_isSum_15 rfl rfl ?_
      refine zs_iconst (v := 0) hX dX13_isSum_16 (by decide) ?_
      refine zs_iconst (v := (-1)) hX dX13_isSum_17 (by decide) ?_
      refine zs_iconst (v := 0) hX dX13_isSum_18 (by decide) ?_
      refine zs_aload_n hX dX13_isSum_19 rfl rfl ?_
      refine zg_lNumber hX dX13_isSum_20 ?_
      refine zs_iconst (v := (-1)) hX dX13_isSum_23 (by decide) ?_
      obtain ⟨r13, s11, e12, h⟩ := zci_e h
      refine zc_fact hX dX13_isSum_24 (Nat.le_of_ble_eq_true rfl) (hc _ _ _ _ e12) (fun r9 u9 h9 => ?_)
      cases h9
      refine zs_goto (tgt := 56) hX dX13_isSum_27 (by decide) ?_
      exact zs_iret hX dX13_isSum_56 rfl (Option.some.inj h)
def j_isSaid_15 (n : Nat) (call : zCl) (h0 : Nat) (qs : List Nat) (ks : Nat → Nat) (σ : zSt) : zRs :=
  some (some (.int 1), σ)
def b_isSaid (n : Nat) (call : zCl) (h0 : Nat) (qs : List Nat) (ks : Nat → Nat) (x0 : Int32) (σ : zSt) : zRs :=
  if x0 = 1 then
    j_isSaid_15 n call h0 qs ks σ
  else
    if x0 = 3 then
      j_isSaid_15 n call h0 qs ks σ
    else
      if x0 = 5 then
        j_isSaid_15 n call h0 qs ks σ
      else
        some (some (.int 0), σ)
set_option maxHeartbeats 4000000 in
theorem pj_isSaid_15 {h0 : Nat} {qs : List Nat} {ks : Nat → Nat} {n : Nat} {call : zCl} {kc : Nat → List Value → zSt → (Option Value → zSt → Prop) → Prop} {v : Option Value × zSt} {X : Nat → zLv → List Value → zSt → Prop} (hX : zSem cX13_isSaid 1 (some .boolean) h0 qs ks kc (fun r u => (r, u) = v) X) (hc : ∀ j av s w, call j av s = some w → kc j av s (fun r u => (r, u) = w)) {σ : zSt} (h : j_isSaid_15 n call h0 qs ks σ = some v) : X 15 [none] [] σ := by
  rw [j_isSaid_15] at h
  refine zs_iconst (v := 1) hX dX13_isSaid_15 (by decide) ?_
  refine zs_goto (tgt := 20) hX dX13_isSaid_16 (by decide) ?_
  exact zs_zret hX dX13_isSaid_20 rfl (by decide) (Option.some.inj h)
set_option maxHeartbeats 4000000 in
theorem pb_isSaid {h0 : Nat} {qs : List Nat} {ks : Nat → Nat} {n : Nat} {call : zCl} {kc : Nat → List Value → zSt → (Option Value → zSt → Prop) → Prop} {v : Option Value × zSt} {X : Nat → zLv → List Value → zSt → Prop} (hX : zSem cX13_isSaid 1 (some .boolean) h0 qs ks kc (fun r u => (r, u) = v) X) (hc : ∀ j av s w, call j av s = some w → kc j av s (fun r u => (r, u) = w)) {x0 : Int32} {σ : zSt} (h : b_isSaid n call h0 qs ks x0 σ = some v) : X 0 [some (.int x0)] [] σ := by
  rw [b_isSaid] at h
  refine zs_iload_n hX dX13_isSaid_0 rfl rfl ?_
  refine zs_iconst (v := 1) hX dX13_isSaid_1 (by decide) ?_
  refine zs_icmp_eq (tgt := 15) hX dX13_isSaid_2 (by decide) (fun c1 => ?_) (fun c1 => ?_)
  · rw [if_pos c1] at h
    refine zs_weak hX (lw := [none]) trivial ?_
    exact pj_isSaid_15 hX hc h
  · rw [if_neg c1] at h
    refine zs_iload_n hX dX13_isSaid_5 rfl rfl ?_
    refine zs_iconst (v := 3) hX dX13_isSaid_6 (by decide) ?_
    refine zs_icmp_eq (tgt := 15) hX dX13_isSaid_7 (by decide) (fun c2 => ?_) (fun c2 => ?_)
    · rw [if_pos c2] at h
      refine zs_weak hX (lw := [none]) trivial ?_
      exact pj_isSaid_15 hX hc h
    · rw [if_neg c2] at h
      refine zs_iload_n hX dX13_isSaid_10 rfl rfl ?_
      refine zs_iconst (v := 5) hX dX13_isSaid_11 (by decide) ?_
      refine zs_icmp_ne (tgt := 19) hX dX13_isSaid_12 (by decide) (fun c3 => ?_) (fun c3 => ?_)
      · rw [if_neg c3] at h
        refine zs_iconst (v := 0) hX dX13_isSaid_19 (by decide) ?_
        exact zs_zret hX dX13_isSaid_20 rfl (by decide) (Option.some.inj h)
      · rw [if_pos c3] at h
        refine zs_weak hX (lw := [none]) trivial ?_
        exact pj_isSaid_15 hX hc h
def j_plainType_20 (n : Nat) (call : zCl) (h0 : Nat) (qs : List Nat) (ks : Nat → Nat) (t1 : Int32) (t2 : Int32) (σ : zSt) : zRs :=
  zci (call 67 [.ref h0, .int t1, .int t2, .int (-1), .int (-1), .int (-1)] σ) fun r3 s1 =>
  some (some (.int r3), s1)
def b_plainType (n : Nat) (call : zCl) (h0 : Nat) (qs : List Nat) (ks : Nat → Nat) (x1 : Int32) (σ : zSt) : zRs :=
  zci (call 71 [.int x1] σ) fun r3 s1 =>
  if r3 = 0 then
    j_plainType_20 n call h0 qs ks x1 (-1) s1
  else
    zci (call 68 [.ref h0, .int (-1), .int (-1), .int (-1)] s1) fun r7 s5 =>
    j_plainType_20 n call h0 qs ks x1 r7 s5
set_option maxHeartbeats 4000000 in
theorem pj_plainType_20 {h0 : Nat} {qs : List Nat} {ks : Nat → Nat} {n : Nat} {call : zCl} {kc : Nat → List Value → zSt → (Option Value → zSt → Prop) → Prop} {v : Option Value × zSt} {X : Nat → zLv → List Value → zSt → Prop} (hX : zSem cX13_plainType 2 (some .int) h0 qs ks kc (fun r u => (r, u) = v) X) (hc : ∀ j av s w, call j av s = some w → kc j av s (fun r u => (r, u) = w)) {t1 : Int32} {t2 : Int32} {σ : zSt} (h : j_plainType_20 n call h0 qs ks t1 t2 σ = some v) : X 20 [none, none] [.int t2, .int t1, .ref h0] σ := by
  rw [j_plainType_20] at h
  refine zs_iconst (v := (-1)) hX dX13_plainType_20 (by decide) ?_
  refine zs_iconst (v := (-1)) hX dX13_plainType_21 (by decide) ?_
  refine zs_iconst (v := (-1)) hX dX13_plainType_22 (by decide) ?_
  obtain ⟨r3, s1, e2, h⟩ := zci_e h
  refine zc_rich hX dX13_plainType_23 (Nat.le_of_ble_eq_true rfl) (hc _ _ _ _ e2) (fun r9 u9 h9 => ?_)
  cases h9
  exact zs_iret hX dX13_plainType_26 rfl (Option.some.inj h)
set_option maxHeartbeats 4000000 in
theorem pb_plainType {h0 : Nat} {qs : List Nat} {ks : Nat → Nat} {n : Nat} {call : zCl} {kc : Nat → List Value → zSt → (Option Value → zSt → Prop) → Prop} {v : Option Value × zSt} {X : Nat → zLv → List Value → zSt → Prop} (hX : zSem cX13_plainType 2 (some .int) h0 qs ks kc (fun r u => (r, u) = v) X) (hc : ∀ j av s w, call j av s = some w → kc j av s (fun r u => (r, u) = w)) {x1 : Int32} {σ : zSt} (h : b_plainType n call h0 qs ks x1 σ = some v) : X 0 [some (.ref h0), some (.int x1)] [] σ := by
  rw [b_plainType] at h
  refine zs_aload_n hX dX13_plainType_0 rfl rfl ?_
  refine zs_iload_n hX dX13_plainType_1 rfl rfl ?_
  refine zs_iload_n hX dX13_plainType_2 rfl rfl ?_
  obtain ⟨r3, s1, e2, h⟩ := zci_e h
  refine zc_isSaid hX dX13_plainType_3 (Nat.le_of_ble_eq_true rfl) (hc _ _ _ _ e2) (fun r9 u9 h9 => ?_)
  cases h9
  refine zs_if_eq (tgt := 19) hX dX13_plainType_6 (by decide) (fun c4 => ?_) (fun c4 => ?_)
  · rw [if_pos c4] at h
    refine zs_iconst (v := (-1)) hX dX13_plainType_19 (by decide) ?_
    refine zs_weak hX (lw := [none, none]) trivial ?_
    exact pj_plainType_20 hX hc h
  · rw [if_neg c4] at h
    refine zs_aload_n hX dX13_plainType_9 rfl rfl ?_
    refine zs_iconst (v := (-1)) hX dX13_plainType_10 (by decide) ?_
    refine zs_iconst (v := (-1)) hX dX13_plainType_11 (by decide) ?_
    refine zs_iconst (v := (-1)) hX dX13_plainType_12 (by decide) ?_
    obtain ⟨r7, s5, e6, h⟩ := zci_e h
    refine zc_said hX dX13_plainType_13 (Nat.le_of_ble_eq_true rfl) (hc _ _ _ _ e6) (fun r9 u9 h9 => ?_)
    cases h9
    refine zs_goto (tgt := 20) hX dX13_plainType_16 (by decide) ?_
    refine zs_weak hX (lw := [none, none]) trivial ?_
    exact pj_plainType_20 hX hc h
def j_knows_91 (n : Nat) (call : zCl) (h0 : Nat) (qs : List Nat) (ks : Nat → Nat) (t1 : Int32) (t2 : Int32) (σ : zSt) : zRs :=
  zgd (zin t1 1501) (zlet (zA σ 67 (upd (σ.2.2.1 67) (t1).toNatClampNeg (vp_nar .boolean t2))) fun s2 =>
  some (some (.int ((s2.1 109) - 1)), s2))
def j_knows_70 (n : Nat) (call : zCl) (h0 : Nat) (qs : List Nat) (ks : Nat → Nat) (x2 : Int32) (x3 : Int32) (t1 : Int32) (t2 : Int32) (σ : zSt) : zRs :=
  zgd (zin t1 1501) (zlet (zA σ 66 (upd (σ.2.2.1 66) (t1).toNatClampNeg (vp_nar .boolean t2))) fun s2 =>
  zgd (zin x3 40000) (
  if (s2.2.2.1 42 (x3).toNatClampNeg) = 5 then
    j_knows_91 n call h0 qs ks x2 1 s2
  else
    j_knows_91 n call h0 qs ks x2 0 s2))
def j_knows_65 (n : Nat) (call : zCl) (h0 : Nat) (qs : List Nat) (ks : Nat → Nat) (x2 : Int32) (x3 : Int32) (t1 : Int32) (σ : zSt) : zRs :=
  j_knows_70 n call h0 qs ks x2 x3 t1 1 σ
def b_knows (n : Nat) (call : zCl) (h0 : Nat) (qs : List Nat) (ks : Nat → Nat) (x1 : Int32) (x2 : Int32) (x3 : Int32) (σ : zSt) : zRs :=
  zgd (zin (σ.1 109) 12000) (zlet (zA σ 68 (upd (σ.2.2.1 68) ((σ.1 109)).toNatClampNeg x2)) fun s2 =>
  zgd (zin (s2.1 109) 12000) (zlet (zA s2 69 (upd (s2.2.2.1 69) ((s2.1 109)).toNatClampNeg x3)) fun s5 =>
  zgd (zin (s5.1 109) 12000) (zlet (zA s5 70 (upd (s5.2.2.1 70) ((s5.1 109)).toNatClampNeg x1)) fun s8 =>
  zlet (zI s8 109 ((s8.1 109) + 1)) fun s10 =>
  zgd (zin x3 40000) (
  if (s10.2.2.1 42 (x3).toNatClampNeg) = 3 then
    j_knows_65 n call h0 qs ks x2 x3 x2 s10
  else
    zgd (zin x3 40000) (
    if (s10.2.2.1 42 (x3).toNatClampNeg) = 5 then
      j_knows_65 n call h0 qs ks x2 x3 x2 s10
    else
      j_knows_70 n call h0 qs ks x2 x3 x2 0 s10)))))
set_option maxHeartbeats 4000000 in
theorem pj_knows_91 {h0 : Nat} {qs : List Nat} {ks : Nat → Nat} {n : Nat} {call : zCl} {kc : Nat → List Value → zSt → (Option Value → zSt → Prop) → Prop} {v : Option Value × zSt} {X : Nat → zLv → List Value → zSt → Prop} (hX : zSem cX13_knows 4 (some .int) h0 qs ks kc (fun r u => (r, u) = v) X) (hc : ∀ j av s w, call j av s = some w → kc j av s (fun r u => (r, u) = w)) {t1 : Int32} {t2 : Int32} {σ : zSt} (h : j_knows_91 n call h0 qs ks t1 t2 σ = some v) : X 91 [some (.ref h0), none, none, none] [.int t2, .int t1, .ref (qs.getD 67 0)] σ := by
  rw [j_knows_91] at h
  obtain ⟨b1, h⟩ := zgd_e h
  obtain ⟨s2, e3, h⟩ := zlet_e h
  refine zt_isSize hX dX13_knows_91 (zin_ok b1) ?_
  rw [← e3]
  refine zs_aload_n hX dX13_knows_92 rfl rfl ?_
  refine zg_envs hX dX13_knows_93 ?_
  refine zs_iconst (v := 1) hX dX13_knows_96 (by decide) ?_
  refine zs_isub hX dX13_knows_97 ?_
  exact zs_iret hX dX13_knows_98 rfl (Option.some.inj h)
set_option maxHeartbeats 4000000 in
theorem pj_knows_70 {h0 : Nat} {qs : List Nat} {ks : Nat → Nat} {n : Nat} {call : zCl} {kc : Nat → List Value → zSt → (Option Value → zSt → Prop) → Prop} {v : Option Value × zSt} {X : Nat → zLv → List Value → zSt → Prop} (hX : zSem cX13_knows 4 (some .int) h0 qs ks kc (fun r u => (r, u) = v) X) (hc : ∀ j av s w, call j av s = some w → kc j av s (fun r u => (r, u) = w)) {x2 : Int32} {x3 : Int32} {t1 : Int32} {t2 : Int32} {σ : zSt} (h : j_knows_70 n call h0 qs ks x2 x3 t1 t2 σ = some v) : X 70 [some (.ref h0), none, some (.int x2), some (.int x3)] [.int t2, .int t1, .ref (qs.getD 66 0)] σ := by
  rw [j_knows_70] at h
  obtain ⟨b1, h⟩ := zgd_e h
  obtain ⟨s2, e3, h⟩ := zlet_e h
  refine zt_isLength hX dX13_knows_70 (zin_ok b1) ?_
  rw [← e3]
  refine zs_aload_n hX dX13_knows_71 rfl rfl ?_
  refine zg_isSize hX dX13_knows_72 ?_
  refine zs_iload_n hX dX13_knows_75 rfl rfl ?_
  refine zs_aload_n hX dX13_knows_76 rfl rfl ?_
  refine zg_rKind hX dX13_knows_77 ?_
  refine zs_iload_n hX dX13_knows_80 rfl rfl ?_
  obtain ⟨b4, h⟩ := zgd_e h
  refine zl_rKind hX dX13_knows_81 (zin_ok b4) ?_
  refine zs_iconst (v := 5) hX dX13_knows_82 (by decide) ?_
  refine zs_icmp_ne (tgt := 90) hX dX13_knows_83 (by decide) (fun c5 => ?_) (fun c5 => ?_)
  · rw [if_neg c5] at h
    refine zs_iconst (v := 0) hX dX13_knows_90 (by decide) ?_
    refine zs_weak hX (lw := [some (.ref h0), none, none, none]) ⟨rfl, trivial⟩ ?_
    exact pj_knows_91 hX hc h
  · rw [if_pos c5] at h
    refine zs_iconst (v := 1) hX dX13_knows_86 (by decide) ?_
    refine zs_goto (tgt := 91) hX dX13_knows_87 (by decide) ?_
    refine zs_weak hX (lw := [some (.ref h0), none, none, none]) ⟨rfl, trivial⟩ ?_
    exact pj_knows_91 hX hc h
set_option maxHeartbeats 4000000 in
theorem pj_knows_65 {h0 : Nat} {qs : List Nat} {ks : Nat → Nat} {n : Nat} {call : zCl} {kc : Nat → List Value → zSt → (Option Value → zSt → Prop) → Prop} {v : Option Value × zSt} {X : Nat → zLv → List Value → zSt → Prop} (hX : zSem cX13_knows 4 (some .int) h0 qs ks kc (fun r u => (r, u) = v) X) (hc : ∀ j av s w, call j av s = some w → kc j av s (fun r u => (r, u) = w)) {x2 : Int32} {x3 : Int32} {t1 : Int32} {σ : zSt} (h : j_knows_65 n call h0 qs ks x2 x3 t1 σ = some v) : X 65 [some (.ref h0), none, some (.int x2), some (.int x3)] [.int t1, .ref (qs.getD 66 0)] σ := by
  rw [j_knows_65] at h
  refine zs_iconst (v := 1) hX dX13_knows_65 (by decide) ?_
  refine zs_goto (tgt := 70) hX dX13_knows_66 (by decide) ?_
  exact pj_knows_70 hX hc h
set_option maxHeartbeats 4000000 in
theorem pb_knows {h0 : Nat} {qs : List Nat} {ks : Nat → Nat} {n : Nat} {call : zCl} {kc : Nat → List Value → zSt → (Option Value → zSt → Prop) → Prop} {v : Option Value × zSt} {X : Nat → zLv → List Value → zSt → Prop} (hX : zSem cX13_knows 4 (some .int) h0 qs ks kc (fun r u => (r, u) = v) X) (hc : ∀ j av s w, call j av s = some w → kc j av s (fun r u => (r, u) = w)) {x1 : Int32} {x2 : Int32} {x3 : Int32} {σ : zSt} (h : b_knows n call h0 qs ks x1 x2 x3 σ = some v) : X 0 [some (.ref h0), some (.int x1), some (.int x2), some (.int x3)] [] σ := by
  rw [b_knows] at h
  refine zs_aload_n hX dX13_knows_0 rfl rfl ?_
  refine zg_envName hX dX13_knows_1 ?_
  refine zs_aload_n hX dX13_knows_4 rfl rfl ?_
  refine zg_envs hX dX13_knows_5 ?_
  refine zs_iload_n hX dX13_knows_8 rfl rfl ?_
  obtain ⟨b1, h⟩ := zgd_e h
  obtain ⟨s2, e3, h⟩ := zlet_e h
  refine zt_envName hX dX13_knows_9 (zin_ok b1) ?_
  rw [← e3]
  refine zs_aload_n hX dX13_knows_10 rfl rfl ?_
  refine zg_envType hX dX13_knows_11 ?_
  refine zs_aload_n hX dX13_knows_14 rfl rfl ?_
  refine zg_envs hX dX13_knows_15 ?_
  refine zs_iload_n hX dX13_knows_18 rfl rfl ?_
  obtain ⟨b4, h⟩ := zgd_e h
  obtain ⟨s5, e6, h⟩ := zlet_e h
  refine zt_envType hX dX13_knows_19 (zin_ok b4) ?_
  rw [← e6]
  refine zs_aload_n hX dX13_knows_20 rfl rfl ?_
  refine zg_envBefore hX dX13_knows_21 ?_
  refine zs_aload_n hX dX13_knows_24 rfl rfl ?_
  refine zg_envs hX dX13_knows_25 ?_
  refine zs_iload_n hX dX13_knows_28 rfl rfl ?_
  obtain ⟨b7, h⟩ := zgd_e h
  obtain ⟨s8, e9, h⟩ := zlet_e h
  refine zt_envBefore hX dX13_knows_29 (zin_ok b7) ?_
  rw [← e9]
  refine zs_aload_n hX dX13_knows_30 rfl rfl ?_
  refine zs_dup hX dX13_knows_31 rfl ?_
  refine zg_envs hX dX13_knows_32 ?_
  refine zs_iconst (v := 1) hX dX13_knows_35 (by decide) ?_
  refine zs_iadd hX dX13_knows_36 ?_
  obtain ⟨s10, e11, h⟩ := zlet_e h
  refine zp_envs hX dX13_knows_37 ?_
  rw [← e11]
  refine zs_aload_n hX dX13_knows_40 rfl rfl ?_
  refine zg_isLength hX dX13_knows_41 ?_
  refine zs_iload_n hX dX13_knows_44 rfl rfl ?_
  refine zs_aload_n hX dX13_knows_45 rfl rfl ?_
  refine zg_rKind hX dX13_knows_46 ?_
  refine zs_iload_n hX dX13_knows_49 rfl rfl ?_
  obtain ⟨b12, h⟩ := zgd_e h
  refine zl_rKind hX dX13_knows_50 (zin_ok b12) ?_
  refine zs_iconst (v := 3) hX dX13_knows_51 (by decide) ?_
  refine zs_icmp_eq (tgt := 65) hX dX13_knows_52 (by decide) (fun c13 => ?_) (fun c13 => ?_)
  · rw [if_pos c13] at h
    refine zs_weak hX (lw := [some (.ref h0), none, some (.int x2), some (.int x3)]) ⟨rfl, rfl, rfl, trivial⟩ ?_
    exact pj_knows_65 hX hc h
  · rw [if_neg c13] at h
    refine zs_aload_n hX dX13_knows_55 rfl rfl ?_
    refine zg_rKind hX dX13_knows_56 ?_
    refine zs_iload_n hX dX13_knows_59 rfl rfl ?_
    obtain ⟨b14, h⟩ := zgd_e h
    refine zl_rKind hX dX13_knows_60 (zin_ok b14) ?_
    refine zs_iconst (v := 5) hX dX13_knows_61 (by decide) ?_
    refine zs_icmp_ne (tgt := 69) hX dX13_knows_62 (by decide) (fun c15 => ?_) (fun c15 => ?_)
    · rw [if_neg c15] at h
      refine zs_iconst (v := 0) hX dX13_knows_69 (by decide) ?_
      refine zs_weak hX (lw := [some (.ref h0), none, some (.int x2), some (.int x3)]) ⟨rfl, rfl, rfl, trivial⟩ ?_
      exact pj_knows_70 hX hc h
    · rw [if_pos c15] at h
      refine zs_weak hX (lw := [some (.ref h0), none, some (.int x2), some (.int x3)]) ⟨rfl, rfl, rfl, trivial⟩ ?_
      exact pj_knows_65 hX hc h
def b_gone (n : Nat) (call : zCl) (h0 : Nat) (qs : List Nat) (ks : Nat → Nat) (x1 : Int32) (x2 : Int32) (x3 : Int32) (σ : zSt) : zRs :=
  zgd (zin (σ.1 110) 12000) (zlet (zA σ 71 (upd (σ.2.2.1 71) ((σ.1 110)).toNatClampNeg x2)) fun s2 =>
  zgd (zin (s2.1 110) 12000) (zlet (zA s2 72 (upd (s2.2.2.1 72) ((s2.1 110)).toNatClampNeg x3)) fun s5 =>
  zgd (zin (s5.1 110) 12000) (zlet (zA s5 73 (upd (s5.2.2.1 73) ((s5.1 110)).toNatClampNeg x1)) fun s8 =>
  zlet (zI s8 110 ((s8.1 110) + 1)) fun s10 =>
  some (some (.int ((s10.1 110) - 1)), s10))))
set_option maxHeartbeats 4000000 in
theorem pb_gone {h0 : Nat} {qs : List Nat} {ks : Nat → Nat} {n : Nat} {call : zCl} {kc : Nat → List Value → zSt → (Option Value → zSt → Prop) → Prop} {v : Option Value × zSt} {X : Nat → zLv → List Value → zSt → Prop} (hX : zSem cX13_gone 4 (some .int) h0 qs ks kc (fun r u => (r, u) = v) X) (hc : ∀ j av s w, call j av s = some w → kc j av s (fun r u => (r, u) = w)) {x1 : Int32} {x2 : Int32} {x3 : Int32} {σ : zSt} (h : b_gone n call h0 qs ks x1 x2 x3 σ = some v) : X 0 [some (.ref h0), some (.int x1), some (.int x2), some (.int x3)] [] σ := by
  rw [b_gone] at h
  refine zs_aload_n hX dX13_gone_0 rfl rfl ?_
  refine zg_goneNode hX dX13_gone_1 ?_
  refine zs_aload_n hX dX13_gone_4 rfl rfl ?_
  refine zg_gones hX dX13_gone_5 ?_
  refine zs_iload_n hX dX13_gone_8 rfl rfl ?_
  obtain ⟨b1, h⟩ := zgd_e h
  obtain ⟨s2, e3, h⟩ := zlet_e h
  refine zt_goneNode hX dX13_gone_9 (zin_ok b1) ?_
  rw [← e3]
  refine zs_aload_n hX dX13_gone_10 rfl rfl ?_
  refine zg_goneIs hX dX13_gone_11 ?_
  refine zs_aload_n hX dX13_gone_14 rfl rfl ?_
  refine zg_gones hX dX13_gone_15 ?_
  refine zs_iload_n hX dX13_gone_18 rfl rfl ?_
  obtain ⟨b4, h⟩ := zgd_e h
  obtain ⟨s5, e6, h⟩ := zlet_e h
  refine zt_goneIs hX dX13_gone_19 (zin_ok b4) ?_
  rw [← e6]
  refine zs_aload_n hX dX13_gone_20 rfl rfl ?_
  refine zg_goneBefore hX dX13_gone_21 ?_
  refine zs_aload_n hX dX13_gone_24 rfl rfl ?_
  refine zg_gones hX dX13_gone_25 ?_
  refine zs_iload_n hX dX13_gone_28 rfl rfl ?_
  obtain ⟨b7, h⟩ := zgd_e h
  obtain ⟨s8, e9, h⟩ := zlet_e h
  refine zt_goneBefore hX dX13_gone_29 (zin_ok b7) ?_
  rw [← e9]
  refine zs_aload_n hX dX13_gone_30 rfl rfl ?_
  refine zs_dup hX dX13_gone_31 rfl ?_
  refine zg_gones hX dX13_gone_32 ?_
  refine zs_iconst (v := 1) hX dX13_gone_35 (by decide) ?_
  refine zs_iadd hX dX13_gone_36 ?_
  obtain ⟨s10, e11, h⟩ := zlet_e h
  refine zp_gones hX dX13_gone_37 ?_
  rw [← e11]
  refine zs_aload_n hX dX13_gone_40 rfl rfl ?_
  refine zg_gones hX dX13_gone_41 ?_
  refine zs_iconst (v := 1) hX dX13_gone_44 (by decide) ?_
  refine zs_isub hX dX13_gone_45 ?_
  exact zs_iret hX dX13_gone_46 rfl (Option.some.inj h)
def l_namesAt_55 (n : Nat) (call : zCl) (h0 : Nat) (qs : List Nat) (ks : Nat → Nat) : Nat → Int32 → Int32 → zSt → zRs
  | 0, _, _, _ => none
  | f + 1, x2, x3, σ =>
    if x2 ≤ x3 then
      zlet (zI σ 126 x2) fun s2 =>
      some (none, s2)
    else
      zgd (zin ((x2 - 1) - x3) 60) (
      zgd (zin x3 60) (zlet (zA σ 85 (upd (σ.2.2.1 85) (x3).toNatClampNeg (σ.2.2.1 86 (((x2 - 1) - x3)).toNatClampNeg))) fun s6 =>
      l_namesAt_55 n call h0 qs ks f x2 (x3 + 1) s6))
def j_namesAt_43 (n : Nat) (call : zCl) (h0 : Nat) (qs : List Nat) (ks : Nat → Nat) (k4 : Int32 → Int32 → zSt → zRs) (x2 : Int32) (x3 : Int32) (σ : zSt) : zRs :=
  zgd (zin x3 12000) (
  k4 x2 (σ.2.2.1 70 (x3).toNatClampNeg) σ)
def l_namesAt_4 (n : Nat) (call : zCl) (h0 : Nat) (qs : List Nat) (ks : Nat → Nat) : Nat → Int32 → Int32 → zSt → zRs
  | 0, _, _, _ => none
  | f + 1, x2, x3, σ =>
    if x3 < 0 then
      l_namesAt_55 n call h0 qs ks n x2 0 σ
    else
      zgd (zin x3 12000) (
      zgd (zin (σ.2.2.1 69 (x3).toNatClampNeg) 40000) (
      zci (call 71 [.int (σ.2.2.1 42 ((σ.2.2.1 69 (x3).toNatClampNeg)).toNatClampNeg)] σ) fun r6 s4 =>
      if r6 = 0 then
        j_namesAt_43 n call h0 qs ks (l_namesAt_4 n call h0 qs ks f) x2 x3 s4
      else
        zgd (zin x3 12000) (
        zgd (zin x2 60) (zlet (zA s4 86 (upd (s4.2.2.1 86) (x2).toNatClampNeg (s4.2.2.1 68 (x3).toNatClampNeg))) fun s10 =>
        j_namesAt_43 n call h0 qs ks (l_namesAt_4 n call h0 qs ks f) (x2 + 1) x3 s10))))
def b_namesAt (n : Nat) (call : zCl) (h0 : Nat) (qs : List Nat) (ks : Nat → Nat) (x1 : Int32) (σ : zSt) : zRs :=
  l_namesAt_4 n call h0 qs ks n 0 x1 σ
set_option maxHeartbeats 4000000 in
theorem pl_namesAt_55 {h0 : Nat} {qs : List Nat} {ks : Nat → Nat} {n : Nat} {call : zCl} {kc : Nat → List Value → zSt → (Option Value → zSt → Prop) → Prop} {v : Option Value × zSt} {X : Nat → zLv → List Value → zSt → Prop} (hX : zSem cX13_namesAt 4 none h0 qs ks kc (fun r u => (r, u) = v) X) (hc : ∀ j av s w, call j av s = some w → kc j av s (fun r u => (r, u) = w)) : ∀ (f : Nat) (x2 : Int32) (x3 : Int32) (σ : zSt), l_namesAt_55 n call h0 qs ks f x2 x3 σ = some v → X 55 [some (.ref h0), none, some (.int x2), some (.int x3)] [] σ := by
  intro f
  induction f with
  | zero => intro x2 x3 σ h; cases h
  | succ f hk55 =>
    intro x2 x3 σ h
    rw [l_namesAt_55] at h
    refine zs_iload_n hX dX13_namesAt_55 rfl rfl ?_
    refine zs_iload_n hX dX13_namesAt_56 rfl rfl ?_
    refine zs_icmp_ge (tgt := 82) hX dX13_namesAt_57 (by decide) (fun c1 => ?_) (fun c1 => ?_)
    · rw [if_pos c1] at h
      refine zs_aload_n hX dX13_namesAt_82 rfl rfl ?_
      refine zs_iload_n hX dX13_namesAt_83 rfl rfl ?_
      obtain ⟨s2, e3, h⟩ := zlet_e h
      refine zp_byMany hX dX13_namesAt_84 ?_
      rw [← e3]
      exact zs_vret hX dX13_namesAt_87 rfl (Option.some.inj h)
    · rw [if_neg c1] at h
      refine zs_aload_n hX dX13_namesAt_60 rfl rfl ?_
      refine zg_byNames hX dX13_namesAt_61 ?_
      refine zs_iload_n hX dX13_namesAt_64 rfl rfl ?_
      refine zs_aload_n hX dX13_namesAt_65 rfl rfl ?_
      refine zg_byTurned hX dX13_namesAt_66 ?_
      refine zs_iload_n hX dX13_namesAt_69 rfl rfl ?_
      refine zs_iconst (v := 1) hX dX13_namesAt_70 (by decide) ?_
      refine zs_isub hX dX13_namesAt_71 ?_
      refine zs_iload_n hX dX13_namesAt_72 rfl rfl ?_
      refine zs_isub hX dX13_namesAt_73 ?_
      obtain ⟨b4, h⟩ := zgd_e h
      refine zl_byTurned hX dX13_namesAt_74 (zin_ok b4) ?_
      obtain ⟨b5, h⟩ := zgd_e h
      obtain ⟨s6, e7, h⟩ := zlet_e h
      refine zt_byNames hX dX13_namesAt_75 (zin_ok b5) ?_
      rw [← e7]
      refine zs_iinc (v := x3 + 1) hX dX13_namesAt_76 rfl rfl (by decide) rfl ?_
      dsimp only [List.set]
      refine zs_goto (tgt := 55) hX dX13_namesAt_79 (by decide) ?_
      exact hk55 _ _ _ h
set_option maxHeartbeats 4000000 in
theorem pj_namesAt_43 {h0 : Nat} {qs : List Nat} {ks : Nat → Nat} {n : Nat} {call : zCl} {kc : Nat → List Value → zSt → (Option Value → zSt → Prop) → Prop} {v : Option Value × zSt} {X : Nat → zLv → List Value → zSt → Prop} (hX : zSem cX13_namesAt 4 none h0 qs ks kc (fun r u => (r, u) = v) X) (hc : ∀ j av s w, call j av s = some w → kc j av s (fun r u => (r, u) = w)) {k4 : Int32 → Int32 → zSt → zRs} (hk4 : ∀ (x2 : Int32) (x3 : Int32) (s : zSt), k4 x2 x3 s = some v → X 4 [some (.ref h0), none, some (.int x2), some (.int x3)] [] s) {x2 : Int32} {x3 : Int32} {σ : zSt} (h : j_namesAt_43 n call h0 qs ks k4 x2 x3 σ = some v) : X 43 [some (.ref h0), none, some (.int x2), some (.int x3)] [] σ := by
  rw [j_namesAt_43] at h
  refine zs_aload_n hX dX13_namesAt_43 rfl rfl ?_
  refine zg_envBefore hX dX13_namesAt_44 ?_
  refine zs_iload_n hX dX13_namesAt_47 rfl rfl ?_
  obtain ⟨b1, h⟩ := zgd_e h
  refine zl_envBefore hX dX13_namesAt_48 (zin_ok b1) ?_
  refine zs_istore_n hX dX13_namesAt_49 rfl (by decide) rfl ?_
  dsimp only [List.set]
  refine zs_goto (tgt := 4) hX dX13_namesAt_50 (by decide) ?_
  exact hk4 _ _ _ h
set_option maxHeartbeats 4000000 in
theorem pl_namesAt_4 {h0 : Nat} {qs : List Nat} {ks : Nat → Nat} {n : Nat} {call : zCl} {kc : Nat → List Value → zSt → (Option Value → zSt → Prop) → Prop} {v : Option Value × zSt} {X : Nat → zLv → List Value → zSt → Prop} (hX : zSem cX13_namesAt 4 none h0 qs ks kc (fun r u => (r, u) = v) X) (hc : ∀ j av s w, call j av s = some w → kc j av s (fun r u => (r, u) = w)) : ∀ (f : Nat) (x2 : Int32) (x3 : Int32) (σ : zSt), l_namesAt_4 n call h0 qs ks f x2 x3 σ = some v → X 4 [some (.ref h0), none, some (.int x2), some (.int x3)] [] σ := by
  intro f
  induction f with
  | zero => intro x2 x3 σ h; cases h
  | succ f hk4 =>
    intro x2 x3 σ h
    rw [l_namesAt_4] at h
    refine zs_iload_n hX dX13_namesAt_4 rfl rfl ?_
    refine zs_if_lt (tgt := 53) hX dX13_namesAt_5 (by decide) (fun c1 => ?_) (fun c1 => ?_)
    · rw [if_pos c1] at h
      refine zs_iconst (v := 0) hX dX13_namesAt_53 (by decide) ?_
      refine zs_istore_n hX dX13_namesAt_54 rfl (by decide) rfl ?_
      dsimp only [List.set]
      exact pl_namesAt_55 hX hc n _ _ _ h
    · rw [if_neg c1] at h
      refine zs_aload_n hX dX13_namesAt_8 rfl rfl ?_
      refine zg_rKind hX dX13_namesAt_9 ?_
      refine zs_aload_n hX dX13_namesAt_12 rfl rfl ?_
      refine zg_envType hX dX13_namesAt_13 ?_
      refine zs_iload_n hX dX13_namesAt_16 rfl rfl ?_
      obtain ⟨b2, h⟩ := zgd_e h
      refine zl_envType hX dX13_namesAt_17 (zin_ok b2) ?_
      obtain ⟨b3, h⟩ := zgd_e h
      refine zl_rKind hX dX13_namesAt_18 (zin_ok b3) ?_
      obtain ⟨r6, s4, e5, h⟩ := zci_e h
      refine zc_isSaid hX dX13_namesAt_19 (Nat.le_of_ble_eq_true rfl) (hc _ _ _ _ e5) (fun r9 u9 h9 => ?_)
      cases h9
      refine zs_if_ne (tgt := 28) hX dX13_namesAt_22 (by decide) (fun c7 => ?_) (fun c7 => ?_)
      · rw [if_neg c7] at h
        refine zs_aload_n hX dX13_namesAt_28 rfl rfl ?_
        refine zg_byTurned hX dX13_namesAt_29 ?_
        refine zs_iload_n hX dX13_namesAt_32 rfl rfl ?_
        refine zs_aload_n hX dX13_namesAt_33 rfl rfl ?_
        refine zg_envName hX dX13_namesAt_34 ?_
        refine zs_iload_n hX dX13_namesAt_37 rfl rfl ?_
        obtain ⟨b8, h⟩ := zgd_e h
        refine zl_envName hX dX13_namesAt_38 (zin_ok b8) ?_
        obtain ⟨b9, h⟩ := zgd_e h
        obtain ⟨s10, e11, h⟩ := zlet_e h
        refine zt_byTurned hX dX13_namesAt_39 (zin_ok b9) ?_
        rw [← e11]
        refine zs_iinc (v := x2 + 1) hX dX13_namesAt_40 rfl rfl (by decide) rfl ?_
        dsimp only [List.set]
        exact pj_namesAt_43 hX hc hk4 h
      · rw [if_pos c7] at h
        refine zs_goto (tgt := 43) hX dX13_namesAt_25 (by decide) ?_
        exact pj_namesAt_43 hX hc hk4 h
set_option maxHeartbeats 4000000 in
theorem pb_namesAt {h0 : Nat} {qs : List Nat} {ks : Nat → Nat} {n : Nat} {call : zCl} {kc : Nat → List Value → zSt → (Option Value → zSt → Prop) → Prop} {v : Option Value × zSt} {X : Nat → zLv → List Value → zSt → Prop} (hX : zSem cX13_namesAt 4 none h0 qs ks kc (fun r u => (r, u) = v) X) (hc : ∀ j av s w, call j av s = some w → kc j av s (fun r u => (r, u) = w)) {x1 : Int32} {σ : zSt} (h : b_namesAt n call h0 qs ks x1 σ = some v) : X 0 [some (.ref h0), some (.int x1), none, none] [] σ := by
  rw [b_namesAt] at h
  refine zs_iconst (v := 0) hX dX13_namesAt_0 (by decide) ?_
  refine zs_istore_n hX dX13_namesAt_1 rfl (by decide) rfl ?_
  dsimp only [List.set]
  refine zs_iload_n hX dX13_namesAt_2 rfl rfl ?_
  refine zs_istore_n hX dX13_namesAt_3 rfl (by decide) rfl ?_
  dsimp only [List.set]
  refine zs_weak hX (lw := [some (.ref h0), none, some (.int 0), some (.int x1)]) ⟨rfl, rfl, rfl, trivial⟩ ?_
  exact pl_namesAt_4 hX hc n _ _ _ h
def j_template_417 (n : Nat) (call : zCl) (h0 : Nat) (qs : List Nat) (ks : Nat → Nat) (k293 : Int32 → Int32 → Int32 → zSt → zRs) (x5 : Int32) (x6 : Int32) (x7 : Int32) (σ : zSt) : zRs :=
  k293 x5 x6 (x7 + 1) σ
def j_template_390 (n : Nat) (call : zCl) (h0 : Nat) (qs : List Nat) (ks : Nat → Nat) (k293 : Int32 → Int32 → Int32 → zSt → zRs) (k325 : Int32 → Int32 → Int32 → Int32 → zSt → zRs) (x5 : Int32) (x6 : Int32) (x7 : Int32) (x8 : Int32) (t1 : Int32) (t2 : Int32) (σ : zSt) : zRs :=
  zgd (zin t1 8000) (zlet (zA σ 64 (upd (σ.2.2.1 64) (t1).toNatClampNeg t2)) fun s2 =>
  zgd (zin (s2.1 99) 8000) (zlet (zA s2 65 (upd (s2.2.2.1 65) ((s2.1 99)).toNatClampNeg (vp_nar .boolean 1))) fun s5 =>
  zlet (zI s5 99 ((s5.1 99) + 1)) fun s7 =>
  k325 x5 x6 x7 (x8 + 1) s7))
def j_template_346 (n : Nat) (call : zCl) (h0 : Nat) (qs : List Nat) (ks : Nat → Nat) (k293 : Int32 → Int32 → Int32 → zSt → zRs) (k325 : Int32 → Int32 → Int32 → Int32 → zSt → zRs) (x5 : Int32) (x6 : Int32) (x7 : Int32) (x8 : Int32) (t0 : Int32) (t1 : Int32) (σ : zSt) : zRs :=
  if t1 ≤ t0 then
    j_template_417 n call h0 qs ks k293 x5 x6 x7 σ
  else
    zgd (zin (σ.1 99) 8000) (zlet (zA σ 63 (upd (σ.2.2.1 63) ((σ.1 99)).toNatClampNeg x7)) fun s3 =>
    zgd (zin x7 6) (
    if (s3.2.2.1 25 (x7).toNatClampNeg) = 1 then
      zgd (zin x8 60) (
      j_template_390 n call h0 qs ks k293 k325 x5 x6 x7 x8 (s3.1 99) (s3.2.2.1 85 (x8).toNatClampNeg) s3)
    else
      j_template_390 n call h0 qs ks k293 k325 x5 x6 x7 x8 (s3.1 99) (-1) s3))
def l_template_325 (n : Nat) (call : zCl) (h0 : Nat) (qs : List Nat) (ks : Nat → Nat) (k293 : Int32 → Int32 → Int32 → zSt → zRs) : Nat → Int32 → Int32 → Int32 → Int32 → zSt → zRs
  | 0, _, _, _, _, _ => none
  | f + 1, x5, x6, x7, x8, σ =>
    zgd (zin x7 6) (
    if (σ.2.2.1 25 (x7).toNatClampNeg) = 1 then
      j_template_346 n call h0 qs ks k293 (l_template_325 n call h0 qs ks k293 f) x5 x6 x7 x8 x8 (σ.1 126) σ
    else
      j_template_346 n call h0 qs ks k293 (l_template_325 n call h0 qs ks k293 f) x5 x6 x7 x8 x8 1 σ)
def l_template_293 (n : Nat) (call : zCl) (h0 : Nat) (qs : List Nat) (ks : Nat → Nat) : Nat → Int32 → Int32 → Int32 → zSt → zRs
  | 0, _, _, _, _ => none
  | f + 1, x5, x6, x7, σ =>
    if (σ.1 39) ≤ x7 then
      zgd (zin x6 64) (zlet (zA σ 62 (upd (σ.2.2.1 62) (x6).toNatClampNeg (σ.1 99))) fun s3 =>
      zci (call 68 [.ref h0, .int x6, .int (-1), .int (-1)] s3) fun r7 s5 =>
      zci (call 67 [.ref h0, .int x5, .int r7, .int (-1), .int (-1), .int (-1)] s5) fun r10 s8 =>
      some (some (.int r10), s8))
    else
      zgd (zin x7 6) (
      zgd (zin x6 64) (
      if (σ.2.2.1 22 (x7).toNatClampNeg) = (σ.2.2.1 60 (x6).toNatClampNeg) then
        l_template_325 n call h0 qs ks (l_template_293 n call h0 qs ks f) n x5 x6 x7 0 σ
      else
        j_template_417 n call h0 qs ks (l_template_293 n call h0 qs ks f) x5 x6 x7 σ))
def j_template_278 (n : Nat) (call : zCl) (h0 : Nat) (qs : List Nat) (ks : Nat → Nat) (x5 : Int32) (x6 : Int32) (t1 : Int32) (t2 : Int32) (σ : zSt) : zRs :=
  zgd (zin t1 64) (zlet (zA σ 60 (upd (σ.2.2.1 60) (t1).toNatClampNeg t2)) fun s2 =>
  zgd (zin x6 64) (zlet (zA s2 61 (upd (s2.2.2.1 61) (x6).toNatClampNeg (s2.1 99))) fun s5 =>
  l_template_293 n call h0 qs ks n x5 x6 0 s5))
def j_template_222 (n : Nat) (call : zCl) (h0 : Nat) (qs : List Nat) (ks : Nat → Nat) (x6 : Int32) (x7 : Int32) (x9 : Int32) (σ : zSt) : zRs :=
  zci (call 67 [.ref h0, .int 4, .int (-1), .int x6, .int x7, .int x9] σ) fun r3 s1 =>
  some (some (.int r3), s1)
def j_template_202 (n : Nat) (call : zCl) (h0 : Nat) (qs : List Nat) (ks : Nat → Nat) (x6 : Int32) (x7 : Int32) (x8 : Int32) (t1 : Int32) (t2 : Int32) (t3 : Int32) (σ : zSt) : zRs :=
  zci (call 76 [.ref h0, .int t1, .int t2, .int t3] σ) fun r3 s1 =>
  if x8 = 0 then
    j_template_222 n call h0 qs ks x6 x7 r3 s1
  else
    zlet (zI s1 126 ((s1.1 126) - 1)) fun s5 =>
    j_template_222 n call h0 qs ks x6 x7 r3 s5
def j_template_180 (n : Nat) (call : zCl) (h0 : Nat) (qs : List Nat) (ks : Nat → Nat) (x2 : Int32) (x3 : Int32) (x4 : Int32) (x6 : Int32) (x7 : Int32) (x8 : Int32) (σ : zSt) : zRs :=
  zgd (zin x4 9000) (
  if x3 ≤ 0 then
    j_template_202 n call h0 qs ks x6 x7 x8 (σ.2.2.1 36 (x4).toNatClampNeg) (x2 + 1) 0 σ
  else
    j_template_202 n call h0 qs ks x6 x7 x8 (σ.2.2.1 36 (x4).toNatClampNeg) (x2 + 1) (x3 - 1) σ)
def j_template_153 (n : Nat) (call : zCl) (h0 : Nat) (qs : List Nat) (ks : Nat → Nat) (x2 : Int32) (x3 : Int32) (x4 : Int32) (x6 : Int32) (x7 : Int32) (x8 : Int32) (t1 : Int32) (t2 : Int32) (σ : zSt) : zRs :=
  zgd (zin t1 1501) (zlet (zA σ 67 (upd (σ.2.2.1 67) (t1).toNatClampNeg (vp_nar .boolean t2))) fun s2 =>
  if x8 = 0 then
    j_template_180 n call h0 qs ks x2 x3 x4 x6 x7 x8 s2
  else
    zgd (zin (s2.1 126) 60) (zlet (zA s2 85 (upd (s2.2.2.1 85) ((s2.1 126)).toNatClampNeg x6)) fun s6 =>
    zlet (zI s6 126 ((s6.1 126) + 1)) fun s8 =>
    j_template_180 n call h0 qs ks x2 x3 x4 x6 x7 x8 s8))
def j_template_130 (n : Nat) (call : zCl) (h0 : Nat) (qs : List Nat) (ks : Nat → Nat) (x2 : Int32) (x3 : Int32) (x4 : Int32) (x6 : Int32) (x7 : Int32) (x8 : Int32) (t1 : Int32) (t2 : Int32) (σ : zSt) : zRs :=
  zgd (zin t1 1501) (zlet (zA σ 66 (upd (σ.2.2.1 66) (t1).toNatClampNeg (vp_nar .boolean t2))) fun s2 =>
  zgd (zin x7 40000) (
  if (s2.2.2.1 42 (x7).toNatClampNeg) = 5 then
    j_template_153 n call h0 qs ks x2 x3 x4 x6 x7 x8 x6 1 s2
  else
    j_template_153 n call h0 qs ks x2 x3 x4 x6 x7 x8 x6 0 s2))
def j_template_125 (n : Nat) (call : zCl) (h0 : Nat) (qs : List Nat) (ks : Nat → Nat) (x2 : Int32) (x3 : Int32) (x4 : Int32) (x6 : Int32) (x7 : Int32) (x8 : Int32) (t1 : Int32) (σ : zSt) : zRs :=
  j_template_130 n call h0 qs ks x2 x3 x4 x6 x7 x8 t1 1 σ
def j_template_70 (n : Nat) (call : zCl) (h0 : Nat) (qs : List Nat) (ks : Nat → Nat) (x2 : Int32) (x3 : Int32) (x4 : Int32) (x6 : Int32) (σ : zSt) : zRs :=
  zgd (zin x4 9000) (
  zci (call 76 [.ref h0, .int (σ.2.2.1 35 (x4).toNatClampNeg), .int (-1), .int 0] σ) fun r4 s2 =>
  zgd (zin r4 40000) (
  zci (call 71 [.int (s2.2.2.1 42 (r4).toNatClampNeg)] s2) fun r8 s6 =>
  zgd (zin r4 40000) (
  if (s6.2.2.1 42 (r4).toNatClampNeg) = 3 then
    j_template_125 n call h0 qs ks x2 x3 x4 x6 r4 r8 x6 s6
  else
    zgd (zin r4 40000) (
    if (s6.2.2.1 42 (r4).toNatClampNeg) = 5 then
      j_template_125 n call h0 qs ks x2 x3 x4 x6 r4 r8 x6 s6
    else
      j_template_130 n call h0 qs ks x2 x3 x4 x6 r4 r8 x6 0 s6))))
def j_template_54 (n : Nat) (call : zCl) (h0 : Nat) (qs : List Nat) (ks : Nat → Nat) (x2 : Int32) (x3 : Int32) (x4 : Int32) (t0 : Int32) (σ : zSt) : zRs :=
  if x3 = 0 then
    zlet (zI σ 100 ((σ.1 100) + 1)) fun s2 =>
    j_template_70 n call h0 qs ks x2 x3 x4 t0 s2
  else
    j_template_70 n call h0 qs ks x2 x3 x4 t0 σ
def b_template (n : Nat) (call : zCl) (h0 : Nat) (qs : List Nat) (ks : Nat → Nat) (x1 : Int32) (x2 : Int32) (x3 : Int32) (σ : zSt) : zRs :=
  zci (call 42 [.ref h0, .int x1] σ) fun r3 s1 =>
  zci (call 52 [.ref h0, .int r3] s1) fun r6 s4 =>
  if r6 = 2 then
    zci (call 72 [.ref h0, .int 2] s4) fun r17 s15 =>
    some (some (.int r17), s15)
  else
    if r6 = 4 then
      if x3 ≤ 0 then
        j_template_54 n call h0 qs ks x2 x3 r3 (700 + (s4.1 100)) s4
      else
        zgd (zin x2 2010) (
        j_template_54 n call h0 qs ks x2 x3 r3 (s4.2.2.1 32 (x2).toNatClampNeg) s4)
    else
      zlet (zI s4 98 ((s4.1 98) + 1)) fun s9 =>
      if r6 = 3 then
        j_template_278 n call h0 qs ks r6 (s4.1 98) (s4.1 98) 1 s9
      else
        if r6 = 5 then
          j_template_278 n call h0 qs ks r6 (s4.1 98) (s4.1 98) 2 s9
        else
          j_template_278 n call h0 qs ks r6 (s4.1 98) (s4.1 98) 0 s9
set_option maxHeartbeats 4000000 in
theorem pj_template_417 {h0 : Nat} {qs : List Nat} {ks : Nat → Nat} {n : Nat} {call : zCl} {kc : Nat → List Value → zSt → (Option Value → zSt → Prop) → Prop} {v : Option Value × zSt} {X : Nat → zLv → List Value → zSt → Prop} (hX : zSem cX13_template 10 (some .int) h0 qs ks kc (fun r u => (r, u) = v) X) (hc : ∀ j av s w, call j av s = some w → kc j av s (fun r u => (r, u) = w)) {k293 : Int32 → Int32 → Int32 → zSt → zRs} (hk293 : ∀ (x5 : Int32) (x6 : Int32) (x7 : Int32) (s : zSt), k293 x5 x6 x7 s = some v → X 293 [some (.ref h0), none, none, none, none, some (.int x5), some (.int x6), some (.int x7), none, none] [] s) {x5 : Int32} {x6 : Int32} {x7 : Int32} {σ : zSt} (h : j_template_417 n call h0 qs ks k293 x5 x6 x7 σ = some v) : X 417 [some (.ref h0), none, none, none, none, some (.int x5), some (.int x6), some (.int x7), none, none] [] σ := by
  rw [j_template_417] at h
  refine zs_iinc (v := x7 + 1) hX dX13_template_417 rfl rfl (by decide) rfl ?_
  dsimp only [List.set]
  refine zs_goto (tgt := 293) hX dX13_template_420 (by decide) ?_
  exact hk293 _ _ _ _ h
set_option maxHeartbeats 4000000 in
theorem pj_template_390 {h0 : Nat} {qs : List Nat} {ks : Nat → Nat} {n : Nat} {call : zCl} {kc : Nat → List Value → zSt → (Option Value → zSt → Prop) → Prop} {v : Option Value × zSt} {X : Nat → zLv → List Value → zSt → Prop} (hX : zSem cX13_template 10 (some .int) h0 qs ks kc (fun r u => (r, u) = v) X) (hc : ∀ j av s w, call j av s = some w → kc j av s (fun r u => (r, u) = w)) {k293 : Int32 → Int32 → Int32 → zSt → zRs} (hk293 : ∀ (x5 : Int32) (x6 : Int32) (x7 : Int32) (s : zSt), k293 x5 x6 x7 s = some v → X 293 [some (.ref h0), none, none, none, none, some (.int x5), some (.int x6), some (.int x7), none, none] [] s) {k325 : Int32 → Int32 → Int32 → Int32 → zSt → zRs} (hk325 : ∀ (x5 : Int32) (x6 : Int32) (x7 : Int32) (x8 : Int32) (s : zSt), k325 x5 x6 x7 x8 s = some v → X 325 [some (.ref h0), none, none, none, none, some (.int x5), some (.int x6), some (.int x7), some (.int x8), none] [] s) {x5 : Int32} {x6 : Int32} {x7 : Int32} {x8 : Int32} {t1 : Int32} {t2 : Int32} {σ : zSt} (h : j_template_390 n call h0 qs ks k293 k325 x5 x6 x7 x8 t1 t2 σ = some v) : X 390 [some (.ref h0), none, none, none, none, some (.int x5), some (.int x6), some (.int x7), some (.int x8), none] [.int t2, .int t1, .ref (qs.getD 64 0)] σ := by
  rw [j_template_390] at h
  obtain ⟨b1, h⟩ := zgd_e h
  obtain ⟨s2, e3, h⟩ := zlet_e h
  refine zt_byName hX dX13_template_390 (zin_ok b1) ?_
  rw [← e3]
  refine zs_aload_n hX dX13_template_391 rfl rfl ?_
  refine zg_alive hX dX13_template_392 ?_
  refine zs_aload_n hX dX13_template_395 rfl rfl ?_
  refine zg_instances hX dX13_template_396 ?_
  refine zs_iconst (v := 1) hX dX13_template_399 (by decide) ?_
  obtain ⟨b4, h⟩ := zgd_e h
  obtain ⟨s5, e6, h⟩ := zlet_e h
  refine zt_alive hX dX13_template_400 (zin_ok b4) ?_
  rw [← e6]
  refine zs_aload_n hX dX13_template_401 rfl rfl ?_
  refine zs_dup hX dX13_template_402 rfl ?_
  refine zg_instances hX dX13_template_403 ?_
  refine zs_iconst (v := 1) hX dX13_template_406 (by decide) ?_
  refine zs_iadd hX dX13_template_407 ?_
  obtain ⟨s7, e8, h⟩ := zlet_e h
  refine zp_instances hX dX13_template_408 ?_
  rw [← e8]
  refine zs_iinc (v := x8 + 1) hX dX13_template_411 rfl rfl (by decide) rfl ?_
  dsimp only [List.set]
  refine zs_goto (tgt := 325) hX dX13_template_414 (by decide) ?_
  exact hk325 _ _ _ _ _ h
set_option maxHeartbeats 4000000 in
theorem pj_template_346 {h0 : Nat} {qs : List Nat} {ks : Nat → Nat} {n : Nat} {call : zCl} {kc : Nat → List Value → zSt → (Option Value → zSt → Prop) → Prop} {v : Option Value × zSt} {X : Nat → zLv → List Value → zSt → Prop} (hX : zSem cX13_template 10 (some .int) h0 qs ks kc (fun r u => (r, u) = v) X) (hc : ∀ j av s w, call j av s = some w → kc j av s (fun r u => (r, u) = w)) {k293 : Int32 → Int32 → Int32 → zSt → zRs} (hk293 : ∀ (x5 : Int32) (x6 : Int32) (x7 : Int32) (s : zSt), k293 x5 x6 x7 s = some v → X 293 [some (.ref h0), none, none, none, none, some (.int x5), some (.int x6), some (.int x7), none, none] [] s) {k325 : Int32 → Int32 → Int32 → Int32 → zSt → zRs} (hk325 : ∀ (x5 : Int32) (x6 : Int32) (x7 : Int32) (x8 : Int32) (s : zSt), k325 x5 x6 x7 x8 s = some v → X 325 [some (.ref h0), none, none, none, none, some (.int x5), some (.int x6), some (.int x7), some (.int x8), none] [] s) {x5 : Int32} {x6 : Int32} {x7 : Int32} {x8 : Int32} {t0 : Int32} {t1 : Int32} {σ : zSt} (h : j_template_346 n call h0 qs ks k293 k325 x5 x6 x7 x8 t0 t1 σ = some v) : X 346 [some (.ref h0), none, none, none, none, some (.int x5), some (.int x6), some (.int x7), some (.int x8), none] [.int t1, .int t0] σ := by
  rw [j_template_346] at h
  refine zs_icmp_ge (tgt := 417) hX dX13_template_346 (by decide) (fun c1 => ?_) (fun c1 => ?_)
  · rw [if_pos c1] at h
    refine zs_weak hX (lw := [some (.ref h0), none, none, none, none, some (.int x5), some (.int x6), some (.int x7), none, none]) ⟨rfl, rfl, rfl, rfl, trivial⟩ ?_
    exact pj_template_417 hX hc hk293 h
  · rw [if_neg c1] at h
    refine zs_aload_n hX dX13_template_349 rfl rfl ?_
    refine zg_byQual hX dX13_template_350 ?_
    refine zs_aload_n hX dX13_template_353 rfl rfl ?_
    refine zg_instances hX dX13_template_354 ?_
    refine zs_iload hX dX13_template_357 rfl ?_
    obtain ⟨b2, h⟩ := zgd_e h
    obtain ⟨s3, e4, h⟩ := zlet_e h
    refine zt_byQual hX dX13_template_359 (zin_ok b2) ?_
    rw [← e4]
    refine zs_aload_n hX dX13_template_360 rfl rfl ?_
    refine zg_byName hX dX13_template_361 ?_
    refine zs_aload_n hX dX13_template_364 rfl rfl ?_
    refine zg_instances hX dX13_template_365 ?_
    refine zs_aload_n hX dX13_template_368 rfl rfl ?_
    refine zg_qStar hX dX13_template_369 ?_
    refine zs_iload hX dX13_template_372 rfl ?_
    obtain ⟨b5, h⟩ := zgd_e h
    refine zl_qStar hX dX13_template_374 (zin_ok b5) ?_
    refine zs_iconst (v := 1) hX dX13_template_375 (by decide) ?_
    refine zs_icmp_ne (tgt := 389) hX dX13_template_376 (by decide) (fun c6 => ?_) (fun c6 => ?_)
    · rw [if_neg c6] at h
      refine zs_iconst (v := (-1)) hX dX13_template_389 (by decide) ?_
      exact pj_template_390 hX hc hk293 hk325 h
    · rw [if_pos c6] at h
      refine zs_aload_n hX dX13_template_379 rfl rfl ?_
      refine zg_byNames hX dX13_template_380 ?_
      refine zs_iload hX dX13_template_383 rfl ?_
      obtain ⟨b7, h⟩ := zgd_e h
      refine zl_byNames hX dX13_template_385 (zin_ok b7) ?_
      refine zs_goto (tgt := 390) hX dX13_template_386 (by decide) ?_
      exact pj_template_390 hX hc hk293 hk325 h
set_option maxHeartbeats 4000000 in
theorem pl_template_325 {h0 : Nat} {qs : List Nat} {ks : Nat → Nat} {n : Nat} {call : zCl} {kc : Nat → List Value → zSt → (Option Value → zSt → Prop) → Prop} {v : Option Value × zSt} {X : Nat → zLv → List Value → zSt → Prop} (hX : zSem cX13_template 10 (some .int) h0 qs ks kc (fun r u => (r, u) = v) X) (hc : ∀ j av s w, call j av s = some w → kc j av s (fun r u => (r, u) = w)) {k293 : Int32 → Int32 → Int32 → zSt → zRs} (hk293 : ∀ (x5 : Int32) (x6 : Int32) (x7 : Int32) (s : zSt), k293 x5 x6 x7 s = some v → X 293 [some (.ref h0), none, none, none, none, some (.int x5), some (.int x6), some (.int x7), none, none] [] s) : ∀ (f : Nat) (x5 : Int32) (x6 : Int32) (x7 : Int32) (x8 : Int32) (σ : zSt), l_template_325 n call h0 qs ks k293 f x5 x6 x7 x8 σ = some v → X 325 [some (.ref h0), none, none, none, none, some (.int x5), some (.int x6), some (.int x7), some (.int x8), none] [] σ := by
  intro f
  induction f with
  | zero => intro x5 x6 x7 x8 σ h; cases h
  | succ f hk325 =>
    intro x5 x6 x7 x8 σ h
    rw [l_template_325] at h
    refine zs_iload hX dX13_template_325 rfl ?_
    refine zs_aload_n hX dX13_template_327 rfl rfl ?_
    refine zg_qStar hX dX13_template_328 ?_
    refine zs_iload hX dX13_template_331 rfl ?_
    obtain ⟨b1, h⟩ := zgd_e h
    refine zl_qStar hX dX13_template_333 (zin_ok b1) ?_
    refine zs_iconst (v := 1) hX dX13_template_334 (by decide) ?_
    refine zs_icmp_ne (tgt := 345) hX dX13_template_335 (by decide) (fun c2 => ?_) (fun c2 => ?_)
    · rw [if_neg c2] at h
      refine zs_iconst (v := 1) hX dX13_template_345 (by decide) ?_
      exact pj_template_346 hX hc hk293 hk325 h
    · rw [if_pos c2] at h
      refine zs_aload_n hX dX13_template_338 rfl rfl ?_
      refine zg_byMany hX dX13_template_339 ?_
      refine zs_goto (tgt := 346) hX dX13_template_342 (by decide) ?_
      exact pj_template_346 hX hc hk293 hk325 h
set_option maxHeartbeats 4000000 in
theorem pl_template_293 {h0 : Nat} {qs : List Nat} {ks : Nat → Nat} {n : Nat} {call : zCl} {kc : Nat → List Value → zSt → (Option Value → zSt → Prop) → Prop} {v : Option Value × zSt} {X : Nat → zLv → List Value → zSt → Prop} (hX : zSem cX13_template 10 (some .int) h0 qs ks kc (fun r u => (r, u) = v) X) (hc : ∀ j av s w, call j av s = some w → kc j av s (fun r u => (r, u) = w)) : ∀ (f : Nat) (x5 : Int32) (x6 : Int32) (x7 : Int32) (σ : zSt), l_template_293 n call h0 qs ks f x5 x6 x7 σ = some v → X 293 [some (.ref h0), none, none, none, none, some (.int x5), some (.int x6), some (.int x7), none, none] [] σ := by
  intro f
  induction f with
  | zero => intro x5 x6 x7 σ h; cases h
  | succ f hk293 =>
    intro x5 x6 x7 σ h
    rw [l_template_293] at h
    refine zs_iload hX dX13_template_293 rfl ?_
    refine zs_aload_n hX dX13_template_295 rfl rfl ?_
    refine zg_quals hX dX13_template_296 ?_
    refine zs_icmp_ge (tgt := 423) hX dX13_template_299 (by decide) (fun c1 => ?_) (fun c1 => ?_)
    · rw [if_pos c1] at h
      refine zs_aload_n hX dX13_template_423 rfl rfl ?_
      refine zg_caseTo hX dX13_template_424 ?_
      refine zs_iload hX dX13_template_427 rfl ?_
      refine zs_aload_n hX dX13_template_429 rfl rfl ?_
      refine zg_instances hX dX13_template_430 ?_
      obtain ⟨b2, h⟩ := zgd_e h
      obtain ⟨s3, e4, h⟩ := zlet_e h
      refine zt_caseTo hX dX13_template_433 (zin_ok b2) ?_
      rw [← e4]
      refine zs_aload_n hX dX13_template_434 rfl rfl ?_
      refine zs_iload hX dX13_template_435 rfl ?_
      refine zs_aload_n hX dX13_template_437 rfl rfl ?_
      refine zs_iload hX dX13_template_438 rfl ?_
      refine zs_iconst (v := (-1)) hX dX13_template_440 (by decide) ?_
      refine zs_iconst (v := (-1)) hX dX13_template_441 (by decide) ?_
      obtain ⟨r7, s5, e6, h⟩ := zci_e h
      refine zc_said hX dX13_template_442 (Nat.le_of_ble_eq_true rfl) (hc _ _ _ _ e6) (fun r9 u9 h9 => ?_)
      cases h9
      refine zs_iconst (v := (-1)) hX dX13_template_445 (by decide) ?_
      refine zs_iconst (v := (-1)) hX dX13_template_446 (by decide) ?_
      refine zs_iconst (v := (-1)) hX dX13_template_447 (by decide) ?_
      obtain ⟨r10, s8, e9, h⟩ := zci_e h
      refine zc_rich hX dX13_template_448 (Nat.le_of_ble_eq_true rfl) (hc _ _ _ _ e9) (fun r9 u9 h9 => ?_)
      cases h9
      exact zs_iret hX dX13_template_451 rfl (Option.some.inj h)
    · rw [if_neg c1] at h
      refine zs_aload_n hX dX13_template_302 rfl rfl ?_
      refine zg_qSort hX dX13_template_303 ?_
      refine zs_iload hX dX13_template_306 rfl ?_
      obtain ⟨b11, h⟩ := zgd_e h
      refine zl_qSort hX dX13_template_308 (zin_ok b11) ?_
      refine zs_aload_n hX dX13_template_309 rfl rfl ?_
      refine zg_caseArray hX dX13_template_310 ?_
      refine zs_iload hX dX13_template_313 rfl ?_
      obtain ⟨b12, h⟩ := zgd_e h
      refine zl_caseArray hX dX13_template_315 (zin_ok b12) ?_
      refine zs_icmp_eq (tgt := 322) hX dX13_template_316 (by decide) (fun c13 => ?_) (fun c13 => ?_)
      · rw [if_pos c13] at h
        refine zs_iconst (v := 0) hX dX13_template_322 (by decide) ?_
        refine zs_istore hX dX13_template_323 (by decide) rfl ?_
        dsimp only [List.set]
        exact pl_template_325 hX hc hk293 n _ _ _ _ _ h
      · rw [if_neg c13] at h
        refine zs_goto (tgt := 417) hX dX13_template_319 (by decide) ?_
        exact pj_template_417 hX hc hk293 h
set_option maxHeartbeats 4000000 in
theorem pj_template_278 {h0 : Nat} {qs : List Nat} {ks : Nat → Nat} {n : Nat} {call : zCl} {kc : Nat → List Value → zSt → (Option Value → zSt → Prop) → Prop} {v : Option Value × zSt} {X : Nat → zLv → List Value → zSt → Prop} (hX : zSem cX13_template 10 (some .int) h0 qs ks kc (fun r u => (r, u) = v) X) (hc : ∀ j av s w, call j av s = some w → kc j av s (fun r u => (r, u) = w)) {x5 : Int32} {x6 : Int32} {t1 : Int32} {t2 : Int32} {σ : zSt} (h : j_template_278 n call h0 qs ks x5 x6 t1 t2 σ = some v) : X 278 [some (.ref h0), none, none, none, none, some (.int x5), some (.int x6), none, none, none] [.int t2, .int t1, .ref (qs.getD 60 0)] σ := by
  rw [j_template_278] at h
  obtain ⟨b1, h⟩ := zgd_e h
  obtain ⟨s2, e3, h⟩ := zlet_e h
  refine zt_caseArray hX dX13_template_278 (zin_ok b1) ?_
  rw [← e3]
  refine zs_aload_n hX dX13_template_279 rfl rfl ?_
  refine zg_caseFrom hX dX13_template_280 ?_
  refine zs_iload hX dX13_template_283 rfl ?_
  refine zs_aload_n hX dX13_template_285 rfl rfl ?_
  refine zg_instances hX dX13_template_286 ?_
  obtain ⟨b4, h⟩ := zgd_e h
  obtain ⟨s5, e6, h⟩ := zlet_e h
  refine zt_caseFrom hX dX13_template_289 (zin_ok b4) ?_
  rw [← e6]
  refine zs_iconst (v := 0) hX dX13_template_290 (by decide) ?_
  refine zs_istore hX dX13_template_291 (by decide) rfl ?_
  dsimp only [List.set]
  exact pl_template_293 hX hc n _ _ _ _ h
set_option maxHeartbeats 4000000 in
theorem pj_template_222 {h0 : Nat} {qs : List Nat} {ks : Nat → Nat} {n : Nat} {call : zCl} {kc : Nat → List Value → zSt → (Option Value → zSt → Prop) → Prop} {v : Option Value × zSt} {X : Nat → zLv → List Value → zSt → Prop} (hX : zSem cX13_template 10 (some .int) h0 qs ks kc (fun r u => (r, u) = v) X) (hc : ∀ j av s w, call j av s = some w → kc j av s (fun r u => (r, u) = w)) {x6 : Int32} {x7 : Int32} {x9 : Int32} {σ : zSt} (h : j_template_222 n call h0 qs ks x6 x7 x9 σ = some v) : X 222 [some (.ref h0), none, none, none, none, none, some (.int x6), some (.int x7), none, some (.int x9)] [] σ := by
  rw [j_template_222] at h
  refine zs_aload_n hX dX13_template_222 rfl rfl ?_
  refine zs_iconst (v := 4) hX dX13_template_223 (by decide) ?_
  refine zs_iconst (v := (-1)) hX dX13_template_224 (by decide) ?_
  refine zs_iload hX dX13_template_225 rfl ?_
  refine zs_iload hX dX13_template_227 rfl ?_
  refine zs_iload hX dX13_template_229 rfl ?_
  obtain ⟨r3, s1, e2, h⟩ := zci_e h
  refine zc_rich hX dX13_template_231 (Nat.le_of_ble_eq_true rfl) (hc _ _ _ _ e2) (fun r9 u9 h9 => ?_)
  cases h9
  exact zs_iret hX dX13_template_234 rfl (Option.some.inj h)
set_option maxHeartbeats 4000000 in
theorem pj_template_202 {h0 : Nat} {qs : List Nat} {ks : Nat → Nat} {n : Nat} {call : zCl} {kc : Nat → List Value → zSt → (Option Value → zSt → Prop) → Prop} {v : Option Value × zSt} {X : Nat → zLv → List Value → zSt → Prop} (hX : zSem cX13_template 10 (some .int) h0 qs ks kc (fun r u => (r, u) = v) X) (hc : ∀ j av s w, call j av s = some w → kc j av s (fun r u => (r, u) = w)) {x6 : Int32} {x7 : Int32} {x8 : Int32} {t1 : Int32} {t2 : Int32} {t3 : Int32} {σ : zSt} (h : j_template_202 n call h0 qs ks x6 x7 x8 t1 t2 t3 σ = some v) : X 202 [some (.ref h0), none, none, none, none, none, some (.int x6), some (.int x7), some (.int x8), none] [.int t3, .int t2, .int t1, .ref h0] σ := by
  rw [j_template_202] at h
  obtain ⟨r3, s1, e2, h⟩ := zci_e h
  refine zc_template hX dX13_template_202 (Nat.le_of_ble_eq_true rfl) (hc _ _ _ _ e2) (fun r9 u9 h9 => ?_)
  cases h9
  refine zs_istore hX dX13_template_205 (by decide) rfl ?_
  dsimp only [List.set]
  refine zs_iload hX dX13_template_207 rfl ?_
  refine zs_if_eq (tgt := 222) hX dX13_template_209 (by decide) (fun c4 => ?_) (fun c4 => ?_)
  · rw [if_pos c4] at h
    refine zs_weak hX (lw := [some (.ref h0), none, none, none, none, none, some (.int x6), some (.int x7), none, some (.int r3)]) ⟨rfl, rfl, rfl, rfl, trivial⟩ ?_
    exact pj_template_222 hX hc h
  · rw [if_neg c4] at h
    refine zs_aload_n hX dX13_template_212 rfl rfl ?_
    refine zs_dup hX dX13_template_213 rfl ?_
    refine zg_byMany hX dX13_template_214 ?_
    refine zs_iconst (v := 1) hX dX13_template_217 (by decide) ?_
    refine zs_isub hX dX13_template_218 ?_
    obtain ⟨s5, e6, h⟩ := zlet_e h
    refine zp_byMany hX dX13_template_219 ?_
    rw [← e6]
    refine zs_weak hX (lw := [some (.ref h0), none, none, none, none, none, some (.int x6), some (.int x7), none, some (.int r3)]) ⟨rfl, rfl, rfl, rfl, trivial⟩ ?_
    exact pj_template_222 hX hc h
set_option maxHeartbeats 4000000 in
theorem pj_template_180 {h0 : Nat} {qs : List Nat} {ks : Nat → Nat} {n : Nat} {call : zCl} {kc : Nat → List Value → zSt → (Option Value → zSt → Prop) → Prop} {v : Option Value × zSt} {X : Nat → zLv → List Value → zSt → Prop} (hX : zSem cX13_template 10 (some .int) h0 qs ks kc (fun r u => (r, u) = v) X) (hc : ∀ j av s w, call j av s = some w → kc j av s (fun r u => (r, u) = w)) {x2 : Int32} {x3 : Int32} {x4 : Int32} {x6 : Int32} {x7 : Int32} {x8 : Int32} {σ : zSt} (h : j_template_180 n call h0 qs ks x2 x3 x4 x6 x7 x8 σ = some v) : X 180 [some (.ref h0), none, some (.int x2), some (.int x3), some (.int x4), none, some (.int x6), some (.int x7), some (.int x8), none] [] σ := by
  rw [j_template_180] at h
  refine zs_aload_n hX dX13_template_180 rfl rfl ?_
  refine zs_aload_n hX dX13_template_181 rfl rfl ?_
  refine zg_tRight hX dX13_template_182 ?_
  refine zs_iload hX dX13_template_185 rfl ?_
  obtain ⟨b1, h⟩ := zgd_e h
  refine zl_tRight hX dX13_template_187 (zin_ok b1) ?_
  refine zs_iload_n hX dX13_template_188 rfl rfl ?_
  refine zs_iconst (v := 1) hX dX13_template_189 (by decide) ?_
  refine zs_iadd hX dX13_template_190 ?_
  refine zs_iload_n hX dX13_template_191 rfl rfl ?_
  refine zs_if_le (tgt := 201) hX dX13_template_192 (by decide) (fun c2 => ?_) (fun c2 => ?_)
  · rw [if_pos c2] at h
    refine zs_iconst (v := 0) hX dX13_template_201 (by decide) ?_
    refine zs_weak hX (lw := [some (.ref h0), none, none, none, none, none, some (.int x6), some (.int x7), some (.int x8), none]) ⟨rfl, rfl, rfl, rfl, trivial⟩ ?_
    exact pj_template_202 hX hc h
  · rw [if_neg c2] at h
    refine zs_iload_n hX dX13_template_195 rfl rfl ?_
    refine zs_iconst (v := 1) hX dX13_template_196 (by decide) ?_
    refine zs_isub hX dX13_template_197 ?_
    refine zs_goto (tgt := 202) hX dX13_template_198 (by decide) ?_
    refine zs_weak hX (lw := [some (.ref h0), none, none, none, none, none, some (.int x6), some (.int x7), some (.int x8), none]) ⟨rfl, rfl, rfl, rfl, trivial⟩ ?_
    exact pj_template_202 hX hc h
set_option maxHeartbeats 4000000 in
theorem pj_template_153 {h0 : Nat} {qs : List Nat} {ks : Nat → Nat} {n : Nat} {call : zCl} {kc : Nat → List Value → zSt → (Option Value → zSt → Prop) → Prop} {v : Option Value × zSt} {X : Nat → zLv → List Value → zSt → Prop} (hX : zSem cX13_template 10 (some .int) h0 qs ks kc (fun r u => (r, u) = v) X) (hc : ∀ j av s w, call j av s = some w → kc j av s (fun r u => (r, u) = w)) {x2 : Int32} {x3 : Int32} {x4 : Int32} {x6 : Int32} {x7 : Int32} {x8 : Int32} {t1 : Int32} {t2 : Int32} {σ : zSt} (h : j_template_153 n call h0 qs ks x2 x3 x4 x6 x7 x8 t1 t2 σ = some v) : X 153 [some (.ref h0), none, some (.int x2), some (.int x3), some (.int x4), none, some (.int x6), some (.int x7), some (.int x8), none] [.int t2, .int t1, .ref (qs.getD 67 0)] σ := by
  rw [j_template_153] at h
  obtain ⟨b1, h⟩ := zgd_e h
  obtain ⟨s2, e3, h⟩ := zlet_e h
  refine zt_isSize hX dX13_template_153 (zin_ok b1) ?_
  rw [← e3]
  refine zs_iload hX dX13_template_154 rfl ?_
  refine zs_if_eq (tgt := 180) hX dX13_template_156 (by decide) (fun c4 => ?_) (fun c4 => ?_)
  · rw [if_pos c4] at h
    exact pj_template_180 hX hc h
  · rw [if_neg c4] at h
    refine zs_aload_n hX dX13_template_159 rfl rfl ?_
    refine zg_byNames hX dX13_template_160 ?_
    refine zs_aload_n hX dX13_template_163 rfl rfl ?_
    refine zg_byMany hX dX13_template_164 ?_
    refine zs_iload hX dX13_template_167 rfl ?_
    obtain ⟨b5, h⟩ := zgd_e h
    obtain ⟨s6, e7, h⟩ := zlet_e h
    refine zt_byNames hX dX13_template_169 (zin_ok b5) ?_
    rw [← e7]
    refine zs_aload_n hX dX13_template_170 rfl rfl ?_
    refine zs_dup hX dX13_template_171 rfl ?_
    refine zg_byMany hX dX13_template_172 ?_
    refine zs_iconst (v := 1) hX dX13_template_175 (by decide) ?_
    refine zs_iadd hX dX13_template_176 ?_
    obtain ⟨s8, e9, h⟩ := zlet_e h
    refine zp_byMany hX dX13_template_177 ?_
    rw [← e9]
    exact pj_template_180 hX hc h
set_option maxHeartbeats 4000000 in
theorem pj_template_130 {h0 : Nat} {qs : List Nat} {ks : Nat → Nat} {n : Nat} {call : zCl} {kc : Nat → List Value → zSt → (Option Value → zSt → Prop) → Prop} {v : Option Value × zSt} {X : Nat → zLv → List Value → zSt → Prop} (hX : zSem cX13_template 10 (some .int) h0 qs ks kc (fun r u => (r, u) = v) X) (hc : ∀ j av s w, call j av s = some w → kc j av s (fun r u => (r, u) = w)) {x2 : Int32} {x3 : Int32} {x4 : Int32} {x6 : Int32} {x7 : Int32} {x8 : Int32} {t1 : Int32} {t2 : Int32} {σ : zSt} (h : j_template_130 n call h0 qs ks x2 x3 x4 x6 x7 x8 t1 t2 σ = some v) : X 130 [some (.ref h0), none, some (.int x2), some (.int x3), some (.int x4), none, some (.int x6), some (.int x7), some (.int x8), none] [.int t2, .int t1, .ref (qs.getD 66 0)] σ := by
  rw [j_template_130] at h
  obtain ⟨b1, h⟩ := zgd_e h
  obtain ⟨s2, e3, h⟩ := zlet_e h
  refine zt_isLength hX dX13_template_130 (zin_ok b1) ?_
  rw [← e3]
  refine zs_aload_n hX dX13_template_131 rfl rfl ?_
  refine zg_isSize hX dX13_template_132 ?_
  refine zs_iload hX dX13_template_135 rfl ?_
  refine zs_aload_n hX dX13_template_137 rfl rfl ?_
  refine zg_rKind hX dX13_template_138 ?_
  refine zs_iload hX dX13_template_141 rfl ?_
  obtain ⟨b4, h⟩ := zgd_e h
  refine zl_rKind hX dX13_template_143 (zin_ok b4) ?_
  refine zs_iconst (v := 5) hX dX13_template_144 (by decide) ?_
  refine zs_icmp_ne (tgt := 152) hX dX13_template_145 (by decide) (fun c5 => ?_) (fun c5 => ?_)
  · rw [if_neg c5] at h
    refine zs_iconst (v := 0) hX dX13_template_152 (by decide) ?_
    exact pj_template_153 hX hc h
  · rw [if_pos c5] at h
    refine zs_iconst (v := 1) hX dX13_template_148 (by decide) ?_
    refine zs_goto (tgt := 153) hX dX13_template_149 (by decide) ?_
    exact pj_template_153 hX hc h
set_option maxHeartbeats 4000000 in
theorem pj_template_125 {h0 : Nat} {qs : List Nat} {ks : Nat → Nat} {n : Nat} {call : zCl} {kc : Nat → List Value → zSt → (Option Value → zSt → Prop) → Prop} {v : Option Value × zSt} {X : Nat → zLv → List Value → zSt → Prop} (hX : zSem cX13_template 10 (some .int) h0 qs ks kc (fun r u => (r, u) = v) X) (hc : ∀ j av s w, call j av s = some w → kc j av s (fun r u => (r, u) = w)) {x2 : Int32} {x3 : Int32} {x4 : Int32} {x6 : Int32} {x7 : Int32} {x8 : Int32} {t1 : Int32} {σ : zSt} (h : j_template_125 n call h0 qs ks x2 x3 x4 x6 x7 x8 t1 σ = some v) : X 125 [some (.ref h0), none, some (.int x2), some (.int x3), some (.int x4), none, some (.int x6), some (.int x7), some (.int x8), none] [.int t1, .ref (qs.getD 66 0)] σ := by
  rw [j_template_125] at h
  refine zs_iconst (v := 1) hX dX13_template_125 (by decide) ?_
  refine zs_goto (tgt := 130) hX dX13_template_126 (by decide) ?_
  exact pj_template_130 hX hc h
set_option maxHeartbeats 4000000 in
theorem pj_template_70 {h0 : Nat} {qs : List Nat} {ks : Nat → Nat} {n : Nat} {call : zCl} {kc : Nat → List Value → zSt → (Option Value → zSt → Prop) → Prop} {v : Option Value × zSt} {X : Nat → zLv → List Value → zSt → Prop} (hX : zSem cX13_template 10 (some .int) h0 qs ks kc (fun r u => (r, u) = v) X) (hc : ∀ j av s w, call j av s = some w → kc j av s (fun r u => (r, u) = w)) {x2 : Int32} {x3 : Int32} {x4 : Int32} {x6 : Int32} {σ : zSt} (h : j_template_70 n call h0 qs ks x2 x3 x4 x6 σ = some v) : X 70 [some (.ref h0), none, some (.int x2), some (.int x3), some (.int x4), none, some (.int x6), none, none, none] [] σ := by
  rw [j_template_70] at h
  refine zs_aload_n hX dX13_template_70 rfl rfl ?_
  refine zs_aload_n hX dX13_template_71 rfl rfl ?_
  refine zg_tLeft hX dX13_template_72 ?_
  refine zs_iload hX dX13_template_75 rfl ?_
  obtain ⟨b1, h⟩ := zgd_e h
  refine zl_tLeft hX dX13_template_77 (zin_ok b1) ?_
  refine zs_iconst (v := (-1)) hX dX13_template_78 (by decide) ?_
  refine zs_iconst (v := 0) hX dX13_template_79 (by decide) ?_
  obtain ⟨r4, s2, e3, h⟩ := zci_e h
  refine zc_template hX dX13_template_80 (Nat.le_of_ble_eq_true rfl) (hc _ _ _ _ e3) (fun r9 u9 h9 => ?_)
  cases h9
  refine zs_istore hX dX13_template_83 (by decide) rfl ?_
  dsimp only [List.set]
  refine zs_aload_n hX dX13_template_85 rfl rfl ?_
  refine zg_rKind hX dX13_template_86 ?_
  refine zs_iload hX dX13_template_89 rfl ?_
  obtain ⟨b5, h⟩ := zgd_e h
  refine zl_rKind hX dX13_template_91 (zin_ok b5) ?_
  obtain ⟨r8, s6, e7, h⟩ := zci_e h
  refine zc_isSaid hX dX13_template_92 (Nat.le_of_ble_eq_true rfl) (hc _ _ _ _ e7) (fun r9 u9 h9 => ?_)
  cases h9
  refine zs_istore hX dX13_template_95 (by decide) rfl ?_
  dsimp only [List.set]
  refine zs_aload_n hX dX13_template_97 rfl rfl ?_
  refine zg_isLength hX dX13_template_98 ?_
  refine zs_iload hX dX13_template_101 rfl ?_
  refine zs_aload_n hX dX13_template_103 rfl rfl ?_
  refine zg_rKind hX dX13_template_104 ?_
  refine zs_iload hX dX13_template_107 rfl ?_
  obtain ⟨b9, h⟩ := zgd_e h
  refine zl_rKind hX dX13_template_109 (zin_ok b9) ?_
  refine zs_iconst (v := 3) hX dX13_template_110 (by decide) ?_
  refine zs_icmp_eq (tgt := 125) hX dX13_template_111 (by decide) (fun c10 => ?_) (fun c10 => ?_)
  · rw [if_pos c10] at h
    exact pj_template_125 hX hc h
  · rw [if_neg c10] at h
    refine zs_aload_n hX dX13_template_114 rfl rfl ?_
    refine zg_rKind hX dX13_template_115 ?_
    refine zs_iload hX dX13_template_118 rfl ?_
    obtain ⟨b11, h⟩ := zgd_e h
    refine zl_rKind hX dX13_template_120 (zin_ok b11) ?_
    refine zs_iconst (v := 5) hX dX13_template_121 (by decide) ?_
    refine zs_icmp_ne (tgt := 129) hX dX13_template_122 (by decide) (fun c12 => ?_) (fun c12 => ?_)
    · rw [if_neg c12] at h
      refine zs_iconst (v := 0) hX dX13_template_129 (by decide) ?_
      exact pj_template_130 hX hc h
    · rw [if_pos c12] at h
      exact pj_template_125 hX hc h
set_option maxHeartbeats 4000000 in
theorem pj_template_54 {h0 : Nat} {qs : List Nat} {ks : Nat → Nat} {n : Nat} {call : zCl} {kc : Nat → List Value → zSt → (Option Value → zSt → Prop) → Prop} {v : Option Value × zSt} {X : Nat → zLv → List Value → zSt → Prop} (hX : zSem cX13_template 10 (some .int) h0 qs ks kc (fun r u => (r, u) = v) X) (hc : ∀ j av s w, call j av s = some w → kc j av s (fun r u => (r, u) = w)) {x2 : Int32} {x3 : Int32} {x4 : Int32} {t0 : Int32} {σ : zSt} (h : j_template_54 n call h0 qs ks x2 x3 x4 t0 σ = some v) : X 54 [some (.ref h0), none, some (.int x2), some (.int x3), some (.int x4), none, none, none, none, none] [.int t0] σ := by
  rw [j_template_54] at h
  refine zs_istore hX dX13_template_54 (by decide) rfl ?_
  dsimp only [List.set]
  refine zs_iload_n hX dX13_template_56 rfl rfl ?_
  refine zs_if_ne (tgt := 70) hX dX13_template_57 (by decide) (fun c1 => ?_) (fun c1 => ?_)
  · rw [if_neg c1] at h
    exact pj_template_70 hX hc h
  · rw [if_pos c1] at h
    refine zs_aload_n hX dX13_template_60 rfl rfl ?_
    refine zs_dup hX dX13_template_61 rfl ?_
    refine zg_fresh hX dX13_template_62 ?_
    refine zs_iconst (v := 1) hX dX13_template_65 (by decide) ?_
    refine zs_iadd hX dX13_template_66 ?_
    obtain ⟨s2, e3, h⟩ := zlet_e h
    refine zp_fresh hX dX13_template_67 ?_
    rw [← e3]
    exact pj_template_70 hX hc h
set_option maxHeartbeats 4000000 in
theorem pb_template {h0 : Nat} {qs : List Nat} {ks : Nat → Nat} {n : Nat} {call : zCl} {kc : Nat → List Value → zSt → (Option Value → zSt → Prop) → Prop} {v : Option Value × zSt} {X : Nat → zLv → List Value → zSt → Prop} (hX : zSem cX13_template 10 (some .int) h0 qs ks kc (fun r u => (r, u) = v) X) (hc : ∀ j av s w, call j av s = some w → kc j av s (fun r u => (r, u) = w)) {x1 : Int32} {x2 : Int32} {x3 : Int32} {σ : zSt} (h : b_template n call h0 qs ks x1 x2 x3 σ = some v) : X 0 [some (.ref h0), some (.int x1), some (.int x2), some (.int x3), none, none, none, none, none, none] [] σ := by
  rw [b_template] at h
  refine zs_aload_n hX dX13_template_0 rfl rfl ?_
  refine zs_iload_n hX dX13_template_1 rfl rfl ?_
  obtain ⟨r3, s1, e2, h⟩ := zci_e h
  refine zc_real hX dX13_template_2 (Nat.le_of_ble_eq_true rfl) (hc _ _ _ _ e2) (fun r9 u9 h9 => ?_)
  cases h9
  refine zs_istore hX dX13_template_5 (by decide) rfl ?_
  dsimp only [List.set]
  refine zs_aload_n hX dX13_template_7 rfl rfl ?_
  refine zs_iload hX dX13_template_8 rfl ?_
  obtain ⟨r6, s4, e5, h⟩ := zci_e h
  refine zc_sort hX dX13_template_10 (Nat.le_of_ble_eq_true rfl) (hc _ _ _ _ e5) (fun r9 u9 h9 => ?_)
  cases h9
  refine zs_istore hX dX13_template_13 (by decide) rfl ?_
  dsimp only [List.set]
  refine zs_iload hX dX13_template_15 rfl ?_
  refine zs_iconst (v := 2) hX dX13_template_17 (by decide) ?_
  refine zs_icmp_ne (tgt := 27) hX dX13_template_18 (by decide) (fun c7 => ?_) (fun c7 => ?_)
  · rw [if_neg c7] at h
    refine zs_iload hX dX13_template_27 rfl ?_
    refine zs_iconst (v := 4) hX dX13_template_29 (by decide) ?_
    refine zs_icmp_ne (tgt := 235) hX dX13_template_30 (by decide) (fun c8 => ?_) (fun c8 => ?_)
    · rw [if_neg c8] at h
      refine zs_aload_n hX dX13_template_235 rfl rfl ?_
      refine zg_caseMany hX dX13_template_236 ?_
      refine zs_istore hX dX13_template_239 (by decide) rfl ?_
      dsimp only [List.set]
      refine zs_aload_n hX dX13_template_241 rfl rfl ?_
      refine zs_dup hX dX13_template_242 rfl ?_
      refine zg_caseMany hX dX13_template_243 ?_
      refine zs_iconst (v := 1) hX dX13_template_246 (by decide) ?_
      refine zs_iadd hX dX13_template_247 ?_
      obtain ⟨s9, e10, h⟩ := zlet_e h
      refine zp_caseMany hX dX13_template_248 ?_
      rw [← e10]
      refine zs_aload_n hX dX13_template_251 rfl rfl ?_
      refine zg_caseArray hX dX13_template_252 ?_
      refine zs_iload hX dX13_template_255 rfl ?_
      refine zs_iload hX dX13_template_257 rfl ?_
      refine zs_iconst (v := 3) hX dX13_template_259 (by decide) ?_
      refine zs_icmp_ne (tgt := 267) hX dX13_template_260 (by decide) (fun c11 => ?_) (fun c11 => ?_)
      · rw [if_neg c11] at h
        refine zs_iload hX dX13_template_267 rfl ?_
        refine zs_iconst (v := 5) hX dX13_template_269 (by decide) ?_
        refine zs_icmp_ne (tgt := 277) hX dX13_template_270 (by decide) (fun c12 => ?_) (fun c12 => ?_)
        · rw [if_neg c12] at h
          refine zs_iconst (v := 0) hX dX13_template_277 (by decide) ?_
          refine zs_weak hX (lw := [some (.ref h0), none, none, none, none, some (.int r6), some (.int (s4.1 98)), none, none, none]) ⟨rfl, rfl, rfl, trivial⟩ ?_
          exact pj_template_278 hX hc h
        · rw [if_pos c12] at h
          refine zs_iconst (v := 2) hX dX13_template_273 (by decide) ?_
          refine zs_goto (tgt := 278) hX dX13_template_274 (by decide) ?_
          refine zs_weak hX (lw := [some (.ref h0), none, none, none, none, some (.int r6), some (.int (s4.1 98)), none, none, none]) ⟨rfl, rfl, rfl, trivial⟩ ?_
          exact pj_template_278 hX hc h
      · rw [if_pos c11] at h
        refine zs_iconst (v := 1) hX dX13_template_263 (by decide) ?_
        refine zs_goto (tgt := 278) hX dX13_template_264 (by decide) ?_
        refine zs_weak hX (lw := [some (.ref h0), none, none, none, none, some (.int r6), some (.int (s4.1 98)), none, none, none]) ⟨rfl, rfl, rfl, trivial⟩ ?_
        exact pj_template_278 hX hc h
    · rw [if_pos c8] at h
      refine zs_iload_n hX dX13_template_33 rfl rfl ?_
      refine zs_if_le (tgt := 46) hX dX13_template_34 (by decide) (fun c13 => ?_) (fun c13 => ?_)
      · rw [if_pos c13] at h
        refine zs_sipush (v := 700) hX dX13_template_46 (by decide) ?_
        refine zs_aload_n hX dX13_template_49 rfl rfl ?_
        refine zg_fresh hX dX13_template_50 ?_
        refine zs_iadd hX dX13_template_53 ?_
        refine zs_weak hX (lw := [some (.ref h0), none, some (.int x2), some (.int x3), some (.int r3), none, none, none, none, none]) ⟨rfl, rfl, rfl, rfl, trivial⟩ ?_
        exact pj_template_54 hX hc h
      · rw [if_neg c13] at h
        refine zs_aload_n hX dX13_template_37 rfl rfl ?_
        refine zg_whose hX dX13_template_38 ?_
        refine zs_iload_n hX dX13_template_41 rfl rfl ?_
        obtain ⟨b14, h⟩ := zgd_e h
        refine zl_whose hX dX13_template_42 (zin_ok b14) ?_
        refine zs_goto (tgt := 54) hX dX13_template_43 (by decide) ?_
        refine zs_weak hX (lw := [some (.ref h0), none, some (.int x2), some (.int x3), some (.int r3), none, none, none, none, none]) ⟨rfl, rfl, rfl, rfl, trivial⟩ ?_
        exact pj_template_54 hX hc h
  · rw [if_pos c7] at h
    refine zs_aload_n hX dX13_template_21 rfl rfl ?_
    refine zs_iconst (v := 2) hX dX13_template_22 (by decide) ?_
    obtain ⟨r17, s15, e16, h⟩ := zci_e h
    refine zc_plainType hX dX13_template_23 (Nat.le_of_ble_eq_true rfl) (hc _ _ _ _ e16) (fun r9 u9 h9 => ?_)
    cases h9
    exact zs_iret hX dX13_template_26 rfl (Option.some.inj h)
def b_put (n : Nat) (call : zCl) (h0 : Nat) (qs : List Nat) (ks : Nat → Nat) (x1 : Int32) (x2 : Int32) (x3 : Int32) (x4 : Int32) (x5 : Int64) (σ : zSt) : zRs :=
  zgd (zin x1 40000) (
  if (σ.2.2.1 42 (x1).toNatClampNeg) = 2 then
    some (some (.int x1), σ)
  else
    zgd (zin x1 40000) (
    if (σ.2.2.1 42 (x1).toNatClampNeg) = 4 then
      zgd (zin x1 40000) (
      zci (call 77 [.ref h0, .int (σ.2.2.1 45 (x1).toNatClampNeg), .int x2, .int x3, .int x4, .long x5] σ) fun r38 s36 =>
      zgd (zin x1 40000) (
      zci (call 77 [.ref h0, .int (s36.2.2.1 46 (x1).toNatClampNeg), .int x2, .int x3, .int x4, .long x5] s36) fun r42 s40 =>
      zgd (zin x1 40000) (
      zci (call 67 [.ref h0, .int 4, .int (-1), .int (s40.2.2.1 44 (x1).toNatClampNeg), .int r38, .int r42] s40) fun r46 s44 =>
      some (some (.int r46), s44))))
    else
      zgd (zin (σ.1 91) 24000) (zlet (zA σ 55 (upd (σ.2.2.1 55) ((σ.1 91)).toNatClampNeg x2)) fun s6 =>
      zgd (zin (s6.1 91) 24000) (zlet (zA s6 56 (upd (s6.2.2.1 56) ((s6.1 91)).toNatClampNeg x3)) fun s9 =>
      zgd (zin (s9.1 91) 24000) (zlet (zA s9 57 (upd (s9.2.2.1 57) ((s9.1 91)).toNatClampNeg x4)) fun s12 =>
      zgd (zin (s12.1 91) 24000) (zlet (zG s12 59 (vp_updL (s12.2.2.2 59) ((s12.1 91)).toNatClampNeg x5)) fun s15 =>
      zgd (zin x1 40000) (
      zgd (zin (s15.2.2.1 43 (x1).toNatClampNeg) 24000) (
      zgd (zin (s15.1 91) 24000) (zlet (zA s15 58 (upd (s15.2.2.1 58) ((s15.1 91)).toNatClampNeg (s15.2.2.1 49 ((s15.2.2.1 43 (x1).toNatClampNeg)).toNatClampNeg))) fun s20 =>
      zlet (zI s20 91 ((s20.1 91) + 1)) fun s22 =>
      zgd (zin x1 40000) (
      zgd (zin x1 40000) (
      zgd (zin (s22.2.2.1 43 (x1).toNatClampNeg) 24000) (
      zgd (zin x1 40000) (
      zgd (zin (s22.2.2.1 43 (x1).toNatClampNeg) 24000) (
      zci (call 68 [.ref h0, .int (s22.2.2.1 47 ((s22.2.2.1 43 (x1).toNatClampNeg)).toNatClampNeg), .int (s22.2.2.1 48 ((s22.2.2.1 43 (x1).toNatClampNeg)).toNatClampNeg), .int ((s22.1 91) - 1)] s22) fun r31 s29 =>
      zci (call 67 [.ref h0, .int (s22.2.2.1 42 (x1).toNatClampNeg), .int r31, .int (-1), .int (-1), .int (-1)] s29) fun r34 s32 =>
      some (some (.int r34), s32)))))))))))))))
set_option maxHeartbeats 4000000 in
theorem pb_put {h0 : Nat} {qs : List Nat} {ks : Nat → Nat} {n : Nat} {call : zCl} {kc : Nat → List Value → zSt → (Option Value → zSt → Prop) → Prop} {v : Option Value × zSt} {X : Nat → zLv → List Value → zSt → Prop} (hX : zSem cX13_put 9 (some .int) h0 qs ks kc (fun r u => (r, u) = v) X) (hc : ∀ j av s w, call j av s = some w → kc j av s (fun r u => (r, u) = w)) {x1 : Int32} {x2 : Int32} {x3 : Int32} {x4 : Int32} {x5 : Int64} {σ : zSt} (h : b_put n call h0 qs ks x1 x2 x3 x4 x5 σ = some v) : X 0 [some (.ref h0), some (.int x1), some (.int x2), some (.int x3), some (.int x4), some (.long x5), none, none, none] [] σ := by
  rw [b_put] at h
  refine zs_aload_n hX dX13_put_0 rfl rfl ?_
  refine zg_rKind hX dX13_put_1 ?_
  refine zs_iload_n hX dX13_put_4 rfl rfl ?_
  obtain ⟨b1, h⟩ := zgd_e h
  refine zl_rKind hX dX13_put_5 (zin_ok b1) ?_
  refine zs_iconst (v := 2) hX dX13_put_6 (by decide) ?_
  refine zs_icmp_ne (tgt := 12) hX dX13_put_7 (by decide) (fun c2 => ?_) (fun c2 => ?_)
  · rw [if_neg c2] at h
    refine zs_aload_n hX dX13_put_12 rfl rfl ?_
    refine zg_rKind hX dX13_put_13 ?_
    refine zs_iload_n hX dX13_put_16 rfl rfl ?_
    obtain ⟨b3, h⟩ := zgd_e h
    refine zl_rKind hX dX13_put_17 (zin_ok b3) ?_
    refine zs_iconst (v := 4) hX dX13_put_18 (by decide) ?_
    refine zs_icmp_ne (tgt := 75) hX dX13_put_19 (by decide) (fun c4 => ?_) (fun c4 => ?_)
    · rw [if_neg c4] at h
      refine zs_aload_n hX dX13_put_75 rfl rfl ?_
      refine zg_putName hX dX13_put_76 ?_
      refine zs_aload_n hX dX13_put_79 rfl rfl ?_
      refine zg_puts hX dX13_put_80 ?_
      refine zs_iload_n hX dX13_put_83 rfl rfl ?_
      obtain ⟨b5, h⟩ := zgd_e h
      obtain ⟨s6, e7, h⟩ := zlet_e h
      refine zt_putName hX dX13_put_84 (zin_ok b5) ?_
      rw [← e7]
      refine zs_aload_n hX dX13_put_85 rfl rfl ?_
      refine zg_putBy hX dX13_put_86 ?_
      refine zs_aload_n hX dX13_put_89 rfl rfl ?_
      refine zg_puts hX dX13_put_90 ?_
      refine zs_iload_n hX dX13_put_93 rfl rfl ?_
      obtain ⟨b8, h⟩ := zgd_e h
      obtain ⟨s9, e10, h⟩ := zlet_e h
      refine zt_putBy hX dX13_put_94 (zin_ok b8) ?_
      rw [← e10]
      refine zs_aload_n hX dX13_put_95 rfl rfl ?_
      refine zg_putTimes hX dX13_put_96 ?_
      refine zs_aload_n hX dX13_put_99 rfl rfl ?_
      refine zg_puts hX dX13_put_100 ?_
      refine zs_iload hX dX13_put_103 rfl ?_
      obtain ⟨b11, h⟩ := zgd_e h
      obtain ⟨s12, e13, h⟩ := zlet_e h
      refine zt_putTimes hX dX13_put_105 (zin_ok b11) ?_
      rw [← e13]
      refine zs_aload_n hX dX13_put_106 rfl rfl ?_
      refine zg_putNumber hX dX13_put_107 ?_
      refine zs_aload_n hX dX13_put_110 rfl rfl ?_
      refine zg_puts hX dX13_put_111 ?_
      refine zs_lload hX dX13_put_114 rfl ?_
      obtain ⟨b14, h⟩ := zgd_e h
      obtain ⟨s15, e16, h⟩ := zlet_e h
      refine zt_putNumber hX dX13_put_116 (zin_ok b14) ?_
      rw [← e16]
      refine zs_aload_n hX dX13_put_117 rfl rfl ?_
      refine zg_putNext hX dX13_put_118 ?_
      refine zs_aload_n hX dX13_put_121 rfl rfl ?_
      refine zg_puts hX dX13_put_122 ?_
      refine zs_aload_n hX dX13_put_125 rfl rfl ?_
      refine zg_saidPut hX dX13_put_126 ?_
      refine zs_aload_n hX dX13_put_129 rfl rfl ?_
      refine zg_rSaid hX dX13_put_130 ?_
      refine zs_iload_n hX dX13_put_133 rfl rfl ?_
      obtain ⟨b17, h⟩ := zgd_e h
      refine zl_rSaid hX dX13_put_134 (zin_ok b17) ?_
      obtain ⟨b18, h⟩ := zgd_e h
      refine zl_saidPut hX dX13_put_135 (zin_ok b18) ?_
      obtain ⟨b19, h⟩ := zgd_e h
      obtain ⟨s20, e21, h⟩ := zlet_e h
      refine zt_putNext hX dX13_put_136 (zin_ok b19) ?_
      rw [← e21]
      refine zs_aload_n hX dX13_put_137 rfl rfl ?_
      refine zs_dup hX dX13_put_138 rfl ?_
      refine zg_puts hX dX13_put_139 ?_
      refine zs_iconst (v := 1) hX dX13_put_142 (by decide) ?_
      refine zs_iadd hX dX13_put_143 ?_
      obtain ⟨s22, e23, h⟩ := zlet_e h
      refine zp_puts hX dX13_put_144 ?_
      rw [← e23]
      refine zs_aload_n hX dX13_put_147 rfl rfl ?_
      refine zs_aload_n hX dX13_put_148 rfl rfl ?_
      refine zg_rKind hX dX13_put_149 ?_
      refine zs_iload_n hX dX13_put_152 rfl rfl ?_
      obtain ⟨b24, h⟩ := zgd_e h
      refine zl_rKind hX dX13_put_153 (zin_ok b24) ?_
      refine zs_aload_n hX dX13_put_154 rfl rfl ?_
      refine zs_aload_n hX dX13_put_155 rfl rfl ?_
      refine zg_saidCase hX dX13_put_156 ?_
      refine zs_aload_n hX dX13_put_159 rfl rfl ?_
      refine zg_rSaid hX dX13_put_160 ?_
      refine zs_iload_n hX dX13_put_163 rfl rfl ?_
      obtain ⟨b25, h⟩ := zgd_e h
      refine zl_rSaid hX dX13_put_164 (zin_ok b25) ?_
      obtain ⟨b26, h⟩ := zgd_e h
      refine zl_saidCase hX dX13_put_165 (zin_ok b26) ?_
      refine zs_aload_n hX dX13_put_166 rfl rfl ?_
      refine zg_saidFact hX dX13_put_167 ?_
      refine zs_aload_n hX dX13_put_170 rfl rfl ?_
      refine zg_rSaid hX dX13_put_171 ?_
      refine zs_iload_n hX dX13_put_174 rfl rfl ?_
      obtain ⟨b27, h⟩ := zgd_e h
      refine zl_rSaid hX dX13_put_175 (zin_ok b27) ?_
      obtain ⟨b28, h⟩ := zgd_e h
      refine zl_saidFact hX dX13_put_176 (zin_ok b28) ?_
      refine zs_aload_n hX dX13_put_177 rfl rfl ?_
      refine zg_puts hX dX13_put_178 ?_
      refine zs_iconst (v := 1) hX dX13_put_181 (by decide) ?_
      refine zs_isub hX dX13_put_182 ?_
      obtain ⟨r31, s29, e30, h⟩ := zci_e h
      refine zc_said hX dX13_put_183 (Nat.le_of_ble_eq_true rfl) (hc _ _ _ _ e30) (fun r9 u9 h9 => ?_)
      cases h9
      refine zs_iconst (v := (-1)) hX dX13_put_186 (by decide) ?_
      refine zs_iconst (v := (-1)) hX dX13_put_187 (by decide) ?_
      refine zs_iconst (v := (-1)) hX dX13_put_188 (by decide) ?_
      obtain ⟨r34, s32, e33, h⟩ := zci_e h
      refine zc_rich hX dX13_put_189 (Nat.le_of_ble_eq_true rfl) (hc _ _ _ _ e33) (fun r9 u9 h9 => ?_)
      cases h9
      exact zs_iret hX dX13_put_192 rfl (Option.some.inj h)
    · rw [if_pos c4] at h
      refine zs_aload_n hX dX13_put_22 rfl rfl ?_
      refine zs_aload_n hX dX13_put_23 rfl rfl ?_
      refine zg_rLeft hX dX13_put_24 ?_
      refine zs_iload_n hX dX13_put_27 rfl rfl ?_
      obtain ⟨b35, h⟩ := zgd_e h
      refine zl_rLeft hX dX13_put_28 (zin_ok b35) ?_
      refine zs_iload_n hX dX13_put_29 rfl rfl ?_
      refine zs_iload_n hX dX13_put_30 rfl rfl ?_
      refine zs_iload hX dX13_put_31 rfl ?_
      refine zs_lload hX dX13_put_33 rfl ?_
      obtain ⟨r38, s36, e37, h⟩ := zci_e h
      refine zc_put hX dX13_put_35 (Nat.le_of_ble_eq_true rfl) (hc _ _ _ _ e37) (fun r9 u9 h9 => ?_)
      cases h9
      refine zs_istore hX dX13_put_38 (by decide) rfl ?_
      dsimp only [List.set]
      refine zs_aload_n hX dX13_put_40 rfl rfl ?_
      refine zs_aload_n hX dX13_put_41 rfl rfl ?_
      refine zg_rRight hX dX13_put_42 ?_
      refine zs_iload_n hX dX13_put_45 rfl rfl ?_
      obtain ⟨b39, h⟩ := zgd_e h
      refine zl_rRight hX dX13_put_46 (zin_ok b39) ?_
      refine zs_iload_n hX dX13_put_47 rfl rfl ?_
      refine zs_iload_n hX dX13_put_48 rfl rfl ?_
      refine zs_iload hX dX13_put_49 rfl ?_
      refine zs_lload hX dX13_put_51 rfl ?_
      obtain ⟨r42, s40, e41, h⟩ := zci_e h
      refine zc_put hX dX13_put_53 (Nat.le_of_ble_eq_true rfl) (hc _ _ _ _ e41) (fun r9 u9 h9 => ?_)
      cases h9
      refine zs_istore hX dX13_put_56 (by decide) rfl ?_
      dsimp only [List.set]
      refine zs_aload_n hX dX13_put_58 rfl rfl ?_
      refine zs_iconst (v := 4) hX dX13_put_59 (by decide) ?_
      refine zs_iconst (v := (-1)) hX dX13_put_60 (by decide) ?_
      refine zs_aload_n hX dX13_put_61 rfl rfl ?_
      refine zg_rName hX dX13_put_62 ?_
      refine zs_iload_n hX dX13_put_65 rfl rfl ?_
      obtain ⟨b43, h⟩ := zgd_e h
      refine zl_rName hX dX13_put_66 (zin_ok b43) ?_
      refine zs_iload hX dX13_put_67 rfl ?_
      refine zs_iload hX dX13_put_69 rfl ?_
      obtain ⟨r46, s44, e45, h⟩ := zci_e h
      refine zc_rich hX dX13_put_71 (Nat.le_of_ble_eq_true rfl) (hc _ _ _ _ e45) (fun r9 u9 h9 => ?_)
      cases h9
      exact zs_iret hX dX13_put_74 rfl (Option.some.inj h)
  · rw [if_pos c2] at h
    refine zs_iload_n hX dX13_put_10 rfl rfl ?_
    exact zs_iret hX dX13_put_11 rfl (Option.some.inj h)
def j_mustFit_128 (n : Nat) (call : zCl) (h0 : Nat) (qs : List Nat) (ks : Nat → Nat) (x2 : Int32) (x4 : Int32) (x5 : Int32) (t0 : Int32) (σ : zSt) : zRs :=
  zgd (zin x2 40000) (
  zcv (call 78 [.ref h0, .int t0, .int (σ.2.2.1 46 (x2).toNatClampNeg), .int x5, .int x4] σ) fun s2 =>
  some (none, s2))
def j_mustFit_122 (n : Nat) (call : zCl) (h0 : Nat) (qs : List Nat) (ks : Nat → Nat) (x1 : Int32) (x2 : Int32) (x4 : Int32) (x5 : Int32) (σ : zSt) : zRs :=
  zgd (zin x1 40000) (
  j_mustFit_128 n call h0 qs ks x2 x4 x5 (σ.2.2.1 46 (x1).toNatClampNeg) σ)
def b_mustFit (n : Nat) (call : zCl) (h0 : Nat) (qs : List Nat) (ks : Nat → Nat) (x1 : Int32) (x2 : Int32) (x3 : Int32) (x4 : Int32) (σ : zSt) : zRs :=
  zgd (zin x1 40000) (
  if (σ.2.2.1 42 (x1).toNatClampNeg) = 2 then
    some (none, σ)
  else
    zgd (zin x1 40000) (
    if (σ.2.2.1 42 (x1).toNatClampNeg) = 4 then
      zgd (zin x2 40000) (
      zgd (zin x1 40000) (
      zcv (call 78 [.ref h0, .int (σ.2.2.1 45 (x2).toNatClampNeg), .int (σ.2.2.1 45 (x1).toNatClampNeg), .int x3, .int x4] σ) fun s21 =>
      zgd (zin x2 40000) (
      zgd (zin x2 40000) (
      zci (call 73 [.ref h0, .int x3, .int (s21.2.2.1 44 (x2).toNatClampNeg), .int (s21.2.2.1 45 (x2).toNatClampNeg)] s21) fun r27 s25 =>
      zgd (zin x2 40000) (
      zgd (zin (s25.2.2.1 45 (x2).toNatClampNeg) 40000) (
      zci (call 71 [.int (s25.2.2.1 42 ((s25.2.2.1 45 (x2).toNatClampNeg)).toNatClampNeg)] s25) fun r32 s30 =>
      if r32 = 0 then
        j_mustFit_122 n call h0 qs ks x1 x2 x4 r27 s30
      else
        zgd (zin x1 40000) (
        zgd (zin x2 40000) (
        if (s30.2.2.1 44 (x1).toNatClampNeg) = (s30.2.2.1 44 (x2).toNatClampNeg) then
          j_mustFit_122 n call h0 qs ks x1 x2 x4 r27 s30
        else
          zgd (zin x1 40000) (
          zgd (zin x1 40000) (
          zgd (zin x2 40000) (
          zci (call 77 [.ref h0, .int (s30.2.2.1 46 (x1).toNatClampNeg), .int (s30.2.2.1 44 (x1).toNatClampNeg), .int (s30.2.2.1 44 (x2).toNatClampNeg), .int 1, .long 0] s30) fun r42 s40 =>
          j_mustFit_128 n call h0 qs ks x2 x4 r27 r42 s40)))))))))))
    else
      zgd (zin (σ.1 116) 12000) (zlet (zA σ 75 (upd (σ.2.2.1 75) ((σ.1 116)).toNatClampNeg x1)) fun s6 =>
      zgd (zin (s6.1 116) 12000) (zlet (zA s6 76 (upd (s6.2.2.1 76) ((s6.1 116)).toNatClampNeg x2)) fun s9 =>
      zgd (zin (s9.1 116) 12000) (zlet (zA s9 77 (upd (s9.2.2.1 77) ((s9.1 116)).toNatClampNeg x3)) fun s12 =>
      zgd (zin (s12.1 116) 12000) (zlet (zA s12 78 (upd (s12.2.2.1 78) ((s12.1 116)).toNatClampNeg x4)) fun s15 =>
      zlet (zI s15 116 ((s15.1 116) + 1)) fun s17 =>
      some (none, s17)))))))
set_option maxHeartbeats 4000000 in
theorem pj_mustFit_128 {h0 : Nat} {qs : List Nat} {ks : Nat → Nat} {n : Nat} {call : zCl} {kc : Nat → List Value → zSt → (Option Value → zSt → Prop) → Prop} {v : Option Value × zSt} {X : Nat → zLv → List Value → zSt → Prop} (hX : zSem cX13_mustFit 8 none h0 qs ks kc (fun r u => (r, u) = v) X) (hc : ∀ j av s w, call j av s = some w → kc j av s (fun r u => (r, u) = w)) {x2 : Int32} {x4 : Int32} {x5 : Int32} {t0 : Int32} {σ : zSt} (h : j_mustFit_128 n call h0 qs ks x2 x4 x5 t0 σ = some v) : X 128 [some (.ref h0), none, some (.int x2), none, some (.int x4), some (.int x5), none, none] [.int t0] σ := by
  rw [j_mustFit_128] at h
  refine zs_istore hX dX13_mustFit_128 (by decide) rfl ?_
  dsimp only [List.set]
  refine zs_aload_n hX dX13_mustFit_130 rfl rfl ?_
  refine zs_iload hX dX13_mustFit_131 rfl ?_
  refine zs_aload_n hX dX13_mustFit_133 rfl rfl ?_
  refine zg_rRight hX dX13_mustFit_134 ?_
  refine zs_iload_n hX dX13_mustFit_137 rfl rfl ?_
  obtain ⟨b1, h⟩ := zgd_e h
  refine zl_rRight hX dX13_mustFit_138 (zin_ok b1) ?_
  refine zs_iload hX dX13_mustFit_139 rfl ?_
  refine zs_iload hX dX13_mustFit_141 rfl ?_
  obtain ⟨s2, e3, h⟩ := zcv_e h
  refine zc_mustFit hX dX13_mustFit_143 (Nat.le_of_ble_eq_true rfl) (hc _ _ _ _ e3) (fun u9 h9 => ?_)
  cases h9
  exact zs_vret hX dX13_mustFit_146 rfl (Option.some.inj h)
set_option maxHeartbeats 4000000 in
theorem pj_mustFit_122 {h0 : Nat} {qs : List Nat} {ks : Nat → Nat} {n : Nat} {call : zCl} {kc : Nat → List Value → zSt → (Option Value → zSt → Prop) → Prop} {v : Option Value × zSt} {X : Nat → zLv → List Value → zSt → Prop} (hX : zSem cX13_mustFit 8 none h0 qs ks kc (fun r u => (r, u) = v) X) (hc : ∀ j av s w, call j av s = some w → kc j av s (fun r u => (r, u) = w)) {x1 : Int32} {x2 : Int32} {x4 : Int32} {x5 : Int32} {σ : zSt} (h : j_mustFit_122 n call h0 qs ks x1 x2 x4 x5 σ = some v) : X 122 [some (.ref h0), some (.int x1), some (.int x2), none, some (.int x4), some (.int x5), none, none] [] σ := by
  rw [j_mustFit_122] at h
  refine zs_aload_n hX dX13_mustFit_122 rfl rfl ?_
  refine zg_rRight hX dX13_mustFit_123 ?_
  refine zs_iload_n hX dX13_mustFit_126 rfl rfl ?_
  obtain ⟨b1, h⟩ := zgd_e h
  refine zl_rRight hX dX13_mustFit_127 (zin_ok b1) ?_
  refine zs_weak hX (lw := [some (.ref h0), none, some (.int x2), none, some (.int x4), some (.int x5), none, none]) ⟨rfl, rfl, rfl, rfl, trivial⟩ ?_
  exact pj_mustFit_128 hX hc h
set_option maxHeartbeats 4000000 in
theorem pb_mustFit {h0 : Nat} {qs : List Nat} {ks : Nat → Nat} {n : Nat} {call : zCl} {kc : Nat → List Value → zSt → (Option Value → zSt → Prop) → Prop} {v : Option Value × zSt} {X : Nat → zLv → List Value → zSt → Prop} (hX : zSem cX13_mustFit 8 none h0 qs ks kc (fun r u => (r, u) = v) X) (hc : ∀ j av s w, call j av s = some w → kc j av s (fun r u => (r, u) = w)) {x1 : Int32} {x2 : Int32} {x3 : Int32} {x4 : Int32} {σ : zSt} (h : b_mustFit n call h0 qs ks x1 x2 x3 x4 σ = some v) : X 0 [some (.ref h0), some (.int x1), some (.int x2), some (.int x3), some (.int x4), none, none, none] [] σ := by
  rw [b_mustFit] at h
  refine zs_aload_n hX dX13_mustFit_0 rfl rfl ?_
  refine zg_rKind hX dX13_mustFit_1 ?_
  refine zs_iload_n hX dX13_mustFit_4 rfl rfl ?_
  obtain ⟨b1, h⟩ := zgd_e h
  refine zl_rKind hX dX13_mustFit_5 (zin_ok b1) ?_
  refine zs_iconst (v := 2) hX dX13_mustFit_6 (by decide) ?_
  refine zs_icmp_ne (tgt := 11) hX dX13_mustFit_7 (by decide) (fun c2 => ?_) (fun c2 => ?_)
  · rw [if_neg c2] at h
    refine zs_aload_n hX dX13_mustFit_11 rfl rfl ?_
    refine zg_rKind hX dX13_mustFit_12 ?_
    refine zs_iload_n hX dX13_mustFit_15 rfl rfl ?_
    obtain ⟨b3, h⟩ := zgd_e h
    refine zl_rKind hX dX13_mustFit_16 (zin_ok b3) ?_
    refine zs_iconst (v := 4) hX dX13_mustFit_17 (by decide) ?_
    refine zs_icmp_ne (tgt := 147) hX dX13_mustFit_18 (by decide) (fun c4 => ?_) (fun c4 => ?_)
    · rw [if_neg c4] at h
      refine zs_aload_n hX dX13_mustFit_147 rfl rfl ?_
      refine zg_fitLeft hX dX13_mustFit_148 ?_
      refine zs_aload_n hX dX13_mustFit_151 rfl rfl ?_
      refine zg_fits hX dX13_mustFit_152 ?_
      refine zs_iload_n hX dX13_mustFit_155 rfl rfl ?_
      obtain ⟨b5, h⟩ := zgd_e h
      obtain ⟨s6, e7, h⟩ := zlet_e h
      refine zt_fitLeft hX dX13_mustFit_156 (zin_ok b5) ?_
      rw [← e7]
      refine zs_aload_n hX dX13_mustFit_157 rfl rfl ?_
      refine zg_fitRight hX dX13_mustFit_158 ?_
      refine zs_aload_n hX dX13_mustFit_161 rfl rfl ?_
      refine zg_fits hX dX13_mustFit_162 ?_
      refine zs_iload_n hX dX13_mustFit_165 rfl rfl ?_
      obtain ⟨b8, h⟩ := zgd_e h
      obtain ⟨s9, e10, h⟩ := zlet_e h
      refine zt_fitRight hX dX13_mustFit_166 (zin_ok b8) ?_
      rw [← e10]
      refine zs_aload_n hX dX13_mustFit_167 rfl rfl ?_
      refine zg_fitEnv hX dX13_mustFit_168 ?_
      refine zs_aload_n hX dX13_mustFit_171 rfl rfl ?_
      refine zg_fits hX dX13_mustFit_172 ?_
      refine zs_iload_n hX dX13_mustFit_175 rfl rfl ?_
      obtain ⟨b11, h⟩ := zgd_e h
      obtain ⟨s12, e13, h⟩ := zlet_e h
      refine zt_fitEnv hX dX13_mustFit_176 (zin_ok b11) ?_
      rw [← e13]
      refine zs_aload_n hX dX13_mustFit_177 rfl rfl ?_
      refine zg_fitGone hX dX13_mustFit_178 ?_
      refine zs_aload_n hX dX13_mustFit_181 rfl rfl ?_
      refine zg_fits hX dX13_mustFit_182 ?_
      refine zs_iload hX dX13_mustFit_185 rfl ?_
      obtain ⟨b14, h⟩ := zgd_e h
      obtain ⟨s15, e16, h⟩ := zlet_e h
      refine zt_fitGone hX dX13_mustFit_187 (zin_ok b14) ?_
      rw [← e16]
      refine zs_aload_n hX dX13_mustFit_188 rfl rfl ?_
      refine zs_dup hX dX13_mustFit_189 rfl ?_
      refine zg_fits hX dX13_mustFit_190 ?_
      refine zs_iconst (v := 1) hX dX13_mustFit_193 (by decide) ?_
      refine zs_iadd hX dX13_mustFit_194 ?_
      obtain ⟨s17, e18, h⟩ := zlet_e h
      refine zp_fits hX dX13_mustFit_195 ?_
      rw [← e18]
      exact zs_vret hX dX13_mustFit_198 rfl (Option.some.inj h)
    · rw [if_pos c4] at h
      refine zs_aload_n hX dX13_mustFit_21 rfl rfl ?_
      refine zs_aload_n hX dX13_mustFit_22 rfl rfl ?_
      refine zg_rLeft hX dX13_mustFit_23 ?_
      refine zs_iload_n hX dX13_mustFit_26 rfl rfl ?_
      obtain ⟨b19, h⟩ := zgd_e h
      refine zl_rLeft hX dX13_mustFit_27 (zin_ok b19) ?_
      refine zs_aload_n hX dX13_mustFit_28 rfl rfl ?_
      refine zg_rLeft hX dX13_mustFit_29 ?_
      refine zs_iload_n hX dX13_mustFit_32 rfl rfl ?_
      obtain ⟨b20, h⟩ := zgd_e h
      refine zl_rLeft hX dX13_mustFit_33 (zin_ok b20) ?_
      refine zs_iload_n hX dX13_mustFit_34 rfl rfl ?_
      refine zs_iload hX dX13_mustFit_35 rfl ?_
      obtain ⟨s21, e22, h⟩ := zcv_e h
      refine zc_mustFit hX dX13_mustFit_37 (Nat.le_of_ble_eq_true rfl) (hc _ _ _ _ e22) (fun u9 h9 => ?_)
      cases h9
      refine zs_aload_n hX dX13_mustFit_40 rfl rfl ?_
      refine zs_iload_n hX dX13_mustFit_41 rfl rfl ?_
      refine zs_aload_n hX dX13_mustFit_42 rfl rfl ?_
      refine zg_rName hX dX13_mustFit_43 ?_
      refine zs_iload_n hX dX13_mustFit_46 rfl rfl ?_
      obtain ⟨b23, h⟩ := zgd_e h
      refine zl_rName hX dX13_mustFit_47 (zin_ok b23) ?_
      refine zs_aload_n hX dX13_mustFit_48 rfl rfl ?_
      refine zg_rLeft hX dX13_mustFit_49 ?_
      refine zs_iload_n hX dX13_mustFit_52 rfl rfl ?_
      obtain ⟨b24, h⟩ := zgd_e h
      refine zl_rLeft hX dX13_mustFit_53 (zin_ok b24) ?_
      obtain ⟨r27, s25, e26, h⟩ := zci_e h
      refine zc_knows hX dX13_mustFit_54 (Nat.le_of_ble_eq_true rfl) (hc _ _ _ _ e26) (fun r9 u9 h9 => ?_)
      cases h9
      refine zs_istore hX dX13_mustFit_57 (by decide) rfl ?_
      dsimp only [List.set]
      refine zs_aload_n hX dX13_mustFit_59 rfl rfl ?_
      refine zg_rKind hX dX13_mustFit_60 ?_
      refine zs_aload_n hX dX13_mustFit_63 rfl rfl ?_
      refine zg_rLeft hX dX13_mustFit_64 ?_
      refine zs_iload_n hX dX13_mustFit_67 rfl rfl ?_
      obtain ⟨b28, h⟩ := zgd_e h
      refine zl_rLeft hX dX13_mustFit_68 (zin_ok b28) ?_
      obtain ⟨b29, h⟩ := zgd_e h
      refine zl_rKind hX dX13_mustFit_69 (zin_ok b29) ?_
      obtain ⟨r32, s30, e31, h⟩ := zci_e h
      refine zc_isSaid hX dX13_mustFit_70 (Nat.le_of_ble_eq_true rfl) (hc _ _ _ _ e31) (fun r9 u9 h9 => ?_)
      cases h9
      refine zs_istore hX dX13_mustFit_73 (by decide) rfl ?_
      dsimp only [List.set]
      refine zs_iload hX dX13_mustFit_75 rfl ?_
      refine zs_if_eq (tgt := 122) hX dX13_mustFit_77 (by decide) (fun c33 => ?_) (fun c33 => ?_)
      · rw [if_pos c33] at h
        refine zs_weak hX (lw := [some (.ref h0), some (.int x1), some (.int x2), none, some (.int x4), some (.int r27), none, none]) ⟨rfl, rfl, rfl, rfl, rfl, trivial⟩ ?_
        exact pj_mustFit_122 hX hc h
      · rw [if_neg c33] at h
        refine zs_aload_n hX dX13_mustFit_80 rfl rfl ?_
        refine zg_rName hX dX13_mustFit_81 ?_
        refine zs_iload_n hX dX13_mustFit_84 rfl rfl ?_
        obtain ⟨b34, h⟩ := zgd_e h
        refine zl_rName hX dX13_mustFit_85 (zin_ok b34) ?_
        refine zs_aload_n hX dX13_mustFit_86 rfl rfl ?_
        refine zg_rName hX dX13_mustFit_87 ?_
        refine zs_iload_n hX dX13_mustFit_90 rfl rfl ?_
        obtain ⟨b35, h⟩ := zgd_e h
        refine zl_rName hX dX13_mustFit_91 (zin_ok b35) ?_
        refine zs_icmp_eq (tgt := 122) hX dX13_mustFit_92 (by decide) (fun c36 => ?_) (fun c36 => ?_)
        · rw [if_pos c36] at h
          refine zs_weak hX (lw := [some (.ref h0), some (.int x1), some (.int x2), none, some (.int x4), some (.int r27), none, none]) ⟨rfl, rfl, rfl, rfl, rfl, trivial⟩ ?_
          exact pj_mustFit_122 hX hc h
        · rw [if_neg c36] at h
          refine zs_aload_n hX dX13_mustFit_95 rfl rfl ?_
          refine zs_aload_n hX dX13_mustFit_96 rfl rfl ?_
          refine zg_rRight hX dX13_mustFit_97 ?_
          refine zs_iload_n hX dX13_mustFit_100 rfl rfl ?_
          obtain ⟨b37, h⟩ := zgd_e h
          refine zl_rRight hX dX13_mustFit_101 (zin_ok b37) ?_
          refine zs_aload_n hX dX13_mustFit_102 rfl rfl ?_
          refine zg_rName hX dX13_mustFit_103 ?_
          refine zs_iload_n hX dX13_mustFit_106 rfl rfl ?_
          obtain ⟨b38, h⟩ := zgd_e h
          refine zl_rName hX dX13_mustFit_107 (zin_ok b38) ?_
          refine zs_aload_n hX dX13_mustFit_108 rfl rfl ?_
          refine zg_rName hX dX13_mustFit_109 ?_
          refine zs_iload_n hX dX13_mustFit_112 rfl rfl ?_
          obtain ⟨b39, h⟩ := zgd_e h
          refine zl_rName hX dX13_mustFit_113 (zin_ok b39) ?_
          refine zs_iconst (v := 1) hX dX13_mustFit_114 (by decide) ?_
          refine zs_lconst (v := 0) hX dX13_mustFit_115 (by decide) ?_
          obtain ⟨r42, s40, e41, h⟩ := zci_e h
          refine zc_put hX dX13_mustFit_116 (Nat.le_of_ble_eq_true rfl) (hc _ _ _ _ e41) (fun r9 u9 h9 => ?_)
          cases h9
          refine zs_goto (tgt := 128) hX dX13_mustFit_119 (by decide) ?_
          refine zs_weak hX (lw := [some (.ref h0), none, some (.int x2), none, some (.int x4), some (.int r27), none, none]) ⟨rfl, rfl, rfl, rfl, trivial⟩ ?_
          exact pj_mustFit_128 hX hc h
  · rw [if_pos c2] at h
    exact zs_vret hX dX13_mustFit_10 rfl (Option.some.inj h)
def b_mustBeSo (n : Nat) (call : zCl) (h0 : Nat) (qs : List Nat) (ks : Nat → Nat) (x1 : Int32) (x2 : Int32) (x3 : Int32) (x4 : Int32) (x5 : Int32) (x6 : Int32) (σ : zSt) : zRs :=
  zgd (zin (σ.1 123) 2100) (zlet (zA σ 79 (upd (σ.2.2.1 79) ((σ.1 123)).toNatClampNeg x1)) fun s2 =>
  zgd (zin (s2.1 123) 2100) (zlet (zA s2 80 (upd (s2.2.2.1 80) ((s2.1 123)).toNatClampNeg x2)) fun s5 =>
  zgd (zin (s5.1 123) 2100) (zlet (zA s5 81 (upd (s5.2.2.1 81) ((s5.1 123)).toNatClampNeg x3)) fun s8 =>
  zgd (zin (s8.1 123) 2100) (zlet (zA s8 82 (upd (s8.2.2.1 82) ((s8.1 123)).toNatClampNeg x4)) fun s11 =>
  zgd (zin (s11.1 123) 2100) (zlet (zA s11 83 (upd (s11.2.2.1 83) ((s11.1 123)).toNatClampNeg x5)) fun s14 =>
  zgd (zin (s14.1 123) 2100) (zlet (zA s14 84 (upd (s14.2.2.1 84) ((s14.1 123)).toNatClampNeg x6)) fun s17 =>
  zlet (zI s17 123 ((s17.1 123) + 1)) fun s19 =>
  some (none, s19)))))))
set_option maxHeartbeats 4000000 in
theorem pb_mustBeSo {h0 : Nat} {qs : List Nat} {ks : Nat → Nat} {n : Nat} {call : zCl} {kc : Nat → List Value → zSt → (Option Value → zSt → Prop) → Prop} {v : Option Value × zSt} {X : Nat → zLv → List Value → zSt → Prop} (hX : zSem cX13_mustBeSo 7 none h0 qs ks kc (fun r u => (r, u) = v) X) (hc : ∀ j av s w, call j av s = some w → kc j av s (fun r u => (r, u) = w)) {x1 : Int32} {x2 : Int32} {x3 : Int32} {x4 : Int32} {x5 : Int32} {x6 : Int32} {σ : zSt} (h : b_mustBeSo n call h0 qs ks x1 x2 x3 x4 x5 x6 σ = some v) : X 0 [some (.ref h0), some (.int x1), some (.int x2), some (.int x3), some (.int x4), some (.int x5), some (.int x6)] [] σ := by
  rw [b_mustBeSo] at h
  refine zs_aload_n hX dX13_mustBeSo_0 rfl rfl ?_
  refine zg_soKind hX dX13_mustBeSo_1 ?_
  refine zs_aload_n hX dX13_mustBeSo_4 rfl rfl ?_
  refine zg_sos hX dX13_mustBeSo_5 ?_
  refine zs_iload_n hX dX13_mustBeSo_8 rfl rfl ?_
  obtain ⟨b1, h⟩ := zgd_e h
  obtain ⟨s2, e3, h⟩ := zlet_e h
  refine zt_soKind hX dX13_mustBeSo_9 (zin_ok b1) ?_
  rw [← e3]
  refine zs_aload_n hX dX13_mustBeSo_10 rfl rfl ?_
  refine zg_soWhat hX dX13_mustBeSo_11 ?_
  refine zs_aload_n hX dX13_mustBeSo_14 rfl rfl ?_
  refine zg_sos hX dX13_mustBeSo_15 ?_
  refine zs_iload_n hX dX13_mustBeSo_18 rfl rfl ?_
  obtain ⟨b4, h⟩ := zgd_e h
  obtain ⟨s5, e6, h⟩ := zlet_e h
  refine zt_soWhat hX dX13_mustBeSo_19 (zin_ok b4) ?_
  rw [← e6]
  refine zs_aload_n hX dX13_mustBeSo_20 rfl rfl ?_
  refine zg_soName hX dX13_mustBeSo_21 ?_
  refine zs_aload_n hX dX13_mustBeSo_24 rfl rfl ?_
  refine zg_sos hX dX13_mustBeSo_25 ?_
  refine zs_iload_n hX dX13_mustBeSo_28 rfl rfl ?_
  obtain ⟨b7, h⟩ := zgd_e h
  obtain ⟨s8, e9, h⟩ := zlet_e h
  refine zt_soName hX dX13_mustBeSo_29 (zin_ok b7) ?_
  rw [← e9]
  refine zs_aload_n hX dX13_mustBeSo_30 rfl rfl ?_
  refine zg_soEnv hX dX13_mustBeSo_31 ?_
  refine zs_aload_n hX dX13_mustBeSo_34 rfl rfl ?_
  refine zg_sos hX dX13_mustBeSo_35 ?_
  refine zs_iload hX dX13_mustBeSo_38 rfl ?_
  obtain ⟨b10, h⟩ := zgd_e h
  obtain ⟨s11, e12, h⟩ := zlet_e h
  refine zt_soEnv hX dX13_mustBeSo_40 (zin_ok b10) ?_
  rw [← e12]
  refine zs_aload_n hX dX13_mustBeSo_41 rfl rfl ?_
  refine zg_soGone hX dX13_mustBeSo_42 ?_
  refine zs_aload_n hX dX13_mustBeSo_45 rfl rfl ?_
  refine zg_sos hX dX13_mustBeSo_46 ?_
  refine zs_iload hX dX13_mustBeSo_49 rfl ?_
  obtain ⟨b13, h⟩ := zgd_e h
  obtain ⟨s14, e15, h⟩ := zlet_e h
  refine zt_soGone hX dX13_mustBeSo_51 (zin_ok b13) ?_
  rw [← e15]
  refine zs_aload_n hX dX13_mustBeSo_52 rfl rfl ?_
  refine zg_soAt hX dX13_mustBeSo_53 ?_
  refine zs_aload_n hX dX13_mustBeSo_56 rfl rfl ?_
  refine zg_sos hX dX13_mustBeSo_57 ?_
  refine zs_iload hX dX13_mustBeSo_60 rfl ?_
  obtain ⟨b16, h⟩ := zgd_e h
  obtain ⟨s17, e18, h⟩ := zlet_e h
  refine zt_soAt hX dX13_mustBeSo_62 (zin_ok b16) ?_
  rw [← e18]
  refine zs_aload_n hX dX13_mustBeSo_63 rfl rfl ?_
  refine zs_dup hX dX13_mustBeSo_64 rfl ?_
  refine zg_sos hX dX13_mustBeSo_65 ?_
  refine zs_iconst (v := 1) hX dX13_mustBeSo_68 (by decide) ?_
  refine zs_iadd hX dX13_mustBeSo_69 ?_
  obtain ⟨s19, e20, h⟩ := zlet_e h
  refine zp_sos hX dX13_mustBeSo_70 ?_
  rw [← e20]
  exact zs_vret hX dX13_mustBeSo_73 rfl (Option.some.inj h)
