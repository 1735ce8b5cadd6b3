/-! the methods of the reference as plain functions (40 to 59) -/
def b_newType (n : Nat) (call : zCl) (h0 : Nat) (qs : List Nat) (ks : Nat → Nat) (x1 : Int32) (x2 : Int32) (x3 : Int32) (σ : zSt) : zRs :=
  zgd (zin (σ.1 59) 9000) (zlet (zA σ 34 (upd (σ.2.2.1 34) ((σ.1 59)).toNatClampNeg x1)) fun s2 =>
  zgd (zin (s2.1 59) 9000) (zlet (zA s2 35 (upd (s2.2.2.1 35) ((s2.1 59)).toNatClampNeg x2)) fun s5 =>
  zgd (zin (s5.1 59) 9000) (zlet (zA s5 36 (upd (s5.2.2.1 36) ((s5.1 59)).toNatClampNeg x3)) fun s8 =>
  zgd (zin (s8.1 59) 9000) (zlet (zA s8 37 (upd (s8.2.2.1 37) ((s8.1 59)).toNatClampNeg (-1))) fun s11 =>
  zgd (zin (s11.1 59) 9000) (zlet (zA s11 38 (upd (s11.2.2.1 38) ((s11.1 59)).toNatClampNeg 0)) fun s14 =>
  zlet (zI s14 59 ((s14.1 59) + 1)) fun s16 =>
  some (some (.int ((s16.1 59) - 1)), s16))))))
set_option maxHeartbeats 4000000 in
theorem pb_newType {h0 : Nat} {qs : List Nat} {ks : Nat → Nat} {n : Nat} {call : zCl} {kc : Nat → List Value → zSt → (Option Value → zSt → Prop) → Prop} {v : Option Value × zSt} {X : Nat → zLv → List Value → zSt → Prop} (hX : zSem cX13_newType 4 (some .int) h0 qs ks kc (fun r u => (r, u) = v) X) (hc : ∀ j av s w, call j av s = some w → kc j av s (fun r u => (r, u) = w)) {x1 : Int32} {x2 : Int32} {x3 : Int32} {σ : zSt} (h : b_newType n call h0 qs ks x1 x2 x3 σ = some v) : X 0 [some (.ref h0), some (.int x1), some (.int x2), some (.int x3)] [] σ := by
  rw [b_newType] at h
  refine zs_aload_n hX dX13_newType_0 rfl rfl ?_
  refine zg_tKind hX dX13_newType_1 ?_
  refine zs_aload_n hX dX13_newType_4 rfl rfl ?_
  refine zg_types hX dX13_newType_5 ?_
  refine zs_iload_n hX dX13_newType_8 rfl rfl ?_
  obtain ⟨b1, h⟩ := zgd_e h
  obtain ⟨s2, e3, h⟩ := zlet_e h
  refine zt_tKind hX dX13_newType_9 (zin_ok b1) ?_
  rw [← e3]
  refine zs_aload_n hX dX13_newType_10 rfl rfl ?_
  refine zg_tLeft hX dX13_newType_11 ?_
  refine zs_aload_n hX dX13_newType_14 rfl rfl ?_
  refine zg_types hX dX13_newType_15 ?_
  refine zs_iload_n hX dX13_newType_18 rfl rfl ?_
  obtain ⟨b4, h⟩ := zgd_e h
  obtain ⟨s5, e6, h⟩ := zlet_e h
  refine zt_tLeft hX dX13_newType_19 (zin_ok b4) ?_
  rw [← e6]
  refine zs_aload_n hX dX13_newType_20 rfl rfl ?_
  refine zg_tRight hX dX13_newType_21 ?_
  refine zs_aload_n hX dX13_newType_24 rfl rfl ?_
  refine zg_types hX dX13_newType_25 ?_
  refine zs_iload_n hX dX13_newType_28 rfl rfl ?_
  obtain ⟨b7, h⟩ := zgd_e h
  obtain ⟨s8, e9, h⟩ := zlet_e h
  refine zt_tRight hX dX13_newType_29 (zin_ok b7) ?_
  rw [← e9]
  refine zs_aload_n hX dX13_newType_30 rfl rfl ?_
  refine zg_tLink hX dX13_newType_31 ?_
  refine zs_aload_n hX dX13_newType_34 rfl rfl ?_
  refine zg_types hX dX13_newType_35 ?_
  refine zs_iconst (v := (-1)) hX dX13_newType_38 (by decide) ?_
  obtain ⟨b10, h⟩ := zgd_e h
  obtain ⟨s11, e12, h⟩ := zlet_e h
  refine zt_tLink hX dX13_newType_39 (zin_ok b10) ?_
  rw [← e12]
  refine zs_aload_n hX dX13_newType_40 rfl rfl ?_
  refine zg_tSeen hX dX13_newType_41 ?_
  refine zs_aload_n hX dX13_newType_44 rfl rfl ?_
  refine zg_types hX dX13_newType_45 ?_
  refine zs_iconst (v := 0) hX dX13_newType_48 (by decide) ?_
  obtain ⟨b13, h⟩ := zgd_e h
  obtain ⟨s14, e15, h⟩ := zlet_e h
  refine zt_tSeen hX dX13_newType_49 (zin_ok b13) ?_
  rw [← e15]
  refine zs_aload_n hX dX13_newType_50 rfl rfl ?_
  refine zs_dup hX dX13_newType_51 rfl ?_
  refine zg_types hX dX13_newType_52 ?_
  refine zs_iconst (v := 1) hX dX13_newType_55 (by decide) ?_
  refine zs_iadd hX dX13_newType_56 ?_
  obtain ⟨s16, e17, h⟩ := zlet_e h
  refine zp_types hX dX13_newType_57 ?_
  rw [← e17]
  refine zs_aload_n hX dX13_newType_60 rfl rfl ?_
  refine zg_types hX dX13_newType_61 ?_
  refine zs_iconst (v := 1) hX dX13_newType_64 (by decide) ?_
  refine zs_isub hX dX13_newType_65 ?_
  exact zs_iret hX dX13_newType_66 rfl (Option.some.inj h)
def b_openType (n : Nat) (call : zCl) (h0 : Nat) (qs : List Nat) (ks : Nat → Nat) (σ : zSt) : zRs :=
  zci (call 40 [.ref h0, .int 0, .int (-1), .int (-1)] σ) fun r3 s1 =>
  some (some (.int r3), s1)
set_option maxHeartbeats 4000000 in
theorem pb_openType {h0 : Nat} {qs : List Nat} {ks : Nat → Nat} {n : Nat} {call : zCl} {kc : Nat → List Value → zSt → (Option Value → zSt → Prop) → Prop} {v : Option Value × zSt} {X : Nat → zLv → List Value → zSt → Prop} (hX : zSem cX13_openType 1 (some .int) h0 qs ks kc (fun r u => (r, u) = v) X) (hc : ∀ j av s w, call j av s = some w → kc j av s (fun r u => (r, u) = w)) {σ : zSt} (h : b_openType n call h0 qs ks σ = some v) : X 0 [some (.ref h0)] [] σ := by
  rw [b_openType] at h
  refine zs_aload_n hX dX13_openType_0 rfl rfl ?_
  refine zs_iconst (v := 0) hX dX13_openType_1 (by decide) ?_
  refine zs_iconst (v := (-1)) hX dX13_openType_2 (by decide) ?_
  refine zs_iconst (v := (-1)) hX dX13_openType_3 (by decide) ?_
  obtain ⟨r3, s1, e2, h⟩ := zci_e h
  refine zc_newType hX dX13_openType_4 (Nat.le_of_ble_eq_true rfl) (hc _ _ _ _ e2) (fun r9 u9 h9 => ?_)
  cases h9
  exact zs_iret hX dX13_openType_7 rfl (Option.some.inj h)
def l_real_2 (n : Nat) (call : zCl) (h0 : Nat) (qs : List Nat) (ks : Nat → Nat) : Nat → Int32 → zSt → zRs
  | 0, _, _ => none
  | f + 1, x2, σ =>
    zgd (zin x2 9000) (
    if (σ.2.2.1 37 (x2).toNatClampNeg) < 0 then
      some (some (.int x2), σ)
    else
      zgd (zin x2 9000) (
      l_real_2 n call h0 qs ks f (σ.2.2.1 37 (x2).toNatClampNeg) σ))
def b_real (n : Nat) (call : zCl) (h0 : Nat) (qs : List Nat) (ks : Nat → Nat) (x1 : Int32) (σ : zSt) : zRs :=
  l_real_2 n call h0 qs ks n x1 σ
set_option maxHeartbeats 4000000 in
theorem pl_real_2 {h0 : Nat} {qs : List Nat} {ks : Nat → Nat} {n : Nat} {call : zCl} {kc : Nat → List Value → zSt → (Option Value → zSt → Prop) → Prop} {v : Option Value × zSt} {X : Nat → zLv → List Value → zSt → Prop} (hX : zSem cX13_real 3 (some .int) h0 qs ks kc (fun r u => (r, u) = v) X) (hc : ∀ j av s w, call j av s = some w → kc j av s (fun r u => (r, u) = w)) : ∀ (f : Nat) (x2 : Int32) (σ : zSt), l_real_2 n call h0 qs ks f x2 σ = some v → X 2 [some (.ref h0), none, some (.int x2)] [] σ := by
  intro f
  induction f with
  | zero => intro x2 σ h; cases h
  | succ f hk2 =>
    intro x2 σ h
    rw [l_real_2] at h
    refine zs_aload_n hX dX13_real_2 rfl rfl ?_
    refine zg_tLink hX dX13_real_3 ?_
    refine zs_iload_n hX dX13_real_6 rfl rfl ?_
    obtain ⟨b1, h⟩ := zgd_e h
    refine zl_tLink hX dX13_real_7 (zin_ok b1) ?_
    refine zs_if_lt (tgt := 21) hX dX13_real_8 (by decide) (fun c2 => ?_) (fun c2 => ?_)
    · rw [if_pos c2] at h
      refine zs_iload_n hX dX13_real_21 rfl rfl ?_
      exact zs_iret hX dX13_real_22 rfl (Option.some.inj h)
    · rw [if_neg c2] at h
      refine zs_aload_n hX dX13_real_11 rfl rfl ?_
      refine zg_tLink hX dX13_real_12 ?_
      refine zs_iload_n hX dX13_real_15 rfl rfl ?_
      obtain ⟨b3, h⟩ := zgd_e h
      refine zl_tLink hX dX13_real_16 (zin_ok b3) ?_
      refine zs_istore_n hX dX13_real_17 rfl (by decide) rfl ?_
      dsimp only [List.set]
      refine zs_goto (tgt := 2) hX dX13_real_18 (by decide) ?_
      exact hk2 _ _ h
set_option maxHeartbeats 4000000 in
theorem pb_real {h0 : Nat} {qs : List Nat} {ks : Nat → Nat} {n : Nat} {call : zCl} {kc : Nat → List Value → zSt → (Option Value → zSt → Prop) → Prop} {v : Option Value × zSt} {X : Nat → zLv → List Value → zSt → Prop} (hX : zSem cX13_real 3 (some .int) h0 qs ks kc (fun r u => (r, u) = v) X) (hc : ∀ j av s w, call j av s = some w → kc j av s (fun r u => (r, u) = w)) {x1 : Int32} {σ : zSt} (h : b_real n call h0 qs ks x1 σ = some v) : X 0 [some (.ref h0), some (.int x1), none] [] σ := by
  rw [b_real] at h
  refine zs_iload_n hX dX13_real_0 rfl rfl ?_
  refine zs_istore_n hX dX13_real_1 rfl (by decide) rfl ?_
  dsimp only [List.set]
  refine zs_weak hX (lw := [some (.ref h0), none, some (.int x1)]) ⟨rfl, rfl, trivial⟩ ?_
  exact pl_real_2 hX hc n _ _ h
def j_isIn_76 (n : Nat) (call : zCl) (h0 : Nat) (qs : List Nat) (ks : Nat → Nat) (σ : zSt) : zRs :=
  some (some (.int 1), σ)
def b_isIn (n : Nat) (call : zCl) (h0 : Nat) (qs : List Nat) (ks : Nat → Nat) (x1 : Int32) (x2 : Int32) (σ : zSt) : zRs :=
  zci (call 42 [.ref h0, .int x2] σ) fun r3 s1 =>
  if r3 = x1 then
    some (some (.int 1), s1)
  else
    zgd (zin r3 9000) (
    if (s1.2.2.1 34 (r3).toNatClampNeg) = 4 then
      zgd (zin r3 9000) (
      if (s1.2.2.1 38 (r3).toNatClampNeg) = (s1.1 60) then
        some (some (.int 0), s1)
      else
        zgd (zin r3 9000) (zlet (zA s1 38 (upd (s1.2.2.1 38) (r3).toNatClampNeg (s1.1 60))) fun s10 =>
        zgd (zin r3 9000) (
        zci (call 43 [.ref h0, .int x1, .int (s10.2.2.1 35 (r3).toNatClampNeg)] s10) fun r15 s13 =>
        if r15 = 0 then
          zgd (zin r3 9000) (
          zci (call 43 [.ref h0, .int x1, .int (s13.2.2.1 36 (r3).toNatClampNeg)] s13) fun r20 s18 =>
          if r20 = 0 then
            some (some (.int 0), s18)
          else
            j_isIn_76 n call h0 qs ks s18)
        else
          j_isIn_76 n call h0 qs ks s13)))
    else
      some (some (.int 0), s1))
set_option maxHeartbeats 4000000 in
theorem pj_isIn_76 {h0 : Nat} {qs : List Nat} {ks : Nat → Nat} {n : Nat} {call : zCl} {kc : Nat → List Value → zSt → (Option Value → zSt → Prop) → Prop} {v : Option Value × zSt} {X : Nat → zLv → List Value → zSt → Prop} (hX : zSem cX13_isIn 4 (some .boolean) h0 qs ks kc (fun r u => (r, u) = v) X) (hc : ∀ j av s w, call j av s = some w → kc j av s (fun r u => (r, u) = w)) {σ : zSt} (h : j_isIn_76 n call h0 qs ks σ = some v) : X 76 [none, none, none, none] [] σ := by
  rw [j_isIn_76] at h
  refine zs_iconst (v := 1) hX dX13_isIn_76 (by decide) ?_
  refine zs_goto (tgt := 81) hX dX13_isIn_77 (by decide) ?_
  exact zs_zret hX dX13_isIn_81 rfl (by decide) (Option.some.inj h)
set_option maxHeartbeats 4000000 in
theorem pb_isIn {h0 : Nat} {qs : List Nat} {ks : Nat → Nat} {n : Nat} {call : zCl} {kc : Nat → List Value → zSt → (Option Value → zSt → Prop) → Prop} {v : Option Value × zSt} {X : Nat → zLv → List Value → zSt → Prop} (hX : zSem cX13_isIn 4 (some .boolean) h0 qs ks kc (fun r u => (r, u) = v) X) (hc : ∀ j av s w, call j av s = some w → kc j av s (fun r u => (r, u) = w)) {x1 : Int32} {x2 : Int32} {σ : zSt} (h : b_isIn n call h0 qs ks x1 x2 σ = some v) : X 0 [some (.ref h0), some (.int x1), some (.int x2), none] [] σ := by
  rw [b_isIn] at h
  refine zs_aload_n hX dX13_isIn_0 rfl rfl ?_
  refine zs_iload_n hX dX13_isIn_1 rfl rfl ?_
  obtain ⟨r3, s1, e2, h⟩ := zci_e h
  refine zc_real hX dX13_isIn_2 (Nat.le_of_ble_eq_true rfl) (hc _ _ _ _ e2) (fun r9 u9 h9 => ?_)
  cases h9
  refine zs_istore_n hX dX13_isIn_5 rfl (by decide) rfl ?_
  dsimp only [List.set]
  refine zs_iload_n hX dX13_isIn_6 rfl rfl ?_
  refine zs_iload_n hX dX13_isIn_7 rfl rfl ?_
  refine zs_icmp_ne (tgt := 13) hX dX13_isIn_8 (by decide) (fun c4 => ?_) (fun c4 => ?_)
  · rw [if_neg c4] at h
    refine zs_aload_n hX dX13_isIn_13 rfl rfl ?_
    refine zg_tKind hX dX13_isIn_14 ?_
    refine zs_iload_n hX dX13_isIn_17 rfl rfl ?_
    obtain ⟨b5, h⟩ := zgd_e h
    refine zl_tKind hX dX13_isIn_18 (zin_ok b5) ?_
    refine zs_iconst (v := 4) hX dX13_isIn_19 (by decide) ?_
    refine zs_icmp_ne (tgt := 36) hX dX13_isIn_20 (by decide) (fun c6 => ?_) (fun c6 => ?_)
    · rw [if_neg c6] at h
      refine zs_iconst (v := 0) hX dX13_isIn_36 (by decide) ?_
      exact zs_zret hX dX13_isIn_37 rfl (by decide) (Option.some.inj h)
    · rw [if_pos c6] at h
      refine zs_aload_n hX dX13_isIn_23 rfl rfl ?_
      refine zg_tSeen hX dX13_isIn_24 ?_
      refine zs_iload_n hX dX13_isIn_27 rfl rfl ?_
      obtain ⟨b7, h⟩ := zgd_e h
      refine zl_tSeen hX dX13_isIn_28 (zin_ok b7) ?_
      refine zs_aload_n hX dX13_isIn_29 rfl rfl ?_
      refine zg_looks hX dX13_isIn_30 ?_
      refine zs_icmp_ne (tgt := 38) hX dX13_isIn_33 (by decide) (fun c8 => ?_) (fun c8 => ?_)
      · rw [if_neg c8] at h
        refine zs_aload_n hX dX13_isIn_38 rfl rfl ?_
        refine zg_tSeen hX dX13_isIn_39 ?_
        refine zs_iload_n hX dX13_isIn_42 rfl rfl ?_
        refine zs_aload_n hX dX13_isIn_43 rfl rfl ?_
        refine zg_looks hX dX13_isIn_44 ?_
        obtain ⟨b9, h⟩ := zgd_e h
        obtain ⟨s10, e11, h⟩ := zlet_e h
        refine zt_tSeen hX dX13_isIn_47 (zin_ok b9) ?_
        rw [← e11]
        refine zs_aload_n hX dX13_isIn_48 rfl rfl ?_
        refine zs_iload_n hX dX13_isIn_49 rfl rfl ?_
        refine zs_aload_n hX dX13_isIn_50 rfl rfl ?_
        refine zg_tLeft hX dX13_isIn_51 ?_
        refine zs_iload_n hX dX13_isIn_54 rfl rfl ?_
        obtain ⟨b12, h⟩ := zgd_e h
        refine zl_tLeft hX dX13_isIn_55 (zin_ok b12) ?_
        obtain ⟨r15, s13, e14, h⟩ := zci_e h
        refine zc_isIn hX dX13_isIn_56 (Nat.le_of_ble_eq_true rfl) (hc _ _ _ _ e14) (fun r9 u9 h9 => ?_)
        cases h9
        refine zs_if_ne (tgt := 76) hX dX13_isIn_59 (by decide) (fun c16 => ?_) (fun c16 => ?_)
        · rw [if_neg c16] at h
          refine zs_weak hX (lw := [none, none, none, none]) trivial ?_
          exact pj_isIn_76 hX hc h
        · rw [if_pos c16] at h
          refine zs_aload_n hX dX13_isIn_62 rfl rfl ?_
          refine zs_iload_n hX dX13_isIn_63 rfl rfl ?_
          refine zs_aload_n hX dX13_isIn_64 rfl rfl ?_
          refine zg_tRight hX dX13_isIn_65 ?_
          refine zs_iload_n hX dX13_isIn_68 rfl rfl ?_
          obtain ⟨b17, h⟩ := zgd_e h
          refine zl_tRight hX dX13_isIn_69 (zin_ok b17) ?_
          obtain ⟨r20, s18, e19, h⟩ := zci_e h
          refine zc_isIn hX dX13_isIn_70 (Nat.le_of_ble_eq_true rfl) (hc _ _ _ _ e19) (fun r9 u9 h9 => ?_)
          cases h9
          refine zs_if_eq (tgt := 80) hX dX13_isIn_73 (by decide) (fun c21 => ?_) (fun c21 => ?_)
          · rw [if_pos c21] at h
            refine zs_iconst (v := 0) hX dX13_isIn_80 (by decide) ?_
            exact zs_zret hX dX13_isIn_81 rfl (by decide) (Option.some.inj h)
          · rw [if_neg c21] at h
            refine zs_weak hX (lw := [none, none, none, none]) trivial ?_
            exact pj_isIn_76 hX hc h
      · rw [if_pos c8] at h
        refine zs_iconst (v := 0) hX dX13_isIn_36 (by decide) ?_
        exact zs_zret hX dX13_isIn_37 rfl (by decide) (Option.some.inj h)
  · rw [if_pos c4] at h
    refine zs_iconst (v := 1) hX dX13_isIn_11 (by decide) ?_
    exact zs_zret hX dX13_isIn_12 rfl (by decide) (Option.some.inj h)
def j_join_186 (n : Nat) (call : zCl) (h0 : Nat) (qs : List Nat) (ks : Nat → Nat) (x3 : Int32) (x4 : Int32) (σ : zSt) : zRs :=
  zci (call 42 [.ref h0, .int x3] σ) fun r3 s1 =>
  zci (call 42 [.ref h0, .int x4] s1) fun r6 s4 =>
  if r3 = r6 then
    some (some (.int 1), s4)
  else
    zci (call 42 [.ref h0, .int x3] s4) fun r10 s8 =>
    zci (call 42 [.ref h0, .int x4] s8) fun r13 s11 =>
    zgd (zin r10 9000) (zlet (zA s11 37 (upd (s11.2.2.1 37) (r10).toNatClampNeg r13)) fun s15 =>
    some (some (.int 1), s15))
def j_join_105 (n : Nat) (call : zCl) (h0 : Nat) (qs : List Nat) (ks : Nat → Nat) (x5 : Int32) (x6 : Int32) (σ : zSt) : zRs :=
  zgd (zin x5 9000) (zlet (zA σ 37 (upd (σ.2.2.1 37) (x5).toNatClampNeg x6)) fun s2 =>
  some (some (.int 1), s2))
def j_join_69 (n : Nat) (call : zCl) (h0 : Nat) (qs : List Nat) (ks : Nat → Nat) (x5 : Int32) (t0 : Int32) (σ : zSt) : zRs :=
  zlet (zI σ 60 ((σ.1 60) + 1)) fun s1 =>
  zgd (zin t0 9000) (
  if (s1.2.2.1 34 (t0).toNatClampNeg) = 4 then
    zci (call 43 [.ref h0, .int x5, .int t0] s1) fun r7 s5 =>
    if r7 = 0 then
      j_join_105 n call h0 qs ks x5 t0 s5
    else
      some (some (.int 0), s5)
  else
    j_join_105 n call h0 qs ks x5 t0 s1)
def j_join_55 (n : Nat) (call : zCl) (h0 : Nat) (qs : List Nat) (ks : Nat → Nat) (x3 : Int32) (x4 : Int32) (t0 : Int32) (σ : zSt) : zRs :=
  if t0 = x3 then
    j_join_69 n call h0 qs ks t0 x4 σ
  else
    j_join_69 n call h0 qs ks t0 x3 σ
def j_join_40 (n : Nat) (call : zCl) (h0 : Nat) (qs : List Nat) (ks : Nat → Nat) (x3 : Int32) (x4 : Int32) (σ : zSt) : zRs :=
  zgd (zin x3 9000) (
  if (σ.2.2.1 34 (x3).toNatClampNeg) = 0 then
    j_join_55 n call h0 qs ks x3 x4 x3 σ
  else
    j_join_55 n call h0 qs ks x3 x4 x4 σ)
def b_join (n : Nat) (call : zCl) (h0 : Nat) (qs : List Nat) (ks : Nat → Nat) (x1 : Int32) (x2 : Int32) (σ : zSt) : zRs :=
  zci (call 42 [.ref h0, .int x1] σ) fun r3 s1 =>
  zci (call 42 [.ref h0, .int x2] s1) fun r6 s4 =>
  if r3 = r6 then
    some (some (.int 1), s4)
  else
    zgd (zin r3 9000) (
    if (s4.2.2.1 34 (r3).toNatClampNeg) = 0 then
      j_join_40 n call h0 qs ks r3 r6 s4
    else
      zgd (zin r6 9000) (
      if (s4.2.2.1 34 (r6).toNatClampNeg) = 0 then
        j_join_40 n call h0 qs ks r3 r6 s4
      else
        zgd (zin r3 9000) (
        zgd (zin r6 9000) (
        if (s4.2.2.1 34 (r3).toNatClampNeg) = (s4.2.2.1 34 (r6).toNatClampNeg) then
          zgd (zin r3 9000) (
          if (s4.2.2.1 34 (r3).toNatClampNeg) = 4 then
            zgd (zin r3 9000) (
            zgd (zin r6 9000) (
            zci (call 44 [.ref h0, .int (s4.2.2.1 35 (r3).toNatClampNeg), .int (s4.2.2.1 35 (r6).toNatClampNeg)] s4) fun r21 s19 =>
            if r21 = 0 then
              some (some (.int 0), s19)
            else
              zgd (zin r3 9000) (
              zgd (zin r6 9000) (
              zci (call 44 [.ref h0, .int (s19.2.2.1 36 (r3).toNatClampNeg), .int (s19.2.2.1 36 (r6).toNatClampNeg)] s19) fun r27 s25 =>
              if r27 = 0 then
                some (some (.int 0), s25)
              else
                j_join_186 n call h0 qs ks r3 r6 s25))))
          else
            j_join_186 n call h0 qs ks r3 r6 s4)
        else
          some (some (.int 0), s4)))))
set_option maxHeartbeats 4000000 in
theorem pj_join_186 {h0 : Nat} {qs : List Nat} {ks : Nat → Nat} {n : Nat} {call : zCl} {kc : Nat → List Value → zSt → (Option Value → zSt → Prop) → Prop} {v : Option Value × zSt} {X : Nat → zLv → List Value → zSt → Prop} (hX : zSem cX13_join 7 (some .boolean) h0 qs ks kc (fun r u => (r, u) = v) X) (hc : ∀ j av s w, call j av s = some w → kc j av s (fun r u => (r, u) = w)) {x3 : Int32} {x4 : Int32} {σ : zSt} (h : j_join_186 n call h0 qs ks x3 x4 σ = some v) : X 186 [some (.ref h0), none, none, some (.int x3), some (.int x4), none, none] [] σ := by
  rw [j_join_186] at h
  refine zs_aload_n hX dX13_join_186 rfl rfl ?_
  refine zs_iload_n hX dX13_join_187 rfl rfl ?_
  obtain ⟨r3, s1, e2, h⟩ := zci_e h
  refine zc_real hX dX13_join_188 (Nat.le_of_ble_eq_true rfl) (hc _ _ _ _ e2) (fun r9 u9 h9 => ?_)
  cases h9
  refine zs_aload_n hX dX13_join_191 rfl rfl ?_
  refine zs_iload hX dX13_join_192 rfl ?_
  obtain ⟨r6, s4, e5, h⟩ := zci_e h
  refine zc_real hX dX13_join_194 (Nat.le_of_ble_eq_true rfl) (hc _ _ _ _ e5) (fun r9 u9 h9 => ?_)
  cases h9
  refine zs_icmp_eq (tgt := 216) hX dX13_join_197 (by decide) (fun c7 => ?_) (fun c7 => ?_)
  · rw [if_pos c7] at h
    refine zs_iconst (v := 1) hX dX13_join_216 (by decide) ?_
    exact zs_zret hX dX13_join_217 rfl (by decide) (Option.some.inj h)
  · rw [if_neg c7] at h
    refine zs_aload_n hX dX13_join_200 rfl rfl ?_
    refine zg_tLink hX dX13_join_201 ?_
    refine zs_aload_n hX dX13_join_204 rfl rfl ?_
    refine zs_iload_n hX dX13_join_205 rfl rfl ?_
    obtain ⟨r10, s8, e9, h⟩ := zci_e h
    refine zc_real hX dX13_join_206 (Nat.le_of_ble_eq_true rfl) (hc _ _ _ _ e9) (fun r9 u9 h9 => ?_)
    cases h9
    refine zs_aload_n hX dX13_join_209 rfl rfl ?_
    refine zs_iload hX dX13_join_210 rfl ?_
    obtain ⟨r13, s11, e12, h⟩ := zci_e h
    refine zc_real hX dX13_join_212 (Nat.le_of_ble_eq_true rfl) (hc _ _ _ _ e12) (fun r9 u9 h9 => ?_)
    cases h9
    obtain ⟨b14, h⟩ := zgd_e h
    obtain ⟨s15, e16, h⟩ := zlet_e h
    refine zt_tLink hX dX13_join_215 (zin_ok b14) ?_
    rw [← e16]
    refine zs_iconst (v := 1) hX dX13_join_216 (by decide) ?_
    exact zs_zret hX dX13_join_217 rfl (by decide) (Option.some.inj h)
set_option maxHeartbeats 4000000 in
theorem pj_join_105 {h0 : Nat} {qs : List Nat} {ks : Nat → Nat} {n : Nat} {call : zCl} {kc : Nat → List Value → zSt → (Option Value → zSt → Prop) → Prop} {v : Option Value × zSt} {X : Nat → zLv → List Value → zSt → Prop} (hX : zSem cX13_join 7 (some .boolean) h0 qs ks kc (fun r u => (r, u) = v) X) (hc : ∀ j av s w, call j av s = some w → kc j av s (fun r u => (r, u) = w)) {x5 : Int32} {x6 : Int32} {σ : zSt} (h : j_join_105 n call h0 qs ks x5 x6 σ = some v) : X 105 [some (.ref h0), none, none, none, none, some (.int x5), some (.int x6)] [] σ := by
  rw [j_join_105] at h
  refine zs_aload_n hX dX13_join_105 rfl rfl ?_
  refine zg_tLink hX dX13_join_106 ?_
  refine zs_iload hX dX13_join_109 rfl ?_
  refine zs_iload hX dX13_join_111 rfl ?_
  obtain ⟨b1, h⟩ := zgd_e h
  obtain ⟨s2, e3, h⟩ := zlet_e h
  refine zt_tLink hX dX13_join_113 (zin_ok b1) ?_
  rw [← e3]
  refine zs_iconst (v := 1) hX dX13_join_114 (by decide) ?_
  exact zs_zret hX dX13_join_115 rfl (by decide) (Option.some.inj h)
set_option maxHeartbeats 4000000 in
theorem pj_join_69 {h0 : Nat} {qs : List Nat} {ks : Nat → Nat} {n : Nat} {call : zCl} {kc : Nat → List Value → zSt → (Option Value → zSt → Prop) → Prop} {v : Option Value × zSt} {X : Nat → zLv → List Value → zSt → Prop} (hX : zSem cX13_join 7 (some .boolean) h0 qs ks kc (fun r u => (r, u) = v) X) (hc : ∀ j av s w, call j av s = some w → kc j av s (fun r u => (r, u) = w)) {x5 : Int32} {t0 : Int32} {σ : zSt} (h : j_join_69 n call h0 qs ks x5 t0 σ = some v) : X 69 [some (.ref h0), none, none, none, none, some (.int x5), none] [.int t0] σ := by
  rw [j_join_69] at h
  refine zs_istore hX dX13_join_69 (by decide) rfl ?_
  dsimp only [List.set]
  refine zs_aload_n hX dX13_join_71 rfl rfl ?_
  refine zs_dup hX dX13_join_72 rfl ?_
  refine zg_looks hX dX13_join_73 ?_
  refine zs_iconst (v := 1) hX dX13_join_76 (by decide) ?_
  refine zs_iadd hX dX13_join_77 ?_
  obtain ⟨s1, e2, h⟩ := zlet_e h
  refine zp_looks hX dX13_join_78 ?_
  rw [← e2]
  refine zs_aload_n hX dX13_join_81 rfl rfl ?_
  refine zg_tKind hX dX13_join_82 ?_
  refine zs_iload hX dX13_join_85 rfl ?_
  obtain ⟨b3, h⟩ := zgd_e h
  refine zl_tKind hX dX13_join_87 (zin_ok b3) ?_
  refine zs_iconst (v := 4) hX dX13_join_88 (by decide) ?_
  refine zs_icmp_ne (tgt := 105) hX dX13_join_89 (by decide) (fun c4 => ?_) (fun c4 => ?_)
  · rw [if_neg c4] at h
    exact pj_join_105 hX hc h
  · rw [if_pos c4] at h
    refine zs_aload_n hX dX13_join_92 rfl rfl ?_
    refine zs_iload hX dX13_join_93 rfl ?_
    refine zs_iload hX dX13_join_95 rfl ?_
    obtain ⟨r7, s5, e6, h⟩ := zci_e h
    refine zc_isIn hX dX13_join_97 (Nat.le_of_ble_eq_true rfl) (hc _ _ _ _ e6) (fun r9 u9 h9 => ?_)
    cases h9
    refine zs_if_eq (tgt := 105) hX dX13_join_100 (by decide) (fun c8 => ?_) (fun c8 => ?_)
    · rw [if_pos c8] at h
      exact pj_join_105 hX hc h
    · rw [if_neg c8] at h
      refine zs_iconst (v := 0) hX dX13_join_103 (by decide) ?_
      exact zs_zret hX dX13_join_104 rfl (by decide) (Option.some.inj h)
set_option maxHeartbeats 4000000 in
theorem pj_join_55 {h0 : Nat} {qs : List Nat} {ks : Nat → Nat} {n : Nat} {call : zCl} {kc : Nat → List Value → zSt → (Option Value → zSt → Prop) → Prop} {v : Option Value × zSt} {X : Nat → zLv → List Value → zSt → Prop} (hX : zSem cX13_join 7 (some .boolean) h0 qs ks kc (fun r u => (r, u) = v) X) (hc : ∀ j av s w, call j av s = some w → kc j av s (fun r u => (r, u) = w)) {x3 : Int32} {x4 : Int32} {t0 : Int32} {σ : zSt} (h : j_join_55 n call h0 qs ks x3 x4 t0 σ = some v) : X 55 [some (.ref h0), none, none, some (.int x3), some (.int x4), none, none] [.int t0] σ := by
  rw [j_join_55] at h
  refine zs_istore hX dX13_join_55 (by decide) rfl ?_
  dsimp only [List.set]
  refine zs_iload hX dX13_join_57 rfl ?_
  refine zs_iload_n hX dX13_join_59 rfl rfl ?_
  refine zs_icmp_ne (tgt := 68) hX dX13_join_60 (by decide) (fun c1 => ?_) (fun c1 => ?_)
  · rw [if_neg c1] at h
    refine zs_iload_n hX dX13_join_68 rfl rfl ?_
    refine zs_weak hX (lw := [some (.ref h0), none, none, none, none, some (.int t0), none]) ⟨rfl, rfl, trivial⟩ ?_
    exact pj_join_69 hX hc h
  · rw [if_pos c1] at h
    refine zs_iload hX dX13_join_63 rfl ?_
    refine zs_goto (tgt := 69) hX dX13_join_65 (by decide) ?_
    refine zs_weak hX (lw := [some (.ref h0), none, none, none, none, some (.int t0), none]) ⟨rfl, rfl, trivial⟩ ?_
    exact pj_join_69 hX hc h
set_option maxHeartbeats 4000000 in
theorem pj_join_40 {h0 : Nat} {qs : List Nat} {ks : Nat → Nat} {n : Nat} {call : zCl} {kc : Nat → List Value → zSt → (Option Value → zSt → Prop) → Prop} {v : Option Value × zSt} {X : Nat → zLv → List Value → zSt → Prop} (hX : zSem cX13_join 7 (some .boolean) h0 qs ks kc (fun r u => (r, u) = v) X) (hc : ∀ j av s w, call j av s = some w → kc j av s (fun r u => (r, u) = w)) {x3 : Int32} {x4 : Int32} {σ : zSt} (h : j_join_40 n call h0 qs ks x3 x4 σ = some v) : X 40 [some (.ref h0), none, none, some (.int x3), some (.int x4), none, none] [] σ := by
  rw [j_join_40] at h
  refine zs_aload_n hX dX13_join_40 rfl rfl ?_
  refine zg_tKind hX dX13_join_41 ?_
  refine zs_iload_n hX dX13_join_44 rfl rfl ?_
  obtain ⟨b1, h⟩ := zgd_e h
  refine zl_tKind hX dX13_join_45 (zin_ok b1) ?_
  refine zs_if_ne (tgt := 53) hX dX13_join_46 (by decide) (fun c2 => ?_) (fun c2 => ?_)
  · rw [if_neg c2] at h
    refine zs_iload hX dX13_join_53 rfl ?_
    exact pj_join_55 hX hc h
  · rw [if_pos c2] at h
    refine zs_iload_n hX dX13_join_49 rfl rfl ?_
    refine zs_goto (tgt := 55) hX dX13_join_50 (by decide) ?_
    exact pj_join_55 hX hc h
set_option maxHeartbeats 4000000 in
theorem pb_join {h0 : Nat} {qs : List Nat} {ks : Nat → Nat} {n : Nat} {call : zCl} {kc : Nat → List Value → zSt → (Option Value → zSt → Prop) → Prop} {v : Option Value × zSt} {X : Nat → zLv → List Value → zSt → Prop} (hX : zSem cX13_join 7 (some .boolean) h0 qs ks kc (fun r u => (r, u) = v) X) (hc : ∀ j av s w, call j av s = some w → kc j av s (fun r u => (r, u) = w)) {x1 : Int32} {x2 : Int32} {σ : zSt} (h : b_join n call h0 qs ks x1 x2 σ = some v) : X 0 [some (.ref h0), some (.int x1), some (.int x2), none, none, none, none] [] σ := by
  rw [b_join] at h
  refine zs_aload_n hX dX13_join_0 rfl rfl ?_
  refine zs_iload_n hX dX13_join_1 rfl rfl ?_
  obtain ⟨r3, s1, e2, h⟩ := zci_e h
  refine zc_real hX dX13_join_2 (Nat.le_of_ble_eq_true rfl) (hc _ _ _ _ e2) (fun r9 u9 h9 => ?_)
  cases h9
  refine zs_istore_n hX dX13_join_5 rfl (by decide) rfl ?_
  dsimp only [List.set]
  refine zs_aload_n hX dX13_join_6 rfl rfl ?_
  refine zs_iload_n hX dX13_join_7 rfl rfl ?_
  obtain ⟨r6, s4, e5, h⟩ := zci_e h
  refine zc_real hX dX13_join_8 (Nat.le_of_ble_eq_true rfl) (hc _ _ _ _ e5) (fun r9 u9 h9 => ?_)
  cases h9
  refine zs_istore hX dX13_join_11 (by decide) rfl ?_
  dsimp only [List.set]
  refine zs_iload_n hX dX13_join_13 rfl rfl ?_
  refine zs_iload hX dX13_join_14 rfl ?_
  refine zs_icmp_ne (tgt := 21) hX dX13_join_16 (by decide) (fun c7 => ?_) (fun c7 => ?_)
  · rw [if_neg c7] at h
    refine zs_aload_n hX dX13_join_21 rfl rfl ?_
    refine zg_tKind hX dX13_join_22 ?_
    refine zs_iload_n hX dX13_join_25 rfl rfl ?_
    obtain ⟨b8, h⟩ := zgd_e h
    refine zl_tKind hX dX13_join_26 (zin_ok b8) ?_
    refine zs_if_eq (tgt := 40) hX dX13_join_27 (by decide) (fun c9 => ?_) (fun c9 => ?_)
    · rw [if_pos c9] at h
      refine zs_weak hX (lw := [some (.ref h0), none, none, some (.int r3), some (.int r6), none, none]) ⟨rfl, rfl, rfl, trivial⟩ ?_
      exact pj_join_40 hX hc h
    · rw [if_neg c9] at h
      refine zs_aload_n hX dX13_join_30 rfl rfl ?_
      refine zg_tKind hX dX13_join_31 ?_
      refine zs_iload hX dX13_join_34 rfl ?_
      obtain ⟨b10, h⟩ := zgd_e h
      refine zl_tKind hX dX13_join_36 (zin_ok b10) ?_
      refine zs_if_ne (tgt := 116) hX dX13_join_37 (by decide) (fun c11 => ?_) (fun c11 => ?_)
      · rw [if_neg c11] at h
        refine zs_aload_n hX dX13_join_116 rfl rfl ?_
        refine zg_tKind hX dX13_join_117 ?_
        refine zs_iload_n hX dX13_join_120 rfl rfl ?_
        obtain ⟨b12, h⟩ := zgd_e h
        refine zl_tKind hX dX13_join_121 (zin_ok b12) ?_
        refine zs_aload_n hX dX13_join_122 rfl rfl ?_
        refine zg_tKind hX dX13_join_123 ?_
        refine zs_iload hX dX13_join_126 rfl ?_
        obtain ⟨b13, h⟩ := zgd_e h
        refine zl_tKind hX dX13_join_128 (zin_ok b13) ?_
        refine zs_icmp_eq (tgt := 134) hX dX13_join_129 (by decide) (fun c14 => ?_) (fun c14 => ?_)
        · rw [if_pos c14] at h
          refine zs_aload_n hX dX13_join_134 rfl rfl ?_
          refine zg_tKind hX dX13_join_135 ?_
          refine zs_iload_n hX dX13_join_138 rfl rfl ?_
          obtain ⟨b15, h⟩ := zgd_e h
          refine zl_tKind hX dX13_join_139 (zin_ok b15) ?_
          refine zs_iconst (v := 4) hX dX13_join_140 (by decide) ?_
          refine zs_icmp_ne (tgt := 186) hX dX13_join_141 (by decide) (fun c16 => ?_) (fun c16 => ?_)
          · rw [if_neg c16] at h
            refine zs_weak hX (lw := [some (.ref h0), none, none, some (.int r3), some (.int r6), none, none]) ⟨rfl, rfl, rfl, trivial⟩ ?_
            exact pj_join_186 hX hc h
          · rw [if_pos c16] at h
            refine zs_aload_n hX dX13_join_144 rfl rfl ?_
            refine zs_aload_n hX dX13_join_145 rfl rfl ?_
            refine zg_tLeft hX dX13_join_146 ?_
            refine zs_iload_n hX dX13_join_149 rfl rfl ?_
            obtain ⟨b17, h⟩ := zgd_e h
            refine zl_tLeft hX dX13_join_150 (zin_ok b17) ?_
            refine zs_aload_n hX dX13_join_151 rfl rfl ?_
            refine zg_tLeft hX dX13_join_152 ?_
            refine zs_iload hX dX13_join_155 rfl ?_
            obtain ⟨b18, h⟩ := zgd_e h
            refine zl_tLeft hX dX13_join_157 (zin_ok b18) ?_
            obtain ⟨r21, s19, e20, h⟩ := zci_e h
            refine zc_join hX dX13_join_158 (Nat.le_of_ble_eq_true rfl) (hc _ _ _ _ e20) (fun r9 u9 h9 => ?_)
            cases h9
            refine zs_if_eq (tgt := 184) hX dX13_join_161 (by decide) (fun c22 => ?_) (fun c22 => ?_)
            · rw [if_pos c22] at h
              refine zs_iconst (v := 0) hX dX13_join_184 (by decide) ?_
              exact zs_zret hX dX13_join_185 rfl (by decide) (Option.some.inj h)
            · rw [if_neg c22] at h
              refine zs_aload_n hX dX13_join_164 rfl rfl ?_
              refine zs_aload_n hX dX13_join_165 rfl rfl ?_
              refine zg_tRight hX dX13_join_166 ?_
              refine zs_iload_n hX dX13_join_169 rfl rfl ?_
              obtain ⟨b23, h⟩ := zgd_e h
              refine zl_tRight hX dX13_join_170 (zin_ok b23) ?_
              refine zs_aload_n hX dX13_join_171 rfl rfl ?_
              refine zg_tRight hX dX13_join_172 ?_
              refine zs_iload hX dX13_join_175 rfl ?_
              obtain ⟨b24, h⟩ := zgd_e h
              refine zl_tRight hX dX13_join_177 (zin_ok b24) ?_
              obtain ⟨r27, s25, e26, h⟩ := zci_e h
              refine zc_join hX dX13_join_178 (Nat.le_of_ble_eq_true rfl) (hc _ _ _ _ e26) (fun r9 u9 h9 => ?_)
              cases h9
              refine zs_if_ne (tgt := 186) hX dX13_join_181 (by decide) (fun c28 => ?_) (fun c28 => ?_)
              · rw [if_neg c28] at h
                refine zs_weak hX (lw := [some (.ref h0), none, none, some (.int r3), some (.int r6), none, none]) ⟨rfl, rfl, rfl, trivial⟩ ?_
                exact pj_join_186 hX hc h
              · rw [if_pos c28] at h
                refine zs_iconst (v := 0) hX dX13_join_184 (by decide) ?_
                exact zs_zret hX dX13_join_185 rfl (by decide) (Option.some.inj h)
        · rw [if_neg c14] at h
          refine zs_iconst (v := 0) hX dX13_join_132 (by decide) ?_
          exact zs_zret hX dX13_join_133 rfl (by decide) (Option.some.inj h)
      · rw [if_pos c11] at h
        refine zs_weak hX (lw := [some (.ref h0), none, none, some (.int r3), some (.int r6), none, none]) ⟨rfl, rfl, rfl, trivial⟩ ?_
        exact pj_join_40 hX hc h
  · rw [if_pos c7] at h
    refine zs_iconst (v := 1) hX dX13_join_19 (by decide) ?_
    exact zs_zret hX dX13_join_20 rfl (by decide) (Option.some.inj h)
def b_mustBe (n : Nat) (call : zCl) (h0 : Nat) (qs : List Nat) (ks : Nat → Nat) (x1 : Int32) (x2 : Int32) (x3 : Int32) (σ : zSt) : zRs :=
  if (σ.1 11) = 0 then
    zci (call 40 [.ref h0, .int x2, .int (-1), .int (-1)] σ) fun r4 s2 =>
    zci (call 44 [.ref h0, .int x1, .int r4] s2) fun r7 s5 =>
    if r7 = 0 then
      zcv (call 3 [.ref h0, .int 4, .int x3] s5) fun s9 =>
      some (none, s9)
    else
      some (none, s5)
  else
    some (none, σ)
set_option maxHeartbeats 4000000 in
theorem pb_mustBe {h0 : Nat} {qs : List Nat} {ks : Nat → Nat} {n : Nat} {call : zCl} {kc : Nat → List Value → zSt → (Option Value → zSt → Prop) → Prop} {v : Option Value × zSt} {X : Nat → zLv → List Value → zSt → Prop} (hX : zSem cX13_mustBe 4 none h0 qs ks kc (fun r u => (r, u) = v) X) (hc : ∀ j av s w, call j av s = some w → kc j av s (fun r u => (r, u) = w)) {x1 : Int32} {x2 : Int32} {x3 : Int32} {σ : zSt} (h : b_mustBe n call h0 qs ks x1 x2 x3 σ = some v) : X 0 [some (.ref h0), some (.int x1), some (.int x2), some (.int x3)] [] σ := by
  rw [b_mustBe] at h
  refine zs_aload_n hX dX13_mustBe_0 rfl rfl ?_
  refine zg_bad hX dX13_mustBe_1 ?_
  refine zs_if_ne (tgt := 28) hX dX13_mustBe_4 (by decide) (fun c1 => ?_) (fun c1 => ?_)
  · rw [if_neg c1] at h
    exact zs_vret hX dX13_mustBe_28 rfl (Option.some.inj h)
  · rw [if_pos c1] at h
    refine zs_aload_n hX dX13_mustBe_7 rfl rfl ?_
    refine zs_iload_n hX dX13_mustBe_8 rfl rfl ?_
    refine zs_aload_n hX dX13_mustBe_9 rfl rfl ?_
    refine zs_iload_n hX dX13_mustBe_10 rfl rfl ?_
    refine zs_iconst (v := (-1)) hX dX13_mustBe_11 (by decide) ?_
    refine zs_iconst (v := (-1)) hX dX13_mustBe_12 (by decide) ?_
    obtain ⟨r4, s2, e3, h⟩ := zci_e h
    refine zc_newType hX dX13_mustBe_13 (Nat.le_of_ble_eq_true rfl) (hc _ _ _ _ e3) (fun r9 u9 h9 => ?_)
    cases h9
    obtain ⟨r7, s5, e6, h⟩ := zci_e h
    refine zc_join hX dX13_mustBe_16 (Nat.le_of_ble_eq_true rfl) (hc _ _ _ _ e6) (fun r9 u9 h9 => ?_)
    cases h9
    refine zs_if_ne (tgt := 28) hX dX13_mustBe_19 (by decide) (fun c8 => ?_) (fun c8 => ?_)
    · rw [if_neg c8] at h
      exact zs_vret hX dX13_mustBe_28 rfl (Option.some.inj h)
    · rw [if_pos c8] at h
      refine zs_aload_n hX dX13_mustBe_22 rfl rfl ?_
      refine zs_iconst (v := 4) hX dX13_mustBe_23 (by decide) ?_
      refine zs_iload_n hX dX13_mustBe_24 rfl rfl ?_
      obtain ⟨s9, e10, h⟩ := zcv_e h
      refine zc_fault hX dX13_mustBe_25 (Nat.le_of_ble_eq_true rfl) (hc _ _ _ _ e10) (fun u9 h9 => ?_)
      cases h9
      exact zs_vret hX dX13_mustBe_28 rfl (Option.some.inj h)
def j_typesOfSum_86 (n : Nat) (call : zCl) (h0 : Nat) (qs : List Nat) (ks : Nat → Nat) (k7 : Int32 → Int32 → zSt → zRs) (x1 : Int32) (x2 : Int32) (σ : zSt) : zRs :=
  k7 x1 (x2 + 1) σ
def j_typesOfSum_72 (n : Nat) (call : zCl) (h0 : Nat) (qs : List Nat) (ks : Nat → Nat) (k7 : Int32 → Int32 → zSt → zRs) (x1 : Int32) (x2 : Int32) (t1 : Int32) (t2 : Int32) (σ : zSt) : zRs :=
  zgd (zin x2 2100) (
  zgd (zin (σ.2.2.1 18 (x2).toNatClampNeg) 2010) (
  zcv (call 45 [.ref h0, .int t1, .int t2, .int (σ.2.2.1 4 ((σ.2.2.1 18 (x2).toNatClampNeg)).toNatClampNeg)] σ) fun s3 =>
  j_typesOfSum_86 n call h0 qs ks k7 x1 x2 s3))
def l_typesOfSum_7 (n : Nat) (call : zCl) (h0 : Nat) (qs : List Nat) (ks : Nat → Nat) : Nat → Int32 → Int32 → zSt → zRs
  | 0, _, _, _ => none
  | f + 1, x1, x2, σ =>
    zgd (zin x1 2100) (
    if (σ.2.2.1 14 (x1).toNatClampNeg) ≤ x2 then
      some (none, σ)
    else
      zgd (zin x2 2100) (
      if (σ.2.2.1 16 (x2).toNatClampNeg) ≤ 0 then
        j_typesOfSum_86 n call h0 qs ks (l_typesOfSum_7 n call h0 qs ks f) x1 x2 σ
      else
        zgd (zin x2 2100) (
        zgd (zin (σ.2.2.1 18 (x2).toNatClampNeg) 2010) (
        zgd (zin (σ.2.2.1 32 ((σ.2.2.1 18 (x2).toNatClampNeg)).toNatClampNeg) 700) (
        zgd (zin x2 2100) (
        if (σ.2.2.1 16 (x2).toNatClampNeg) = 1 then
          j_typesOfSum_72 n call h0 qs ks (l_typesOfSum_7 n call h0 qs ks f) x1 x2 (σ.2.2.1 31 ((σ.2.2.1 32 ((σ.2.2.1 18 (x2).toNatClampNeg)).toNatClampNeg)).toNatClampNeg) 1 σ
        else
          zgd (zin x2 2100) (
          if (σ.2.2.1 16 (x2).toNatClampNeg) = 2 then
            j_typesOfSum_72 n call h0 qs ks (l_typesOfSum_7 n call h0 qs ks f) x1 x2 (σ.2.2.1 31 ((σ.2.2.1 32 ((σ.2.2.1 18 (x2).toNatClampNeg)).toNatClampNeg)).toNatClampNeg) 3 σ
          else
            j_typesOfSum_72 n call h0 qs ks (l_typesOfSum_7 n call h0 qs ks f) x1 x2 (σ.2.2.1 31 ((σ.2.2.1 32 ((σ.2.2.1 18 (x2).toNatClampNeg)).toNatClampNeg)).toNatClampNeg) 5 σ)))))))
def b_typesOfSum (n : Nat) (call : zCl) (h0 : Nat) (qs : List Nat) (ks : Nat → Nat) (x1 : Int32) (σ : zSt) : zRs :=
  zgd (zin x1 2100) (
  l_typesOfSum_7 n call h0 qs ks n x1 (σ.2.2.1 13 (x1).toNatClampNeg) σ)
set_option maxHeartbeats 4000000 in
theorem pj_typesOfSum_86 {h0 : Nat} {qs : List Nat} {ks : Nat → Nat} {n : Nat} {call : zCl} {kc : Nat → List Value → zSt → (Option Value → zSt → Prop) → Prop} {v : Option Value × zSt} {X : Nat → zLv → List Value → zSt → Prop} (hX : zSem cX13_typesOfSum 3 none h0 qs ks kc (fun r u => (r, u) = v) X) (hc : ∀ j av s w, call j av s = some w → kc j av s (fun r u => (r, u) = w)) {k7 : Int32 → Int32 → zSt → zRs} (hk7 : ∀ (x1 : Int32) (x2 : Int32) (s : zSt), k7 x1 x2 s = some v → X 7 [some (.ref h0), some (.int x1), some (.int x2)] [] s) {x1 : Int32} {x2 : Int32} {σ : zSt} (h : j_typesOfSum_86 n call h0 qs ks k7 x1 x2 σ = some v) : X 86 [some (.ref h0), some (.int x1), some (.int x2)] [] σ := by
  rw [j_typesOfSum_86] at h
  refine zs_iinc (v := x2 + 1) hX dX13_typesOfSum_86 rfl rfl (by decide) rfl ?_
  dsimp only [List.set]
  refine zs_goto (tgt := 7) hX dX13_typesOfSum_89 (by decide) ?_
  exact hk7 _ _ _ h
set_option maxHeartbeats 4000000 in
theorem pj_typesOfSum_72 {h0 : Nat} {qs : List Nat} {ks : Nat → Nat} {n : Nat} {call : zCl} {kc : Nat → List Value → zSt → (Option Value → zSt → Prop) → Prop} {v : Option Value × zSt} {X : Nat → zLv → List Value → zSt → Prop} (hX : zSem cX13_typesOfSum 3 none h0 qs ks kc (fun r u => (r, u) = v) X) (hc : ∀ j av s w, call j av s = some w → kc j av s (fun r u => (r, u) = w)) {k7 : Int32 → Int32 → zSt → zRs} (hk7 : ∀ (x1 : Int32) (x2 : Int32) (s : zSt), k7 x1 x2 s = some v → X 7 [some (.ref h0), some (.int x1), some (.int x2)] [] s) {x1 : Int32} {x2 : Int32} {t1 : Int32} {t2 : Int32} {σ : zSt} (h : j_typesOfSum_72 n call h0 qs ks k7 x1 x2 t1 t2 σ = some v) : X 72 [some (.ref h0), some (.int x1), some (.int x2)] [.int t2, .int t1, .ref h0] σ := by
  rw [j_typesOfSum_72] at h
  refine zs_aload_n hX dX13_typesOfSum_72 rfl rfl ?_
  refine zg_wAt hX dX13_typesOfSum_73 ?_
  refine zs_aload_n hX dX13_typesOfSum_76 rfl rfl ?_
  refine zg_pWord hX dX13_typesOfSum_77 ?_
  refine zs_iload_n hX dX13_typesOfSum_80 rfl rfl ?_
  obtain ⟨b1, h⟩ := zgd_e h
  refine zl_pWord hX dX13_typesOfSum_81 (zin_ok b1) ?_
  obtain ⟨b2, h⟩ := zgd_e h
  refine zl_wAt hX dX13_typesOfSum_82 (zin_ok b2) ?_
  obtain ⟨s3, e4, h⟩ := zcv_e h
  refine zc_mustBe hX dX13_typesOfSum_83 (Nat.le_of_ble_eq_true rfl) (hc _ _ _ _ e4) (fun u9 h9 => ?_)
  cases h9
  exact pj_typesOfSum_86 hX hc hk7 h
set_option maxHeartbeats 4000000 in
theorem pl_typesOfSum_7 {h0 : Nat} {qs : List Nat} {ks : Nat → Nat} {n : Nat} {call : zCl} {kc : Nat → List Value → zSt → (Option Value → zSt → Prop) → Prop} {v : Option Value × zSt} {X : Nat → zLv → List Value → zSt → Prop} (hX : zSem cX13_typesOfSum 3 none h0 qs ks kc (fun r u => (r, u) = v) X) (hc : ∀ j av s w, call j av s = some w → kc j av s (fun r u => (r, u) = w)) : ∀ (f : Nat) (x1 : Int32) (x2 : Int32) (σ : zSt), l_typesOfSum_7 n call h0 qs ks f x1 x2 σ = some v → X 7 [some (.ref h0), some (.int x1), some (.int x2)] [] σ := by
  intro f
  induction f with
  | zero => intro x1 x2 σ h; cases h
  | succ f hk7 =>
    intro x1 x2 σ h
    rw [l_typesOfSum_7] at h
    refine zs_iload_n hX dX13_typesOfSum_7 rfl rfl ?_
    refine zs_aload_n hX dX13_typesOfSum_8 rfl rfl ?_
    refine zg_sTo hX dX13_typesOfSum_9 ?_
    refine zs_iload_n hX dX13_typesOfSum_12 rfl rfl ?_
    obtain ⟨b1, h⟩ := zgd_e h
    refine zl_sTo hX dX13_typesOfSum_13 (zin_ok b1) ?_
    refine zs_icmp_ge (tgt := 92) hX dX13_typesOfSum_14 (by decide) (fun c2 => ?_) (fun c2 => ?_)
    · rw [if_pos c2] at h
      exact zs_vret hX dX13_typesOfSum_92 rfl (Option.some.inj h)
    · rw [if_neg c2] at h
      refine zs_aload_n hX dX13_typesOfSum_17 rfl rfl ?_
      refine zg_pKind hX dX13_typesOfSum_18 ?_
      refine zs_iload_n hX dX13_typesOfSum_21 rfl rfl ?_
      obtain ⟨b3, h⟩ := zgd_e h
      refine zl_pKind hX dX13_typesOfSum_22 (zin_ok b3) ?_
      refine zs_if_le (tgt := 86) hX dX13_typesOfSum_23 (by decide) (fun c4 => ?_) (fun c4 => ?_)
      · rw [if_pos c4] at h
        exact pj_typesOfSum_86 hX hc hk7 h
      · rw [if_neg c4] at h
        refine zs_aload_n hX dX13_typesOfSum_26 rfl rfl ?_
        refine zs_aload_n hX dX13_typesOfSum_27 rfl rfl ?_
        refine zg_dType hX dX13_typesOfSum_28 ?_
        refine zs_aload_n hX dX13_typesOfSum_31 rfl rfl ?_
        refine zg_whose hX dX13_typesOfSum_32 ?_
        refine zs_aload_n hX dX13_typesOfSum_35 rfl rfl ?_
        refine zg_pWord hX dX13_typesOfSum_36 ?_
        refine zs_iload_n hX dX13_typesOfSum_39 rfl rfl ?_
        obtain ⟨b5, h⟩ := zgd_e h
        refine zl_pWord hX dX13_typesOfSum_40 (zin_ok b5) ?_
        obtain ⟨b6, h⟩ := zgd_e h
        refine zl_whose hX dX13_typesOfSum_41 (zin_ok b6) ?_
        obtain ⟨b7, h⟩ := zgd_e h
        refine zl_dType hX dX13_typesOfSum_42 (zin_ok b7) ?_
        refine zs_aload_n hX dX13_typesOfSum_43 rfl rfl ?_
        refine zg_pKind hX dX13_typesOfSum_44 ?_
        refine zs_iload_n hX dX13_typesOfSum_47 rfl rfl ?_
        obtain ⟨b8, h⟩ := zgd_e h
        refine zl_pKind hX dX13_typesOfSum_48 (zin_ok b8) ?_
        refine zs_iconst (v := 1) hX dX13_typesOfSum_49 (by decide) ?_
        refine zs_icmp_ne (tgt := 57) hX dX13_typesOfSum_50 (by decide) (fun c9 => ?_) (fun c9 => ?_)
        · rw [if_neg c9] at h
          refine zs_aload_n hX dX13_typesOfSum_57 rfl rfl ?_
          refine zg_pKind hX dX13_typesOfSum_58 ?_
          refine zs_iload_n hX dX13_typesOfSum_61 rfl rfl ?_
          obtain ⟨b10, h⟩ := zgd_e h
          refine zl_pKind hX dX13_typesOfSum_62 (zin_ok b10) ?_
          refine zs_iconst (v := 2) hX dX13_typesOfSum_63 (by decide) ?_
          refine zs_icmp_ne (tgt := 71) hX dX13_typesOfSum_64 (by decide) (fun c11 => ?_) (fun c11 => ?_)
          · rw [if_neg c11] at h
            refine zs_iconst (v := 5) hX dX13_typesOfSum_71 (by decide) ?_
            exact pj_typesOfSum_72 hX hc hk7 h
          · rw [if_pos c11] at h
            refine zs_iconst (v := 3) hX dX13_typesOfSum_67 (by decide) ?_
            refine zs_goto (tgt := 72) hX dX13_typesOfSum_68 (by decide) ?_
            exact pj_typesOfSum_72 hX hc hk7 h
        · rw [if_pos c9] at h
          refine zs_iconst (v := 1) hX dX13_typesOfSum_53 (by decide) ?_
          refine zs_goto (tgt := 72) hX dX13_typesOfSum_54 (by decide) ?_
          exact pj_typesOfSum_72 hX hc hk7 h
set_option maxHeartbeats 4000000 in
theorem pb_typesOfSum {h0 : Nat} {qs : List Nat} {ks : Nat → Nat} {n : Nat} {call : zCl} {kc : Nat → List Value → zSt → (Option Value → zSt → Prop) → Prop} {v : Option Value × zSt} {X : Nat → zLv → List Value → zSt → Prop} (hX : zSem cX13_typesOfSum 3 none h0 qs ks kc (fun r u => (r, u) = v) X) (hc : ∀ j av s w, call j av s = some w → kc j av s (fun r u => (r, u) = w)) {x1 : Int32} {σ : zSt} (h : b_typesOfSum n call h0 qs ks x1 σ = some v) : X 0 [some (.ref h0), some (.int x1), none] [] σ := by
  rw [b_typesOfSum] at h
  refine zs_aload_n hX dX13_typesOfSum_0 rfl rfl ?_
  refine zg_sFrom hX dX13_typesOfSum_1 ?_
  refine zs_iload_n hX dX13_typesOfSum_4 rfl rfl ?_
  obtain ⟨b1, h⟩ := zgd_e h
  refine zl_sFrom hX dX13_typesOfSum_5 (zin_ok b1) ?_
  refine zs_istore_n hX dX13_typesOfSum_6 rfl (by decide) rfl ?_
  dsimp only [List.set]
  exact pl_typesOfSum_7 hX hc n _ _ _ h
def b_typesOfCondition (n : Nat) (call : zCl) (h0 : Nat) (qs : List Nat) (ks : Nat → Nat) (x1 : Int32) (σ : zSt) : zRs :=
  zgd (zin x1 2100) (
  if (σ.2.2.1 6 (x1).toNatClampNeg) = 20 then
    zgd (zin x1 2100) (
    zcv (call 47 [.ref h0, .int (σ.2.2.1 9 (x1).toNatClampNeg)] σ) fun s4 =>
    zgd (zin x1 2100) (
    zcv (call 47 [.ref h0, .int (s4.2.2.1 10 (x1).toNatClampNeg)] s4) fun s7 =>
    some (none, s7)))
  else
  if (σ.2.2.1 6 (x1).toNatClampNeg) = 21 then
    zgd (zin x1 2100) (
    zcv (call 47 [.ref h0, .int (σ.2.2.1 9 (x1).toNatClampNeg)] σ) fun s11 =>
    zgd (zin x1 2100) (
    zcv (call 47 [.ref h0, .int (s11.2.2.1 10 (x1).toNatClampNeg)] s11) fun s14 =>
    some (none, s14)))
  else
  if (σ.2.2.1 6 (x1).toNatClampNeg) = 22 then
    zgd (zin x1 2100) (
    zcv (call 47 [.ref h0, .int (σ.2.2.1 9 (x1).toNatClampNeg)] σ) fun s18 =>
    some (none, s18))
  else
  if (σ.2.2.1 6 (x1).toNatClampNeg) = 23 then
    some (none, σ)
  else
  if (σ.2.2.1 6 (x1).toNatClampNeg) = 24 then
    zgd (zin x1 2100) (
    zgd (zin (σ.2.2.1 9 (x1).toNatClampNeg) 2010) (
    zgd (zin (σ.2.2.1 32 ((σ.2.2.1 9 (x1).toNatClampNeg)).toNatClampNeg) 700) (
    zgd (zin x1 2100) (
    zgd (zin (σ.2.2.1 9 (x1).toNatClampNeg) 2010) (
    zcv (call 45 [.ref h0, .int (σ.2.2.1 31 ((σ.2.2.1 32 ((σ.2.2.1 9 (x1).toNatClampNeg)).toNatClampNeg)).toNatClampNeg), .int 2, .int (σ.2.2.1 4 ((σ.2.2.1 9 (x1).toNatClampNeg)).toNatClampNeg)] σ) fun s27 =>
    some (none, s27))))))
  else
  if (σ.2.2.1 6 (x1).toNatClampNeg) = 25 then
    zgd (zin x1 2100) (
    zcv (call 46 [.ref h0, .int (σ.2.2.1 9 (x1).toNatClampNeg)] σ) fun s31 =>
    zgd (zin x1 2100) (
    zcv (call 46 [.ref h0, .int (s31.2.2.1 10 (x1).toNatClampNeg)] s31) fun s34 =>
    some (none, s34)))
  else
  some (none, σ))
set_option maxHeartbeats 4000000 in
theorem pb_typesOfCondition {h0 : Nat} {qs : List Nat} {ks : Nat → Nat} {n : Nat} {call : zCl} {kc : Nat → List Value → zSt → (Option Value → zSt → Prop) → Prop} {v : Option Value × zSt} {X : Nat → zLv → List Value → zSt → Prop} (hX : zSem cX13_typesOfCondition 2 none h0 qs ks kc (fun r u => (r, u) = v) X) (hc : ∀ j av s w, call j av s = some w → kc j av s (fun r u => (r, u) = w)) {x1 : Int32} {σ : zSt} (h : b_typesOfCondition n call h0 qs ks x1 σ = some v) : X 0 [some (.ref h0), some (.int x1)] [] σ := by
  rw [b_typesOfCondition] at h
  refine zs_aload_n hX dX13_typesOfCondition_0 rfl rfl ?_
  refine zg_kind hX dX13_typesOfCondition_1 ?_
  refine zs_iload_n hX dX13_typesOfCondition_4 rfl rfl ?_
  obtain ⟨b1, h⟩ := zgd_e h
  refine zl_kind hX dX13_typesOfCondition_5 (zin_ok b1) ?_
  by_cases c2 : (σ.2.2.1 6 (x1).toNatClampNeg) = 20
  · rw [if_pos c2] at h
    refine zs_tableIn (tgt := 44) (off := 38) hX dX13_typesOfCondition_6 (by rw [c2]; decide) (by rw [c2]; decide) (by rw [c2]; rfl) (by decide) ?_
    refine zs_aload_n hX dX13_typesOfCondition_44 rfl rfl ?_
    refine zs_aload_n hX dX13_typesOfCondition_45 rfl rfl ?_
    refine zg_x1 hX dX13_typesOfCondition_46 ?_
    refine zs_iload_n hX dX13_typesOfCondition_49 rfl rfl ?_
    obtain ⟨b3, h⟩ := zgd_e h
    refine zl_x1 hX dX13_typesOfCondition_50 (zin_ok b3) ?_
    obtain ⟨s4, e5, h⟩ := zcv_e h
    refine zc_typesOfCondition hX dX13_typesOfCondition_51 (Nat.le_of_ble_eq_true rfl) (hc _ _ _ _ e5) (fun u9 h9 => ?_)
    cases h9
    refine zs_aload_n hX dX13_typesOfCondition_54 rfl rfl ?_
    refine zs_aload_n hX dX13_typesOfCondition_55 rfl rfl ?_
    refine zg_x2 hX dX13_typesOfCondition_56 ?_
    refine zs_iload_n hX dX13_typesOfCondition_59 rfl rfl ?_
    obtain ⟨b6, h⟩ := zgd_e h
    refine zl_x2 hX dX13_typesOfCondition_60 (zin_ok b6) ?_
    obtain ⟨s7, e8, h⟩ := zcv_e h
    refine zc_typesOfCondition hX dX13_typesOfCondition_61 (Nat.le_of_ble_eq_true rfl) (hc _ _ _ _ e8) (fun u9 h9 => ?_)
    cases h9
    refine zs_goto (tgt := 138) hX dX13_typesOfCondition_64 (by decide) ?_
    exact zs_vret hX dX13_typesOfCondition_138 rfl (Option.some.inj h)
  rw [if_neg c2] at h
  by_cases c9 : (σ.2.2.1 6 (x1).toNatClampNeg) = 21
  · rw [if_pos c9] at h
    refine zs_tableIn (tgt := 44) (off := 38) hX dX13_typesOfCondition_6 (by rw [c9]; decide) (by rw [c9]; decide) (by rw [c9]; rfl) (by decide) ?_
    refine zs_aload_n hX dX13_typesOfCondition_44 rfl rfl ?_
    refine zs_aload_n hX dX13_typesOfCondition_45 rfl rfl ?_
    refine zg_x1 hX dX13_typesOfCondition_46 ?_
    refine zs_iload_n hX dX13_typesOfCondition_49 rfl rfl ?_
    obtain ⟨b10, h⟩ := zgd_e h
    refine zl_x1 hX dX13_typesOfCondition_50 (zin_ok b10) ?_
    obtain ⟨s11, e12, h⟩ := zcv_e h
    refine zc_typesOfCondition hX dX13_typesOfCondition_51 (Nat.le_of_ble_eq_true rfl) (hc _ _ _ _ e12) (fun u9 h9 => ?_)
    cases h9
    refine zs_aload_n hX dX13_typesOfCondition_54 rfl rfl ?_
    refine zs_aload_n hX dX13_typesOfCondition_55 rfl rfl ?_
    refine zg_x2 hX dX13_typesOfCondition_56 ?_
    refine zs_iload_n hX dX13_typesOfCondition_59 rfl rfl ?_
    obtain ⟨b13, h⟩ := zgd_e h
    refine zl_x2 hX dX13_typesOfCondition_60 (zin_ok b13) ?_
    obtain ⟨s14, e15, h⟩ := zcv_e h
    refine zc_typesOfCondition hX dX13_typesOfCondition_61 (Nat.le_of_ble_eq_true rfl) (hc _ _ _ _ e15) (fun u9 h9 => ?_)
    cases h9
    refine zs_goto (tgt := 138) hX dX13_typesOfCondition_64 (by decide) ?_
    exact zs_vret hX dX13_typesOfCondition_138 rfl (Option.some.inj h)
  rw [if_neg c9] at h
  by_cases c16 : (σ.2.2.1 6 (x1).toNatClampNeg) = 22
  · rw [if_pos c16] at h
    refine zs_tableIn (tgt := 67) (off := 61) hX dX13_typesOfCondition_6 (by rw [c16]; decide) (by rw [c16]; decide) (by rw [c16]; rfl) (by decide) ?_
    refine zs_aload_n hX dX13_typesOfCondition_67 rfl rfl ?_
    refine zs_aload_n hX dX13_typesOfCondition_68 rfl rfl ?_
    refine zg_x1 hX dX13_typesOfCondition_69 ?_
    refine zs_iload_n hX dX13_typesOfCondition_72 rfl rfl ?_
    obtain ⟨b17, h⟩ := zgd_e h
    refine zl_x1 hX dX13_typesOfCondition_73 (zin_ok b17) ?_
    obtain ⟨s18, e19, h⟩ := zcv_e h
    refine zc_typesOfCondition hX dX13_typesOfCondition_74 (Nat.le_of_ble_eq_true rfl) (hc _ _ _ _ e19) (fun u9 h9 => ?_)
    cases h9
    refine zs_goto (tgt := 138) hX dX13_typesOfCondition_77 (by decide) ?_
    exact zs_vret hX dX13_typesOfCondition_138 rfl (Option.some.inj h)
  rw [if_neg c16] at h
  by_cases c20 : (σ.2.2.1 6 (x1).toNatClampNeg) = 23
  · rw [if_pos c20] at h
    refine zs_tableIn (tgt := 138) (off := 132) hX dX13_typesOfCondition_6 (by rw [c20]; decide) (by rw [c20]; decide) (by rw [c20]; rfl) (by decide) ?_
    exact zs_vret hX dX13_typesOfCondition_138 rfl (Option.some.inj h)
  rw [if_neg c20] at h
  by_cases c21 : (σ.2.2.1 6 (x1).toNatClampNeg) = 24
  · rw [if_pos c21] at h
    refine zs_tableIn (tgt := 80) (off := 74) hX dX13_typesOfCondition_6 (by rw [c21]; decide) (by rw [c21]; decide) (by rw [c21]; rfl) (by decide) ?_
    refine zs_aload_n hX dX13_typesOfCondition_80 rfl rfl ?_
    refine zs_aload_n hX dX13_typesOfCondition_81 rfl rfl ?_
    refine zg_dType hX dX13_typesOfCondition_82 ?_
    refine zs_aload_n hX dX13_typesOfCondition_85 rfl rfl ?_
    refine zg_whose hX dX13_typesOfCondition_86 ?_
    refine zs_aload_n hX dX13_typesOfCondition_89 rfl rfl ?_
    refine zg_x1 hX dX13_typesOfCondition_90 ?_
    refine zs_iload_n hX dX13_typesOfCondition_93 rfl rfl ?_
    obtain ⟨b22, h⟩ := zgd_e h
    refine zl_x1 hX dX13_typesOfCondition_94 (zin_ok b22) ?_
    obtain ⟨b23, h⟩ := zgd_e h
    refine zl_whose hX dX13_typesOfCondition_95 (zin_ok b23) ?_
    obtain ⟨b24, h⟩ := zgd_e h
    refine zl_dType hX dX13_typesOfCondition_96 (zin_ok b24) ?_
    refine zs_iconst (v := 2) hX dX13_typesOfCondition_97 (by decide) ?_
    refine zs_aload_n hX dX13_typesOfCondition_98 rfl rfl ?_
    refine zg_wAt hX dX13_typesOfCondition_99 ?_
    refine zs_aload_n hX dX13_typesOfCondition_102 rfl rfl ?_
    refine zg_x1 hX dX13_typesOfCondition_103 ?_
    refine zs_iload_n hX dX13_typesOfCondition_106 rfl rfl ?_
    obtain ⟨b25, h⟩ := zgd_e h
    refine zl_x1 hX dX13_typesOfCondition_107 (zin_ok b25) ?_
    obtain ⟨b26, h⟩ := zgd_e h
    refine zl_wAt hX dX13_typesOfCondition_108 (zin_ok b26) ?_
    obtain ⟨s27, e28, h⟩ := zcv_e h
    refine zc_mustBe hX dX13_typesOfCondition_109 (Nat.le_of_ble_eq_true rfl) (hc _ _ _ _ e28) (fun u9 h9 => ?_)
    cases h9
    refine zs_goto (tgt := 138) hX dX13_typesOfCondition_112 (by decide) ?_
    exact zs_vret hX dX13_typesOfCondition_138 rfl (Option.some.inj h)
  rw [if_neg c21] at h
  by_cases c29 : (σ.2.2.1 6 (x1).toNatClampNeg) = 25
  · rw [if_pos c29] at h
    refine zs_tableIn (tgt := 115) (off := 109) hX dX13_typesOfCondition_6 (by rw [c29]; decide) (by rw [c29]; decide) (by rw [c29]; rfl) (by decide) ?_
    refine zs_aload_n hX dX13_typesOfCondition_115 rfl rfl ?_
    refine zs_aload_n hX dX13_typesOfCondition_116 rfl rfl ?_
    refine zg_x1 hX dX13_typesOfCondition_117 ?_
    refine zs_iload_n hX dX13_typesOfCondition_120 rfl rfl ?_
    obtain ⟨b30, h⟩ := zgd_e h
    refine zl_x1 hX dX13_typesOfCondition_121 (zin_ok b30) ?_
    obtain ⟨s31, e32, h⟩ := zcv_e h
    refine zc_typesOfSum hX dX13_typesOfCondition_122 (Nat.le_of_ble_eq_true rfl) (hc _ _ _ _ e32) (fun u9 h9 => ?_)
    cases h9
    refine zs_aload_n hX dX13_typesOfCondition_125 rfl rfl ?_
    refine zs_aload_n hX dX13_typesOfCondition_126 rfl rfl ?_
    refine zg_x2 hX dX13_typesOfCondition_127 ?_
    refine zs_iload_n hX dX13_typesOfCondition_130 rfl rfl ?_
    obtain ⟨b33, h⟩ := zgd_e h
    refine zl_x2 hX dX13_typesOfCondition_131 (zin_ok b33) ?_
    obtain ⟨s34, e35, h⟩ := zcv_e h
    refine zc_typesOfSum hX dX13_typesOfCondition_132 (Nat.le_of_ble_eq_true rfl) (hc _ _ _ _ e35) (fun u9 h9 => ?_)
    cases h9
    refine zs_goto (tgt := 138) hX dX13_typesOfCondition_135 (by decide) ?_
    exact zs_vret hX dX13_typesOfCondition_138 rfl (Option.some.inj h)
  rw [if_neg c29] at h
  refine zs_tableOut (tgt := 138) hX dX13_typesOfCondition_6 (by have := z_ne c2 (k := 20) (by decide); have := z_ne c9 (k := 21) (by decide); have := z_ne c16 (k := 22) (by decide); have := z_ne c20 (k := 23) (by decide); have := z_ne c21 (k := 24) (by decide); have := z_ne c29 (k := 25) (by decide); omega) (by decide) ?_
  exact zs_vret hX dX13_typesOfCondition_138 rfl (Option.some.inj h)
def b_isName (n : Nat) (call : zCl) (h0 : Nat) (qs : List Nat) (ks : Nat → Nat) (x1 : Int32) (σ : zSt) : zRs :=
  zgd (zin x1 2100) (
  zgd (zin x1 2100) (
  if ((σ.2.2.1 14 (x1).toNatClampNeg) - (σ.2.2.1 13 (x1).toNatClampNeg)) = 1 then
    zgd (zin x1 2100) (
    zgd (zin (σ.2.2.1 13 (x1).toNatClampNeg) 2100) (
    if (σ.2.2.1 16 ((σ.2.2.1 13 (x1).toNatClampNeg)).toNatClampNeg) = 1 then
      zgd (zin x1 2100) (
      zgd (zin (σ.2.2.1 13 (x1).toNatClampNeg) 2100) (
      if (σ.2.2.1 17 ((σ.2.2.1 13 (x1).toNatClampNeg)).toNatClampNeg) = 1 then
        some (some (.int 1), σ)
      else
        some (some (.int 0), σ)))
    else
      some (some (.int 0), σ)))
  else
    some (some (.int 0), σ)))
set_option maxHeartbeats 4000000 in
theorem pb_isName {h0 : Nat} {qs : List Nat} {ks : Nat → Nat} {n : Nat} {call : zCl} {kc : Nat → List Value → zSt → (Option Value → zSt → Prop) → Prop} {v : Option Value × zSt} {X : Nat → zLv → List Value → zSt → Prop} (hX : zSem cX13_isName 2 (some .boolean) h0 qs ks kc (fun r u => (r, u) = v) X) (hc : ∀ j av s w, call j av s = some w → kc j av s (fun r u => (r, u) = w)) {x1 : Int32} {σ : zSt} (h : b_isName n call h0 qs ks x1 σ = some v) : X 0 [some (.ref h0), some (.int x1)] [] σ := by
  rw [b_isName] at h
  refine zs_aload_n hX dX13_isName_0 rfl rfl ?_
  refine zg_sTo hX dX13_isName_1 ?_
  refine zs_iload_n hX dX13_isName_4 rfl rfl ?_
  obtain ⟨b1, h⟩ := zgd_e h
  refine zl_sTo hX dX13_isName_5 (zin_ok b1) ?_
  refine zs_aload_n hX dX13_isName_6 rfl rfl ?_
  refine zg_sFrom hX dX13_isName_7 ?_
  refine zs_iload_n hX dX13_isName_10 rfl rfl ?_
  obtain ⟨b2, h⟩ := zgd_e h
  refine zl_sFrom hX dX13_isName_11 (zin_ok b2) ?_
  refine zs_isub hX dX13_isName_12 ?_
  refine zs_iconst (v := 1) hX dX13_isName_13 (by decide) ?_
  refine zs_icmp_ne (tgt := 51) hX dX13_isName_14 (by decide) (fun c3 => ?_) (fun c3 => ?_)
  · rw [if_neg c3] at h
    refine zs_iconst (v := 0) hX dX13_isName_51 (by decide) ?_
    exact zs_zret hX dX13_isName_52 rfl (by decide) (Option.some.inj h)
  · rw [if_pos c3] at h
    refine zs_aload_n hX dX13_isName_17 rfl rfl ?_
    refine zg_pKind hX dX13_isName_18 ?_
    refine zs_aload_n hX dX13_isName_21 rfl rfl ?_
    refine zg_sFrom hX dX13_isName_22 ?_
    refine zs_iload_n hX dX13_isName_25 rfl rfl ?_
    obtain ⟨b4, h⟩ := zgd_e h
    refine zl_sFrom hX dX13_isName_26 (zin_ok b4) ?_
    obtain ⟨b5, h⟩ := zgd_e h
    refine zl_pKind hX dX13_isName_27 (zin_ok b5) ?_
    refine zs_iconst (v := 1) hX dX13_isName_28 (by decide) ?_
    refine zs_icmp_ne (tgt := 51) hX dX13_isName_29 (by decide) (fun c6 => ?_) (fun c6 => ?_)
    · rw [if_neg c6] at h
      refine zs_iconst (v := 0) hX dX13_isName_51 (by decide) ?_
      exact zs_zret hX dX13_isName_52 rfl (by decide) (Option.some.inj h)
    · rw [if_pos c6] at h
      refine zs_aload_n hX dX13_isName_32 rfl rfl ?_
      refine zg_pSign hX dX13_isName_33 ?_
      refine zs_aload_n hX dX13_isName_36 rfl rfl ?_
      refine zg_sFrom hX dX13_isName_37 ?_
      refine zs_iload_n hX dX13_isName_40 rfl rfl ?_
      obtain ⟨b7, h⟩ := zgd_e h
      refine zl_sFrom hX dX13_isName_41 (zin_ok b7) ?_
      obtain ⟨b8, h⟩ := zgd_e h
      refine zl_pSign hX dX13_isName_42 (zin_ok b8) ?_
      refine zs_iconst (v := 1) hX dX13_isName_43 (by decide) ?_
      refine zs_icmp_ne (tgt := 51) hX dX13_isName_44 (by decide) (fun c9 => ?_) (fun c9 => ?_)
      · rw [if_neg c9] at h
        refine zs_iconst (v := 0) hX dX13_isName_51 (by decide) ?_
        exact zs_zret hX dX13_isName_52 rfl (by decide) (Option.some.inj h)
      · rw [if_pos c9] at h
        refine zs_iconst (v := 1) hX dX13_isName_47 (by decide) ?_
        refine zs_goto (tgt := 52) hX dX13_isName_48 (by decide) ?_
        exact zs_zret hX dX13_isName_52 rfl (by decide) (Option.some.inj h)
def b_typeOf (n : Nat) (call : zCl) (h0 : Nat) (qs : List Nat) (ks : Nat → Nat) (x1 : Int32) (σ : zSt) : zRs :=
  if (σ.1 11) = 0 then
    zci (call 51 [.ref h0, .int x1] σ) fun r4 s2 =>
    zgd (zin x1 2100) (zlet (zA s2 39 (upd (s2.2.2.1 39) (x1).toNatClampNeg r4)) fun s6 =>
    some (some (.int r4), s6))
  else
    some (some (.int 0), σ)
set_option maxHeartbeats 4000000 in
theorem pb_typeOf {h0 : Nat} {qs : List Nat} {ks : Nat → Nat} {n : Nat} {call : zCl} {kc : Nat → List Value → zSt → (Option Value → zSt → Prop) → Prop} {v : Option Value × zSt} {X : Nat → zLv → List Value → zSt → Prop} (hX : zSem cX13_typeOf 3 (some .int) h0 qs ks kc (fun r u => (r, u) = v) X) (hc : ∀ j av s w, call j av s = some w → kc j av s (fun r u => (r, u) = w)) {x1 : Int32} {σ : zSt} (h : b_typeOf n call h0 qs ks x1 σ = some v) : X 0 [some (.ref h0), some (.int x1), none] [] σ := by
  rw [b_typeOf] at h
  refine zs_aload_n hX dX13_typeOf_0 rfl rfl ?_
  refine zg_bad hX dX13_typeOf_1 ?_
  refine zs_if_eq (tgt := 9) hX dX13_typeOf_4 (by decide) (fun c1 => ?_) (fun c1 => ?_)
  · rw [if_pos c1] at h
    refine zs_aload_n hX dX13_typeOf_9 rfl rfl ?_
    refine zs_iload_n hX dX13_typeOf_10 rfl rfl ?_
    obtain ⟨r4, s2, e3, h⟩ := zci_e h
    refine zc_typed hX dX13_typeOf_11 (Nat.le_of_ble_eq_true rfl) (hc _ _ _ _ e3) (fun r9 u9 h9 => ?_)
    cases h9
    refine zs_istore_n hX dX13_typeOf_14 rfl (by decide) rfl ?_
    dsimp only [List.set]
    refine zs_aload_n hX dX13_typeOf_15 rfl rfl ?_
    refine zg_nodeType hX dX13_typeOf_16 ?_
    refine zs_iload_n hX dX13_typeOf_19 rfl rfl ?_
    refine zs_iload_n hX dX13_typeOf_20 rfl rfl ?_
    obtain ⟨b5, h⟩ := zgd_e h
    obtain ⟨s6, e7, h⟩ := zlet_e h
    refine zt_nodeType hX dX13_typeOf_21 (zin_ok b5) ?_
    rw [← e7]
    refine zs_iload_n hX dX13_typeOf_22 rfl rfl ?_
    exact zs_iret hX dX13_typeOf_23 rfl (Option.some.inj h)
  · rw [if_neg c1] at h
    refine zs_iconst (v := 0) hX dX13_typeOf_7 (by decide) ?_
    exact zs_iret hX dX13_typeOf_8 rfl (Option.some.inj h)
def j_typeOfCall_358 (n : Nat) (call : zCl) (h0 : Nat) (qs : List Nat) (ks : Nat → Nat) (k139 : Int32 → Int32 → Int32 → zSt → zRs) (x1 : Int32) (x4 : Int32) (x5 : Int32) (σ : zSt) : zRs :=
  zgd (zin x5 9000) (
  k139 x1 (σ.2.2.1 36 (x5).toNatClampNeg) (x4 + 1) σ)
def j_typeOfCall_323 (n : Nat) (call : zCl) (h0 : Nat) (qs : List Nat) (ks : Nat → Nat) (k139 : Int32 → Int32 → Int32 → zSt → zRs) (x1 : Int32) (x4 : Int32) (x5 : Int32) (x6 : Int32) (x7 : Int32) (σ : zSt) : zRs :=
  if (σ.1 11) = 0 then
    zgd (zin x5 9000) (
    zci (call 44 [.ref h0, .int x7, .int (σ.2.2.1 35 (x5).toNatClampNeg)] σ) fun r5 s3 =>
    if r5 = 0 then
      zgd (zin x6 2100) (
      zcv (call 3 [.ref h0, .int 4, .int (s3.2.2.1 21 (x6).toNatClampNeg)] s3) fun s8 =>
      j_typeOfCall_358 n call h0 qs ks k139 x1 x4 x5 s8)
    else
      j_typeOfCall_358 n call h0 qs ks k139 x1 x4 x5 s3)
  else
    j_typeOfCall_358 n call h0 qs ks k139 x1 x4 x5 σ
def j_typeOfCall_303 (n : Nat) (call : zCl) (h0 : Nat) (qs : List Nat) (ks : Nat → Nat) (k139 : Int32 → Int32 → Int32 → zSt → zRs) (x1 : Int32) (x4 : Int32) (x5 : Int32) (x6 : Int32) (σ : zSt) : zRs :=
  zgd (zin x6 2100) (
  zcv (call 46 [.ref h0, .int (σ.2.2.1 20 (x6).toNatClampNeg)] σ) fun s2 =>
  zci (call 40 [.ref h0, .int 1, .int (-1), .int (-1)] s2) fun r6 s4 =>
  j_typeOfCall_323 n call h0 qs ks k139 x1 x4 x5 x6 r6 s4)
def l_typeOfCall_139 (n : Nat) (call : zCl) (h0 : Nat) (qs : List Nat) (ks : Nat → Nat) : Nat → Int32 → Int32 → Int32 → zSt → zRs
  | 0, _, _, _, _ => none
  | f + 1, x1, x2, x4, σ =>
    zgd (zin x1 2100) (
    if (σ.2.2.1 11 (x1).toNatClampNeg) ≤ x4 then
      some (some (.int x2), σ)
    else
      if (σ.1 11) = 0 then
        zci (call 42 [.ref h0, .int x2] σ) fun r6 s4 =>
        zgd (zin x1 2100) (
        zgd (zin ((s4.2.2.1 10 (x1).toNatClampNeg) + x4) 2100) (
        if (s4.2.2.1 19 (((s4.2.2.1 10 (x1).toNatClampNeg) + x4)).toNatClampNeg) = 1 then
          zgd (zin ((s4.2.2.1 10 (x1).toNatClampNeg) + x4) 2100) (
          zci (call 49 [.ref h0, .int (s4.2.2.1 20 (((s4.2.2.1 10 (x1).toNatClampNeg) + x4)).toNatClampNeg)] s4) fun r34 s32 =>
          j_typeOfCall_323 n call h0 qs ks (l_typeOfCall_139 n call h0 qs ks f) x1 x4 r6 ((s4.2.2.1 10 (x1).toNatClampNeg) + x4) r34 s32)
        else
          zgd (zin ((s4.2.2.1 10 (x1).toNatClampNeg) + x4) 2100) (
          if (s4.2.2.1 19 (((s4.2.2.1 10 (x1).toNatClampNeg) + x4)).toNatClampNeg) ≤ 1 then
            zgd (zin ((s4.2.2.1 10 (x1).toNatClampNeg) + x4) 2100) (
            zci (call 48 [.ref h0, .int (s4.2.2.1 20 (((s4.2.2.1 10 (x1).toNatClampNeg) + x4)).toNatClampNeg)] s4) fun r15 s13 =>
            if r15 = 0 then
              j_typeOfCall_303 n call h0 qs ks (l_typeOfCall_139 n call h0 qs ks f) x1 x4 r6 ((s4.2.2.1 10 (x1).toNatClampNeg) + x4) s13
            else
              zgd (zin ((s4.2.2.1 10 (x1).toNatClampNeg) + x4) 2100) (
              zgd (zin ((s4.2.2.1 10 (x1).toNatClampNeg) + x4) 2100) (
              zgd (zin (s13.2.2.1 20 (((s4.2.2.1 10 (x1).toNatClampNeg) + x4)).toNatClampNeg) 2100) (
              zgd (zin (s13.2.2.1 13 ((s13.2.2.1 20 (((s4.2.2.1 10 (x1).toNatClampNeg) + x4)).toNatClampNeg)).toNatClampNeg) 2100) (
              zgd (zin (s13.2.2.1 18 ((s13.2.2.1 13 ((s13.2.2.1 20 (((s4.2.2.1 10 (x1).toNatClampNeg) + x4)).toNatClampNeg)).toNatClampNeg)).toNatClampNeg) 2010) (
              if (s13.2.2.1 21 (((s4.2.2.1 10 (x1).toNatClampNeg) + x4)).toNatClampNeg) = (s13.2.2.1 4 ((s13.2.2.1 18 ((s13.2.2.1 13 ((s13.2.2.1 20 (((s4.2.2.1 10 (x1).toNatClampNeg) + x4)).toNatClampNeg)).toNatClampNeg)).toNatClampNeg)).toNatClampNeg) then
                zgd (zin ((s4.2.2.1 10 (x1).toNatClampNeg) + x4) 2100) (
                zgd (zin (s13.2.2.1 20 (((s4.2.2.1 10 (x1).toNatClampNeg) + x4)).toNatClampNeg) 2100) (
                zgd (zin (s13.2.2.1 13 ((s13.2.2.1 20 (((s4.2.2.1 10 (x1).toNatClampNeg) + x4)).toNatClampNeg)).toNatClampNeg) 2100) (
                zgd (zin (s13.2.2.1 18 ((s13.2.2.1 13 ((s13.2.2.1 20 (((s4.2.2.1 10 (x1).toNatClampNeg) + x4)).toNatClampNeg)).toNatClampNeg)).toNatClampNeg) 2010) (
                zgd (zin (s13.2.2.1 32 ((s13.2.2.1 18 ((s13.2.2.1 13 ((s13.2.2.1 20 (((s4.2.2.1 10 (x1).toNatClampNeg) + x4)).toNatClampNeg)).toNatClampNeg)).toNatClampNeg)).toNatClampNeg) 700) (
                j_typeOfCall_323 n call h0 qs ks (l_typeOfCall_139 n call h0 qs ks f) x1 x4 r6 ((s4.2.2.1 10 (x1).toNatClampNeg) + x4) (s13.2.2.1 31 ((s13.2.2.1 32 ((s13.2.2.1 18 ((s13.2.2.1 13 ((s13.2.2.1 20 (((s4.2.2.1 10 (x1).toNatClampNeg) + x4)).toNatClampNeg)).toNatClampNeg)).toNatClampNeg)).toNatClampNeg)).toNatClampNeg) s13)))))
              else
                j_typeOfCall_303 n call h0 qs ks (l_typeOfCall_139 n call h0 qs ks f) x1 x4 r6 ((s4.2.2.1 10 (x1).toNatClampNeg) + x4) s13))))))
          else
            zci (call 40 [.ref h0, .int 2, .int (-1), .int (-1)] s4) fun r30 s28 =>
            j_typeOfCall_323 n call h0 qs ks (l_typeOfCall_139 n call h0 qs ks f) x1 x4 r6 ((s4.2.2.1 10 (x1).toNatClampNeg) + x4) r30 s28)))
      else
        some (some (.int x2), σ))
def j_typeOfCall_134 (n : Nat) (call : zCl) (h0 : Nat) (qs : List Nat) (ks : Nat → Nat) (x1 : Int32) (x3 : Int32) (σ : zSt) : zRs :=
  l_typeOfCall_139 n call h0 qs ks n x1 x3 0 σ
def j_typeOfCall_120 (n : Nat) (call : zCl) (h0 : Nat) (qs : List Nat) (ks : Nat → Nat) (k22 : Int32 → Int32 → Int32 → Int32 → zSt → zRs) (x1 : Int32) (x3 : Int32) (x4 : Int32) (x5 : Int32) (σ : zSt) : zRs :=
  zgd (zin x5 9000) (
  k22 x1 (σ.2.2.1 36 (x5).toNatClampNeg) x3 (x4 + 1) σ)
def j_typeOfCall_93 (n : Nat) (call : zCl) (h0 : Nat) (qs : List Nat) (ks : Nat → Nat) (k22 : Int32 → Int32 → Int32 → Int32 → zSt → zRs) (x1 : Int32) (x3 : Int32) (x4 : Int32) (x5 : Int32) (σ : zSt) : zRs :=
  zgd (zin x5 9000) (
  if (σ.2.2.1 34 (x5).toNatClampNeg) = 4 then
    j_typeOfCall_120 n call h0 qs ks k22 x1 x3 x4 x5 σ
  else
    zgd (zin x1 2100) (
    zgd (zin (σ.2.2.1 9 (x1).toNatClampNeg) 2010) (
    zcv (call 3 [.ref h0, .int 4, .int (σ.2.2.1 4 ((σ.2.2.1 9 (x1).toNatClampNeg)).toNatClampNeg)] σ) fun s5 =>
    j_typeOfCall_120 n call h0 qs ks k22 x1 x3 x4 x5 s5)))
def l_typeOfCall_22 (n : Nat) (call : zCl) (h0 : Nat) (qs : List Nat) (ks : Nat → Nat) : Nat → Int32 → Int32 → Int32 → Int32 → zSt → zRs
  | 0, _, _, _, _, _ => none
  | f + 1, x1, x2, x3, x4, σ =>
    zgd (zin x1 2100) (
    if (σ.2.2.1 11 (x1).toNatClampNeg) ≤ x4 then
      j_typeOfCall_134 n call h0 qs ks x1 x3 σ
    else
      if (σ.1 11) = 0 then
        zci (call 42 [.ref h0, .int x2] σ) fun r6 s4 =>
        zgd (zin r6 9000) (
        if (s4.2.2.1 34 (r6).toNatClampNeg) = 0 then
          zci (call 41 [.ref h0] s4) fun r11 s9 =>
          zci (call 41 [.ref h0] s9) fun r14 s12 =>
          zci (call 40 [.ref h0, .int 4, .int r11, .int r14] s12) fun r17 s15 =>
          zgd (zin r6 9000) (zlet (zA s15 37 (upd (s15.2.2.1 37) (r6).toNatClampNeg r17)) fun s19 =>
          zci (call 42 [.ref h0, .int r6] s19) fun r23 s21 =>
          j_typeOfCall_93 n call h0 qs ks (l_typeOfCall_22 n call h0 qs ks f) x1 x3 x4 r23 s21)
        else
          j_typeOfCall_93 n call h0 qs ks (l_typeOfCall_22 n call h0 qs ks f) x1 x3 x4 r6 s4)
      else
        j_typeOfCall_134 n call h0 qs ks x1 x3 σ)
def b_typeOfCall (n : Nat) (call : zCl) (h0 : Nat) (qs : List Nat) (ks : Nat → Nat) (x1 : Int32) (σ : zSt) : zRs :=
  zgd (zin x1 2100) (
  zgd (zin (σ.2.2.1 9 (x1).toNatClampNeg) 2010) (
  zgd (zin (σ.2.2.1 32 ((σ.2.2.1 9 (x1).toNatClampNeg)).toNatClampNeg) 700) (
  l_typeOfCall_22 n call h0 qs ks n x1 (σ.2.2.1 31 ((σ.2.2.1 32 ((σ.2.2.1 9 (x1).toNatClampNeg)).toNatClampNeg)).toNatClampNeg) (σ.2.2.1 31 ((σ.2.2.1 32 ((σ.2.2.1 9 (x1).toNatClampNeg)).toNatClampNeg)).toNatClampNeg) 0 σ)))
set_option maxHeartbeats 4000000 in
theorem pj_typeOfCall_358 {h0 : Nat} {qs : List Nat} {ks : Nat → Nat} {n : Nat} {call : zCl} {kc : Nat → List Value → zSt → (Option Value → zSt → Prop) → Prop} {v : Option Value × zSt} {X : Nat → zLv → List Value → zSt → Prop} (hX : zSem cX13_typeOfCall 8 (some .int) h0 qs ks kc (fun r u => (r, u) = v) X) (hc : ∀ j av s w, call j av s = some w → kc j av s (fun r u => (r, u) = w)) {k139 : Int32 → Int32 → Int32 → zSt → zRs} (hk139 : ∀ (x1 : Int32) (x2 : Int32) (x4 : Int32) (s : zSt), k139 x1 x2 x4 s = some v → X 139 [some (.ref h0), some (.int x1), some (.int x2), none, some (.int x4), none, none, none] [] s) {x1 : Int32} {x4 : Int32} {x5 : Int32} {σ : zSt} (h : j_typeOfCall_358 n call h0 qs ks k139 x1 x4 x5 σ = some v) : X 358 [some (.ref h0), some (.int x1), none, none, some (.int x4), some (.int x5), none, none] [] σ := by
  rw [j_typeOfCall_358] at h
  refine zs_aload_n hX dX13_typeOfCall_358 rfl rfl ?_
  refine zg_tRight hX dX13_typeOfCall_359 ?_
  refine zs_iload hX dX13_typeOfCall_362 rfl ?_
  obtain ⟨b1, h⟩ := zgd_e h
  refine zl_tRight hX dX13_typeOfCall_364 (zin_ok b1) ?_
  refine zs_istore_n hX dX13_typeOfCall_365 rfl (by decide) rfl ?_
  dsimp only [List.set]
  refine zs_iinc (v := x4 + 1) hX dX13_typeOfCall_366 rfl rfl (by decide) rfl ?_
  dsimp only [List.set]
  refine zs_goto (tgt := 139) hX dX13_typeOfCall_369 (by decide) ?_
  refine zs_weak hX (lw := [some (.ref h0), some (.int x1), some (.int (σ.2.2.1 36 (x5).toNatClampNeg)), none, some (.int (x4 + 1)), none, none, none]) ⟨rfl, rfl, rfl, rfl, trivial⟩ ?_
  exact hk139 _ _ _ _ h
set_option maxHeartbeats 4000000 in
theorem pj_typeOfCall_323 {h0 : Nat} {qs : List Nat} {ks : Nat → Nat} {n : Nat} {call : zCl} {kc : Nat → List Value → zSt → (Option Value → zSt → Prop) → Prop} {v : Option Value × zSt} {X : Nat → zLv → List Value → zSt → Prop} (hX : zSem cX13_typeOfCall 8 (some .int) h0 qs ks kc (fun r u => (r, u) = v) X) (hc : ∀ j av s w, call j av s = some w → kc j av s (fun r u => (r, u) = w)) {k139 : Int32 → Int32 → Int32 → zSt → zRs} (hk139 : ∀ (x1 : Int32) (x2 : Int32) (x4 : Int32) (s : zSt), k139 x1 x2 x4 s = some v → X 139 [some (.ref h0), some (.int x1), some (.int x2), none, some (.int x4), none, none, none] [] s) {x1 : Int32} {x4 : Int32} {x5 : Int32} {x6 : Int32} {x7 : Int32} {σ : zSt} (h : j_typeOfCall_323 n call h0 qs ks k139 x1 x4 x5 x6 x7 σ = some v) : X 323 [some (.ref h0), some (.int x1), none, none, some (.int x4), some (.int x5), some (.int x6), some (.int x7)] [] σ := by
  rw [j_typeOfCall_323] at h
  refine zs_aload_n hX dX13_typeOfCall_323 rfl rfl ?_
  refine zg_bad hX dX13_typeOfCall_324 ?_
  refine zs_if_ne (tgt := 358) hX dX13_typeOfCall_327 (by decide) (fun c1 => ?_) (fun c1 => ?_)
  · rw [if_neg c1] at h
    refine zs_weak hX (lw := [some (.ref h0), some (.int x1), none, none, some (.int x4), some (.int x5), none, none]) ⟨rfl, rfl, rfl, rfl, trivial⟩ ?_
    exact pj_typeOfCall_358 hX hc hk139 h
  · rw [if_pos c1] at h
    refine zs_aload_n hX dX13_typeOfCall_330 rfl rfl ?_
    refine zs_iload hX dX13_typeOfCall_331 rfl ?_
    refine zs_aload_n hX dX13_typeOfCall_333 rfl rfl ?_
    refine zg_tLeft hX dX13_typeOfCall_334 ?_
    refine zs_iload hX dX13_typeOfCall_337 rfl ?_
    obtain ⟨b2, h⟩ := zgd_e h
    refine zl_tLeft hX dX13_typeOfCall_339 (zin_ok b2) ?_
    obtain ⟨r5, s3, e4, h⟩ := zci_e h
    refine zc_join hX dX13_typeOfCall_340 (Nat.le_of_ble_eq_true rfl) (hc _ _ _ _ e4) (fun r9 u9 h9 => ?_)
    cases h9
    refine zs_if_ne (tgt := 358) hX dX13_typeOfCall_343 (by decide) (fun c6 => ?_) (fun c6 => ?_)
    · rw [if_neg c6] at h
      refine zs_weak hX (lw := [some (.ref h0), some (.int x1), none, none, some (.int x4), some (.int x5), none, none]) ⟨rfl, rfl, rfl, rfl, trivial⟩ ?_
      exact pj_typeOfCall_358 hX hc hk139 h
    · rw [if_pos c6] at h
      refine zs_aload_n hX dX13_typeOfCall_346 rfl rfl ?_
      refine zs_iconst (v := 4) hX dX13_typeOfCall_347 (by decide) ?_
      refine zs_aload_n hX dX13_typeOfCall_348 rfl rfl ?_
      refine zg_aAt hX dX13_typeOfCall_349 ?_
      refine zs_iload hX dX13_typeOfCall_352 rfl ?_
      obtain ⟨b7, h⟩ := zgd_e h
      refine zl_aAt hX dX13_typeOfCall_354 (zin_ok b7) ?_
      obtain ⟨s8, e9, h⟩ := zcv_e h
      refine zc_fault hX dX13_typeOfCall_355 (Nat.le_of_ble_eq_true rfl) (hc _ _ _ _ e9) (fun u9 h9 => ?_)
      cases h9
      refine zs_weak hX (lw := [some (.ref h0), some (.int x1), none, none, some (.int x4), some (.int x5), none, none]) ⟨rfl, rfl, rfl, rfl, trivial⟩ ?_
      exact pj_typeOfCall_358 hX hc hk139 h
set_option maxHeartbeats 4000000 in
theorem pj_typeOfCall_303 {h0 : Nat} {qs : List Nat} {ks : Nat → Nat} {n : Nat} {call : zCl} {kc : Nat → List Value → zSt → (Option Value → zSt → Prop) → Prop} {v : Option Value × zSt} {X : Nat → zLv → List Value → zSt → Prop} (hX : zSem cX13_typeOfCall 8 (some .int) h0 qs ks kc (fun r u => (r, u) = v) X) (hc : ∀ j av s w, call j av s = some w → kc j av s (fun r u => (r, u) = w)) {k139 : Int32 → Int32 → Int32 → zSt → zRs} (hk139 : ∀ (x1 : Int32) (x2 : Int32) (x4 : Int32) (s : zSt), k139 x1 x2 x4 s = some v → X 139 [some (.ref h0), some (.int x1), some (.int x2), none, some (.int x4), none, none, none] [] s) {x1 : Int32} {x4 : Int32} {x5 : Int32} {x6 : Int32} {σ : zSt} (h : j_typeOfCall_303 n call h0 qs ks k139 x1 x4 x5 x6 σ = some v) : X 303 [some (.ref h0), some (.int x1), none, none, some (.int x4), some (.int x5), some (.int x6), none] [] σ := by
  rw [j_typeOfCall_303] at h
  refine zs_aload_n hX dX13_typeOfCall_303 rfl rfl ?_
  refine zs_aload_n hX dX13_typeOfCall_304 rfl rfl ?_
  refine zg_aWhat hX dX13_typeOfCall_305 ?_
  refine zs_iload hX dX13_typeOfCall_308 rfl ?_
  obtain ⟨b1, h⟩ := zgd_e h
  refine zl_aWhat hX dX13_typeOfCall_310 (zin_ok b1) ?_
  obtain ⟨s2, e3, h⟩ := zcv_e h
  refine zc_typesOfSum hX dX13_typeOfCall_311 (Nat.le_of_ble_eq_true rfl) (hc _ _ _ _ e3) (fun u9 h9 => ?_)
  cases h9
  refine zs_aload_n hX dX13_typeOfCall_314 rfl rfl ?_
  refine zs_iconst (v := 1) hX dX13_typeOfCall_315 (by decide) ?_
  refine zs_iconst (v := (-1)) hX dX13_typeOfCall_316 (by decide) ?_
  refine zs_iconst (v := (-1)) hX dX13_typeOfCall_317 (by decide) ?_
  obtain ⟨r6, s4, e5, h⟩ := zci_e h
  refine zc_newType hX dX13_typeOfCall_318 (Nat.le_of_ble_eq_true rfl) (hc _ _ _ _ e5) (fun r9 u9 h9 => ?_)
  cases h9
  refine zs_istore hX dX13_typeOfCall_321 (by decide) rfl ?_
  dsimp only [List.set]
  exact pj_typeOfCall_323 hX hc hk139 h
set_option maxHeartbeats 4000000 in
theorem pl_typeOfCall_139 {h0 : Nat} {qs : List Nat} {ks : Nat → Nat} {n : Nat} {call : zCl} {kc : Nat → List Value → zSt → (Option Value → zSt → Prop) → Prop} {v : Option Value × zSt} {X : Nat → zLv → List Value → zSt → Prop} (hX : zSem cX13_typeOfCall 8 (some .int) h0 qs ks kc (fun r u => (r, u) = v) X) (hc : ∀ j av s w, call j av s = some w → kc j av s (fun r u => (r, u) = w)) : ∀ (f : Nat) (x1 : Int32) (x2 : Int32) (x4 : Int32) (σ : zSt), l_typeOfCall_139 n call h0 qs ks f x1 x2 x4 σ = some v → X 139 [some (.ref h0), some (.int x1), some (.int x2), none, some (.int x4), none, none, none] [] σ := by
  intro f
  induction f with
  | zero => intro x1 x2 x4 σ h; cases h
  | succ f hk139 =>
    intro x1 x2 x4 σ h
    rw [l_typeOfCall_139] at h
    refine zs_iload hX dX13_typeOfCall_139 rfl ?_
    refine zs_aload_n hX dX13_typeOfCall_141 rfl rfl ?_
    refine zg_x3 hX dX13_typeOfCall_142 ?_
    refine zs_iload_n hX dX13_typeOfCall_145 rfl rfl ?_
    obtain ⟨b1, h⟩ := zgd_e h
    refine zl_x3 hX dX13_typeOfCall_146 (zin_ok b1) ?_
    refine zs_icmp_ge (tgt := 372) hX dX13_typeOfCall_147 (by decide) (fun c2 => ?_) (fun c2 => ?_)
    · rw [if_pos c2] at h
      refine zs_iload_n hX dX13_typeOfCall_372 rfl rfl ?_
      exact zs_iret hX dX13_typeOfCall_373 rfl (Option.some.inj h)
    · rw [if_neg c2] at h
      refine zs_aload_n hX dX13_typeOfCall_150 rfl rfl ?_
      refine zg_bad hX dX13_typeOfCall_151 ?_
      refine zs_if_ne (tgt := 372) hX dX13_typeOfCall_154 (by decide) (fun c3 => ?_) (fun c3 => ?_)
      · rw [if_neg c3] at h
        refine zs_iload_n hX dX13_typeOfCall_372 rfl rfl ?_
        exact zs_iret hX dX13_typeOfCall_373 rfl (Option.some.inj h)
      · rw [if_pos c3] at h
        refine zs_aload_n hX dX13_typeOfCall_157 rfl rfl ?_
        refine zs_iload_n hX dX13_typeOfCall_158 rfl rfl ?_
        obtain ⟨r6, s4, e5, h⟩ := zci_e h
        refine zc_real hX dX13_typeOfCall_159 (Nat.le_of_ble_eq_true rfl) (hc _ _ _ _ e5) (fun r9 u9 h9 => ?_)
        cases h9
        refine zs_istore hX dX13_typeOfCall_162 (by decide) rfl ?_
        dsimp only [List.set]
        refine zs_aload_n hX dX13_typeOfCall_164 rfl rfl ?_
        refine zg_x2 hX dX13_typeOfCall_165 ?_
        refine zs_iload_n hX dX13_typeOfCall_168 rfl rfl ?_
        obtain ⟨b7, h⟩ := zgd_e h
        refine zl_x2 hX dX13_typeOfCall_169 (zin_ok b7) ?_
        refine zs_iload hX dX13_typeOfCall_170 rfl ?_
        refine zs_iadd hX dX13_typeOfCall_172 ?_
        refine zs_istore hX dX13_typeOfCall_173 (by decide) rfl ?_
        dsimp only [List.set]
        refine zs_aload_n hX dX13_typeOfCall_175 rfl rfl ?_
        refine zg_aKind hX dX13_typeOfCall_176 ?_
        refine zs_iload hX dX13_typeOfCall_179 rfl ?_
        obtain ⟨b8, h⟩ := zgd_e h
        refine zl_aKind hX dX13_typeOfCall_181 (zin_ok b8) ?_
        refine zs_iconst (v := 1) hX dX13_typeOfCall_182 (by decide) ?_
        refine zs_icmp_ne (tgt := 202) hX dX13_typeOfCall_183 (by decide) (fun c9 => ?_) (fun c9 => ?_)
        · rw [if_neg c9] at h
          refine zs_aload_n hX dX13_typeOfCall_202 rfl rfl ?_
          refine zg_aKind hX dX13_typeOfCall_203 ?_
          refine zs_iload hX dX13_typeOfCall_206 rfl ?_
          obtain ⟨b10, h⟩ := zgd_e h
          refine zl_aKind hX dX13_typeOfCall_208 (zin_ok b10) ?_
          refine zs_iconst (v := 1) hX dX13_typeOfCall_209 (by decide) ?_
          refine zs_icmp_le (tgt := 225) hX dX13_typeOfCall_210 (by decide) (fun c11 => ?_) (fun c11 => ?_)
          · rw [if_pos c11] at h
            refine zs_aload_n hX dX13_typeOfCall_225 rfl rfl ?_
            refine zs_aload_n hX dX13_typeOfCall_226 rfl rfl ?_
            refine zg_aWhat hX dX13_typeOfCall_227 ?_
            refine zs_iload hX dX13_typeOfCall_230 rfl ?_
            obtain ⟨b12, h⟩ := zgd_e h
            refine zl_aWhat hX dX13_typeOfCall_232 (zin_ok b12) ?_
            obtain ⟨r15, s13, e14, h⟩ := zci_e h
            refine zc_isName hX dX13_typeOfCall_233 (Nat.le_of_ble_eq_true rfl) (hc _ _ _ _ e14) (fun r9 u9 h9 => ?_)
            cases h9
            refine zs_if_eq (tgt := 303) hX dX13_typeOfCall_236 (by decide) (fun c16 => ?_) (fun c16 => ?_)
            · rw [if_pos c16] at h
              refine zs_weak hX (lw := [some (.ref h0), some (.int x1), none, none, some (.int x4), some (.int r6), some (.int ((s4.2.2.1 10 (x1).toNatClampNeg) + x4)), none]) ⟨rfl, rfl, rfl, rfl, rfl, trivial⟩ ?_
              exact pj_typeOfCall_303 hX hc hk139 h
            · rw [if_neg c16] at h
              refine zs_aload_n hX dX13_typeOfCall_239 rfl rfl ?_
              refine zg_aAt hX dX13_typeOfCall_240 ?_
              refine zs_iload hX dX13_typeOfCall_243 rfl ?_
              obtain ⟨b17, h⟩ := zgd_e h
              refine zl_aAt hX dX13_typeOfCall_245 (zin_ok b17) ?_
              refine zs_aload_n hX dX13_typeOfCall_246 rfl rfl ?_
              refine zg_wAt hX dX13_typeOfCall_247 ?_
              refine zs_aload_n hX dX13_typeOfCall_250 rfl rfl ?_
              refine zg_pWord hX dX13_typeOfCall_251 ?_
              refine zs_aload_n hX dX13_typeOfCall_254 rfl rfl ?_
              refine zg_sFrom hX dX13_typeOfCall_255 ?_
              refine zs_aload_n hX dX13_typeOfCall_258 rfl rfl ?_
              refine zg_aWhat hX dX13_typeOfCall_259 ?_
              refine zs_iload hX dX13_typeOfCall_262 rfl ?_
              obtain ⟨b18, h⟩ := zgd_e h
              refine zl_aWhat hX dX13_typeOfCall_264 (zin_ok b18) ?_
              obtain ⟨b19, h⟩ := zgd_e h
              refine zl_sFrom hX dX13_typeOfCall_265 (zin_ok b19) ?_
              obtain ⟨b20, h⟩ := zgd_e h
              refine zl_pWord hX dX13_typeOfCall_266 (zin_ok b20) ?_
              obtain ⟨b21, h⟩ := zgd_e h
              refine zl_wAt hX dX13_typeOfCall_267 (zin_ok b21) ?_
              refine zs_icmp_ne (tgt := 303) hX dX13_typeOfCall_268 (by decide) (fun c22 => ?_) (fun c22 => ?_)
              · rw [if_neg c22] at h
                refine zs_weak hX (lw := [some (.ref h0), some (.int x1), none, none, some (.int x4), some (.int r6), some (.int ((s4.2.2.1 10 (x1).toNatClampNeg) + x4)), none]) ⟨rfl, rfl, rfl, rfl, rfl, trivial⟩ ?_
                exact pj_typeOfCall_303 hX hc hk139 h
              · rw [if_pos c22] at h
                refine zs_aload_n hX dX13_typeOfCall_271 rfl rfl ?_
                refine zg_dType hX dX13_typeOfCall_272 ?_
                refine zs_aload_n hX dX13_typeOfCall_275 rfl rfl ?_
                refine zg_whose hX dX13_typeOfCall_276 ?_
                refine zs_aload_n hX dX13_typeOfCall_279 rfl rfl ?_
                refine zg_pWord hX dX13_typeOfCall_280 ?_
                refine zs_aload_n hX dX13_typeOfCall_283 rfl rfl ?_
                refine zg_sFrom hX dX13_typeOfCall_284 ?_
                refine zs_aload_n hX dX13_typeOfCall_287 rfl rfl ?_
                refine zg_aWhat hX dX13_typeOfCall_288 ?_
                refine zs_iload hX dX13_typeOfCall_291 rfl ?_
                obtain ⟨b23, h⟩ := zgd_e h
                refine zl_aWhat hX dX13_typeOfCall_293 (zin_ok b23) ?_
                obtain ⟨b24, h⟩ := zgd_e h
                refine zl_sFrom hX dX13_typeOfCall_294 (zin_ok b24) ?_
                obtain ⟨b25, h⟩ := zgd_e h
                refine zl_pWord hX dX13_typeOfCall_295 (zin_ok b25) ?_
                obtain ⟨b26, h⟩ := zgd_e h
                refine zl_whose hX dX13_typeOfCall_296 (zin_ok b26) ?_
                obtain ⟨b27, h⟩ := zgd_e h
                refine zl_dType hX dX13_typeOfCall_297 (zin_ok b27) ?_
                refine zs_istore hX dX13_typeOfCall_298 (by decide) rfl ?_
                dsimp only [List.set]
                refine zs_goto (tgt := 323) hX dX13_typeOfCall_300 (by decide) ?_
                refine zs_weak hX (lw := [some (.ref h0), some (.int x1), none, none, some (.int x4), some (.int r6), some (.int ((s4.2.2.1 10 (x1).toNatClampNeg) + x4)), some (.int (s13.2.2.1 31 ((s13.2.2.1 32 ((s13.2.2.1 18 ((s13.2.2.1 13 ((s13.2.2.1 20 (((s4.2.2.1 10 (x1).toNatClampNeg) + x4)).toNatClampNeg)).toNatClampNeg)).toNatClampNeg)).toNatClampNeg)).toNatClampNeg))]) ⟨rfl, rfl, rfl, rfl, rfl, rfl, trivial⟩ ?_
                exact pj_typeOfCall_323 hX hc hk139 h
          · rw [if_neg c11] at h
            refine zs_aload_n hX dX13_typeOfCall_213 rfl rfl ?_
            refine zs_iconst (v := 2) hX dX13_typeOfCall_214 (by decide) ?_
            refine zs_iconst (v := (-1)) hX dX13_typeOfCall_215 (by decide) ?_
            refine zs_iconst (v := (-1)) hX dX13_typeOfCall_216 (by decide) ?_
            obtain ⟨r30, s28, e29, h⟩ := zci_e h
            refine zc_newType hX dX13_typeOfCall_217 (Nat.le_of_ble_eq_true rfl) (hc _ _ _ _ e29) (fun r9 u9 h9 => ?_)
            cases h9
            refine zs_istore hX dX13_typeOfCall_220 (by decide) rfl ?_
            dsimp only [List.set]
            refine zs_goto (tgt := 323) hX dX13_typeOfCall_222 (by decide) ?_
            refine zs_weak hX (lw := [some (.ref h0), some (.int x1), none, none, some (.int x4), some (.int r6), some (.int ((s4.2.2.1 10 (x1).toNatClampNeg) + x4)), some (.int r30)]) ⟨rfl, rfl, rfl, rfl, rfl, rfl, trivial⟩ ?_
            exact pj_typeOfCall_323 hX hc hk139 h
        · rw [if_pos c9] at h
          refine zs_aload_n hX dX13_typeOfCall_186 rfl rfl ?_
          refine zs_aload_n hX dX13_typeOfCall_187 rfl rfl ?_
          refine zg_aWhat hX dX13_typeOfCall_188 ?_
          refine zs_iload hX dX13_typeOfCall_191 rfl ?_
          obtain ⟨b31, h⟩ := zgd_e h
          refine zl_aWhat hX dX13_typeOfCall_193 (zin_ok b31) ?_
          obtain ⟨r34, s32, e33, h⟩ := zci_e h
          refine zc_typeOf hX dX13_typeOfCall_194 (Nat.le_of_ble_eq_true rfl) (hc _ _ _ _ e33) (fun r9 u9 h9 => ?_)
          cases h9
          refine zs_istore hX dX13_typeOfCall_197 (by decide) rfl ?_
          dsimp only [List.set]
          refine zs_goto (tgt := 323) hX dX13_typeOfCall_199 (by decide) ?_
          refine zs_weak hX (lw := [some (.ref h0), some (.int x1), none, none, some (.int x4), some (.int r6), some (.int ((s4.2.2.1 10 (x1).toNatClampNeg) + x4)), some (.int r34)]) ⟨rfl, rfl, rfl, rfl, rfl, rfl, trivial⟩ ?_
          exact pj_typeOfCall_323 hX hc hk139 h
set_option maxHeartbeats 4000000 in
theorem pj_typeOfCall_134 {h0 : Nat} {qs : List Nat} {ks : Nat → Nat} {n : Nat} {call : zCl} {kc : Nat → List Value → zSt → (Option Value → zSt → Prop) → Prop} {v : Option Value × zSt} {X : Nat → zLv → List Value → zSt → Prop} (hX : zSem cX13_typeOfCall 8 (some .int) h0 qs ks kc (fun r u => (r, u) = v) X) (hc : ∀ j av s w, call j av s = some w → kc j av s (fun r u => (r, u) = w)) {x1 : Int32} {x3 : Int32} {σ : zSt} (h : j_typeOfCall_134 n call h0 qs ks x1 x3 σ = some v) : X 134 [some (.ref h0), some (.int x1), none, some (.int x3), none, none, none, none] [] σ := by
  rw [j_typeOfCall_134] at h
  refine zs_iload_n hX dX13_typeOfCall_134 rfl rfl ?_
  refine zs_istore_n hX dX13_typeOfCall_135 rfl (by decide) rfl ?_
  dsimp only [List.set]
  refine zs_iconst (v := 0) hX dX13_typeOfCall_136 (by decide) ?_
  refine zs_istore hX dX13_typeOfCall_137 (by decide) rfl ?_
  dsimp only [List.set]
  refine zs_weak hX (lw := [some (.ref h0), some (.int x1), some (.int x3), none, some (.int 0), none, none, none]) ⟨rfl, rfl, rfl, rfl, trivial⟩ ?_
  exact pl_typeOfCall_139 hX hc n _ _ _ _ h
set_option maxHeartbeats 4000000 in
theorem pj_typeOfCall_120 {h0 : Nat} {qs : List Nat} {ks : Nat → Nat} {n : Nat} {call : zCl} {kc : Nat → List Value → zSt → (Option Value → zSt → Prop) → Prop} {v : Option Value × zSt} {X : Nat → zLv → List Value → zSt → Prop} (hX : zSem cX13_typeOfCall 8 (some .int) h0 qs ks kc (fun r u => (r, u) = v) X) (hc : ∀ j av s w, call j av s = some w → kc j av s (fun r u => (r, u) = w)) {k22 : Int32 → Int32 → Int32 → Int32 → zSt → zRs} (hk22 : ∀ (x1 : Int32) (x2 : Int32) (x3 : Int32) (x4 : Int32) (s : zSt), k22 x1 x2 x3 x4 s = some v → X 22 [some (.ref h0), some (.int x1), some (.int x2), some (.int x3), some (.int x4), none, none, none] [] s) {x1 : Int32} {x3 : Int32} {x4 : Int32} {x5 : Int32} {σ : zSt} (h : j_typeOfCall_120 n call h0 qs ks k22 x1 x3 x4 x5 σ = some v) : X 120 [some (.ref h0), some (.int x1), none, some (.int x3), some (.int x4), some (.int x5), none, none] [] σ := by
  rw [j_typeOfCall_120] at h
  refine zs_aload_n hX dX13_typeOfCall_120 rfl rfl ?_
  refine zg_tRight hX dX13_typeOfCall_121 ?_
  refine zs_iload hX dX13_typeOfCall_124 rfl ?_
  obtain ⟨b1, h⟩ := zgd_e h
  refine zl_tRight hX dX13_typeOfCall_126 (zin_ok b1) ?_
  refine zs_istore_n hX dX13_typeOfCall_127 rfl (by decide) rfl ?_
  dsimp only [List.set]
  refine zs_iinc (v := x4 + 1) hX dX13_typeOfCall_128 rfl rfl (by decide) rfl ?_
  dsimp only [List.set]
  refine zs_goto (tgt := 22) hX dX13_typeOfCall_131 (by decide) ?_
  refine zs_weak hX (lw := [some (.ref h0), some (.int x1), some (.int (σ.2.2.1 36 (x5).toNatClampNeg)), some (.int x3), some (.int (x4 + 1)), none, none, none]) ⟨rfl, rfl, rfl, rfl, rfl, trivial⟩ ?_
  exact hk22 _ _ _ _ _ h
set_option maxHeartbeats 4000000 in
theorem pj_typeOfCall_93 {h0 : Nat} {qs : List Nat} {ks : Nat → Nat} {n : Nat} {call : zCl} {kc : Nat → List Value → zSt → (Option Value → zSt → Prop) → Prop} {v : Option Value × zSt} {X : Nat → zLv → List Value → zSt → Prop} (hX : zSem cX13_typeOfCall 8 (some .int) h0 qs ks kc (fun r u => (r, u) = v) X) (hc : ∀ j av s w, call j av s = some w → kc j av s (fun r u => (r, u) = w)) {k22 : Int32 → Int32 → Int32 → Int32 → zSt → zRs} (hk22 : ∀ (x1 : Int32) (x2 : Int32) (x3 : Int32) (x4 : Int32) (s : zSt), k22 x1 x2 x3 x4 s = some v → X 22 [some (.ref h0), some (.int x1), some (.int x2), some (.int x3), some (.int x4), none, none, none] [] s) {x1 : Int32} {x3 : Int32} {x4 : Int32} {x5 : Int32} {σ : zSt} (h : j_typeOfCall_93 n call h0 qs ks k22 x1 x3 x4 x5 σ = some v) : X 93 [some (.ref h0), some (.int x1), none, some (.int x3), some (.int x4), some (.int x5), none, none] [] σ := by
  rw [j_typeOfCall_93] at h
  refine zs_aload_n hX dX13_typeOfCall_93 rfl rfl ?_
  refine zg_tKind hX dX13_typeOfCall_94 ?_
  refine zs_iload hX dX13_typeOfCall_97 rfl ?_
  obtain ⟨b1, h⟩ := zgd_e h
  refine zl_tKind hX dX13_typeOfCall_99 (zin_ok b1) ?_
  refine zs_iconst (v := 4) hX dX13_typeOfCall_100 (by decide) ?_
  refine zs_icmp_eq (tgt := 120) hX dX13_typeOfCall_101 (by decide) (fun c2 => ?_) (fun c2 => ?_)
  · rw [if_pos c2] at h
    exact pj_typeOfCall_120 hX hc hk22 h
  · rw [if_neg c2] at h
    refine zs_aload_n hX dX13_typeOfCall_104 rfl rfl ?_
    refine zs_iconst (v := 4) hX dX13_typeOfCall_105 (by decide) ?_
    refine zs_aload_n hX dX13_typeOfCall_106 rfl rfl ?_
    refine zg_wAt hX dX13_typeOfCall_107 ?_
    refine zs_aload_n hX dX13_typeOfCall_110 rfl rfl ?_
    refine zg_x1 hX dX13_typeOfCall_111 ?_
    refine zs_iload_n hX dX13_typeOfCall_114 rfl rfl ?_
    obtain ⟨b3, h⟩ := zgd_e h
    refine zl_x1 hX dX13_typeOfCall_115 (zin_ok b3) ?_
    obtain ⟨b4, h⟩ := zgd_e h
    refine zl_wAt hX dX13_typeOfCall_116 (zin_ok b4) ?_
    obtain ⟨s5, e6, h⟩ := zcv_e h
    refine zc_fault hX dX13_typeOfCall_117 (Nat.le_of_ble_eq_true rfl) (hc _ _ _ _ e6) (fun u9 h9 => ?_)
    cases h9
    exact pj_typeOfCall_120 hX hc hk22 h
set_option maxHeartbeats 4000000 in
theorem pl_typeOfCall_22 {h0 : Nat} {qs : List Nat} {ks : Nat → Nat} {n : Nat} {call : zCl} {kc : Nat → List Value → zSt → (Option Value → zSt → Prop) → Prop} {v : Option Value × zSt} {X : Nat → zLv → List Value → zSt → Prop} (hX : zSem cX13_typeOfCall 8 (some .int) h0 qs ks kc (fun r u => (r, u) = v) X) (hc : ∀ j av s w, call j av s = some w → kc j av s (fun r u => (r, u) = w)) : ∀ (f : Nat) (x1 : Int32) (x2 : Int32) (x3 : Int32) (x4 : Int32) (σ : zSt), l_typeOfCall_22 n call h0 qs ks f x1 x2 x3 x4 σ = some v → X 22 [some (.ref h0), some (.int x1), some (.int x2), some (.int x3), some (.int x4), none, none, none] [] σ := by
  intro f
  induction f with
  | zero => intro x1 x2 x3 x4 σ h; cases h
  | succ f hk22 =>
    intro x1 x2 x3 x4 σ h
    rw [l_typeOfCall_22] at h
    refine zs_iload hX dX13_typeOfCall_22 rfl ?_
    refine zs_aload_n hX dX13_typeOfCall_24 rfl rfl ?_
    refine zg_x3 hX dX13_typeOfCall_25 ?_
    refine zs_iload_n hX dX13_typeOfCall_28 rfl rfl ?_
    obtain ⟨b1, h⟩ := zgd_e h
    refine zl_x3 hX dX13_typeOfCall_29 (zin_ok b1) ?_
    refine zs_icmp_ge (tgt := 134) hX dX13_typeOfCall_30 (by decide) (fun c2 => ?_) (fun c2 => ?_)
    · rw [if_pos c2] at h
      refine zs_weak hX (lw := [some (.ref h0), some (.int x1), none, some (.int x3), none, none, none, none]) ⟨rfl, rfl, rfl, trivial⟩ ?_
      exact pj_typeOfCall_134 hX hc h
    · rw [if_neg c2] at h
      refine zs_aload_n hX dX13_typeOfCall_33 rfl rfl ?_
      refine zg_bad hX dX13_typeOfCall_34 ?_
      refine zs_if_ne (tgt := 134) hX dX13_typeOfCall_37 (by decide) (fun c3 => ?_) (fun c3 => ?_)
      · rw [if_neg c3] at h
        refine zs_weak hX (lw := [some (.ref h0), some (.int x1), none, some (.int x3), none, none, none, none]) ⟨rfl, rfl, rfl, trivial⟩ ?_
        exact pj_typeOfCall_134 hX hc h
      · rw [if_pos c3] at h
        refine zs_aload_n hX dX13_typeOfCall_40 rfl rfl ?_
        refine zs_iload_n hX dX13_typeOfCall_41 rfl rfl ?_
        obtain ⟨r6, s4, e5, h⟩ := zci_e h
        refine zc_real hX dX13_typeOfCall_42 (Nat.le_of_ble_eq_true rfl) (hc _ _ _ _ e5) (fun r9 u9 h9 => ?_)
        cases h9
        refine zs_istore hX dX13_typeOfCall_45 (by decide) rfl ?_
        dsimp only [List.set]
        refine zs_aload_n hX dX13_typeOfCall_47 rfl rfl ?_
        refine zg_tKind hX dX13_typeOfCall_48 ?_
        refine zs_iload hX dX13_typeOfCall_51 rfl ?_
        obtain ⟨b7, h⟩ := zgd_e h
        refine zl_tKind hX dX13_typeOfCall_53 (zin_ok b7) ?_
        refine zs_if_ne (tgt := 93) hX dX13_typeOfCall_54 (by decide) (fun c8 => ?_) (fun c8 => ?_)
        · rw [if_neg c8] at h
          refine zs_weak hX (lw := [some (.ref h0), some (.int x1), none, some (.int x3), some (.int x4), some (.int r6), none, none]) ⟨rfl, rfl, rfl, rfl, rfl, trivial⟩ ?_
          exact pj_typeOfCall_93 hX hc hk22 h
        · rw [if_pos c8] at h
          refine zs_aload_n hX dX13_typeOfCall_57 rfl rfl ?_
          obtain ⟨r11, s9, e10, h⟩ := zci_e h
          refine zc_openType hX dX13_typeOfCall_58 (Nat.le_of_ble_eq_true rfl) (hc _ _ _ _ e10) (fun r9 u9 h9 => ?_)
          cases h9
          refine zs_istore hX dX13_typeOfCall_61 (by decide) rfl ?_
          dsimp only [List.set]
          refine zs_aload_n hX dX13_typeOfCall_63 rfl rfl ?_
          obtain ⟨r14, s12, e13, h⟩ := zci_e h
          refine zc_openType hX dX13_typeOfCall_64 (Nat.le_of_ble_eq_true rfl) (hc _ _ _ _ e13) (fun r9 u9 h9 => ?_)
          cases h9
          refine zs_istore hX dX13_typeOfCall_67 (by decide) rfl ?_
          dsimp only [List.set]
          refine zs_aload_n hX dX13_typeOfCall_69 rfl rfl ?_
          refine zg_tLink hX dX13_typeOfCall_70 ?_
          refine zs_iload hX dX13_typeOfCall_73 rfl ?_
          refine zs_aload_n hX dX13_typeOfCall_75 rfl rfl ?_
          refine zs_iconst (v := 4) hX dX13_typeOfCall_76 (by decide) ?_
          refine zs_iload hX dX13_typeOfCall_77 rfl ?_
          refine zs_iload hX dX13_typeOfCall_79 rfl ?_
          obtain ⟨r17, s15, e16, h⟩ := zci_e h
          refine zc_newType hX dX13_typeOfCall_81 (Nat.le_of_ble_eq_true rfl) (hc _ _ _ _ e16) (fun r9 u9 h9 => ?_)
          cases h9
          obtain ⟨b18, h⟩ := zgd_e h
          obtain ⟨s19, e20, h⟩ := zlet_e h
          refine zt_tLink hX dX13_typeOfCall_84 (zin_ok b18) ?_
          rw [← e20]
          refine zs_aload_n hX dX13_typeOfCall_85 rfl rfl ?_
          refine zs_iload hX dX13_typeOfCall_86 rfl ?_
          obtain ⟨r23, s21, e22, h⟩ := zci_e h
          refine zc_real hX dX13_typeOfCall_88 (Nat.le_of_ble_eq_true rfl) (hc _ _ _ _ e22) (fun r9 u9 h9 => ?_)
          cases h9
          refine zs_istore hX dX13_typeOfCall_91 (by decide) rfl ?_
          dsimp only [List.set]
          refine zs_weak hX (lw := [some (.ref h0), some (.int x1), none, some (.int x3), some (.int x4), some (.int r23), none, none]) ⟨rfl, rfl, rfl, rfl, rfl, trivial⟩ ?_
          exact pj_typeOfCall_93 hX hc hk22 h
set_option maxHeartbeats 4000000 in
theorem pb_typeOfCall {h0 : Nat} {qs : List Nat} {ks : Nat → Nat} {n : Nat} {call : zCl} {kc : Nat → List Value → zSt → (Option Value → zSt → Prop) → Prop} {v : Option Value × zSt} {X : Nat → zLv → List Value → zSt → Prop} (hX : zSem cX13_typeOfCall 8 (some .int) h0 qs ks kc (fun r u => (r, u) = v) X) (hc : ∀ j av s w, call j av s = some w → kc j av s (fun r u => (r, u) = w)) {x1 : Int32} {σ : zSt} (h : b_typeOfCall n call h0 qs ks x1 σ = some v) : X 0 [some (.ref h0), some (.int x1), none, none, none, none, none, none] [] σ := by
  rw [b_typeOfCall] at h
  refine zs_aload_n hX dX13_typeOfCall_0 rfl rfl ?_
  refine zg_dType hX dX13_typeOfCall_1 ?_
  refine zs_aload_n hX dX13_typeOfCall_4 rfl rfl ?_
  refine zg_whose hX dX13_typeOfCall_5 ?_
  refine zs_aload_n hX dX13_typeOfCall_8 rfl rfl ?_
  refine zg_x1 hX dX13_typeOfCall_9 ?_
  refine zs_iload_n hX dX13_typeOfCall_12 rfl rfl ?_
  obtain ⟨b1, h⟩ := zgd_e h
  refine zl_x1 hX dX13_typeOfCall_13 (zin_ok b1) ?_
  obtain ⟨b2, h⟩ := zgd_e h
  refine zl_whose hX dX13_typeOfCall_14 (zin_ok b2) ?_
  obtain ⟨b3, h⟩ := zgd_e h
  refine zl_dType hX dX13_typeOfCall_15 (zin_ok b3) ?_
  refine zs_istore_n hX dX13_typeOfCall_16 rfl (by decide) rfl ?_
  dsimp only [List.set]
  refine zs_iload_n hX dX13_typeOfCall_17 rfl rfl ?_
  refine zs_istore_n hX dX13_typeOfCall_18 rfl (by decide) rfl ?_
  dsimp only [List.set]
  refine zs_iconst (v := 0) hX dX13_typeOfCall_19 (by decide) ?_
  refine zs_istore hX dX13_typeOfCall_20 (by decide) rfl ?_
  dsimp only [List.set]
  exact pl_typeOfCall_22 hX hc n _ _ _ _ _ h
def j_typed_269 (n : Nat) (call : zCl) (h0 : Nat) (qs : List Nat) (ks : Nat → Nat) (x1 : Int32) (σ : zSt) : zRs :=
  zgd (zin x1 2100) (
  zci (call 49 [.ref h0, .int (σ.2.2.1 12 (x1).toNatClampNeg)] σ) fun r4 s2 =>
  some (some (.int r4), s2))
def l_typed_152 (n : Nat) (call : zCl) (h0 : Nat) (qs : List Nat) (ks : Nat → Nat) : Nat → Int32 → Int32 → Int32 → Int32 → zSt → zRs
  | 0, _, _, _, _, _ => none
  | f + 1, x1, x3, x4, x5, σ =>
    if x5 < 0 then
      zgd (zin x1 2100) (
      zgd (zin (σ.2.2.1 9 (x1).toNatClampNeg) 2010) (
      zgd (zin (σ.2.2.1 32 ((σ.2.2.1 9 (x1).toNatClampNeg)).toNatClampNeg) 700) (zlet (zA σ 31 (upd (σ.2.2.1 31) ((σ.2.2.1 32 ((σ.2.2.1 9 (x1).toNatClampNeg)).toNatClampNeg)).toNatClampNeg x4)) fun s5 =>
      zgd (zin x1 2100) (
      zci (call 49 [.ref h0, .int (s5.2.2.1 11 (x1).toNatClampNeg)] s5) fun r10 s8 =>
      if (s8.1 11) = 0 then
        zci (call 44 [.ref h0, .int r10, .int x3] s8) fun r14 s12 =>
        if r14 = 0 then
          zgd (zin x1 2100) (
          zgd (zin (s12.2.2.1 11 (x1).toNatClampNeg) 2100) (
          zcv (call 3 [.ref h0, .int 4, .int (s12.2.2.1 7 ((s12.2.2.1 11 (x1).toNatClampNeg)).toNatClampNeg)] s12) fun s18 =>
          j_typed_269 n call h0 qs ks x1 s18))
        else
          j_typed_269 n call h0 qs ks x1 s12
      else
        j_typed_269 n call h0 qs ks x1 s8))))
    else
      zgd (zin x1 2100) (
      zgd (zin ((σ.2.2.1 10 (x1).toNatClampNeg) + x5) 2010) (
      zci (call 41 [.ref h0] σ) fun r24 s22 =>
      zgd (zin (σ.2.2.1 32 (((σ.2.2.1 10 (x1).toNatClampNeg) + x5)).toNatClampNeg) 700) (zlet (zA s22 31 (upd (s22.2.2.1 31) ((σ.2.2.1 32 (((σ.2.2.1 10 (x1).toNatClampNeg) + x5)).toNatClampNeg)).toNatClampNeg r24)) fun s26 =>
      zgd (zin (σ.2.2.1 32 (((σ.2.2.1 10 (x1).toNatClampNeg) + x5)).toNatClampNeg) 700) (
      zci (call 40 [.ref h0, .int 4, .int (s26.2.2.1 31 ((σ.2.2.1 32 (((σ.2.2.1 10 (x1).toNatClampNeg) + x5)).toNatClampNeg)).toNatClampNeg), .int x4] s26) fun r31 s29 =>
      l_typed_152 n call h0 qs ks f x1 x3 r31 (x5 + (-1)) s29))))
def b_typed (n : Nat) (call : zCl) (h0 : Nat) (qs : List Nat) (ks : Nat → Nat) (x1 : Int32) (σ : zSt) : zRs :=
  zgd (zin x1 2100) (
  if (σ.2.2.1 6 (x1).toNatClampNeg) = 1 then
    zgd (zin x1 2100) (
    zgd (zin (σ.2.2.1 9 (x1).toNatClampNeg) 2010) (
    zgd (zin x1 2100) (
    zci (call 49 [.ref h0, .int (σ.2.2.1 11 (x1).toNatClampNeg)] σ) fun r8 s6 =>
    zgd (zin (σ.2.2.1 32 ((σ.2.2.1 9 (x1).toNatClampNeg)).toNatClampNeg) 700) (zlet (zA s6 31 (upd (s6.2.2.1 31) ((σ.2.2.1 32 ((σ.2.2.1 9 (x1).toNatClampNeg)).toNatClampNeg)).toNatClampNeg r8)) fun s10 =>
    zgd (zin x1 2100) (
    zci (call 49 [.ref h0, .int (s10.2.2.1 12 (x1).toNatClampNeg)] s10) fun r15 s13 =>
    some (some (.int r15), s13))))))
  else
  if (σ.2.2.1 6 (x1).toNatClampNeg) = 2 then
    zci (call 38 [.ref h0, .int x1] σ) fun r19 s17 =>
    zci (call 41 [.ref h0] s17) fun r22 s20 =>
    l_typed_152 n call h0 qs ks n x1 r22 r22 (r19 - 1) s20
  else
  if (σ.2.2.1 6 (x1).toNatClampNeg) = 3 then
    zgd (zin x1 2100) (
    zgd (zin (σ.2.2.1 9 (x1).toNatClampNeg) 2010) (
    zci (call 41 [.ref h0] σ) fun r28 s26 =>
    zgd (zin (σ.2.2.1 32 ((σ.2.2.1 9 (x1).toNatClampNeg)).toNatClampNeg) 700) (zlet (zA s26 31 (upd (s26.2.2.1 31) ((σ.2.2.1 32 ((σ.2.2.1 9 (x1).toNatClampNeg)).toNatClampNeg)).toNatClampNeg r28)) fun s30 =>
    zgd (zin x1 2100) (
    zci (call 49 [.ref h0, .int (s30.2.2.1 11 (x1).toNatClampNeg)] s30) fun r35 s33 =>
    zgd (zin (σ.2.2.1 32 ((σ.2.2.1 9 (x1).toNatClampNeg)).toNatClampNeg) 700) (
    zci (call 40 [.ref h0, .int 4, .int (s33.2.2.1 31 ((σ.2.2.1 32 ((σ.2.2.1 9 (x1).toNatClampNeg)).toNatClampNeg)).toNatClampNeg), .int r35] s33) fun r39 s37 =>
    some (some (.int r39), s37))))))
  else
  if (σ.2.2.1 6 (x1).toNatClampNeg) = 4 then
    zgd (zin x1 2100) (
    zcv (call 47 [.ref h0, .int (σ.2.2.1 9 (x1).toNatClampNeg)] σ) fun s42 =>
    zgd (zin x1 2100) (
    zci (call 49 [.ref h0, .int (s42.2.2.1 11 (x1).toNatClampNeg)] s42) fun r47 s45 =>
    zgd (zin x1 2100) (
    zci (call 49 [.ref h0, .int (s45.2.2.1 12 (x1).toNatClampNeg)] s45) fun r51 s49 =>
    if (s49.1 11) = 0 then
      zci (call 44 [.ref h0, .int r51, .int r47] s49) fun r55 s53 =>
      if r55 = 0 then
        zgd (zin x1 2100) (
        zgd (zin (s53.2.2.1 12 (x1).toNatClampNeg) 2100) (
        zcv (call 3 [.ref h0, .int 4, .int (s53.2.2.1 7 ((s53.2.2.1 12 (x1).toNatClampNeg)).toNatClampNeg)] s53) fun s59 =>
        some (some (.int r47), s59)))
      else
        some (some (.int r47), s53)
    else
      some (some (.int r47), s49))))
  else
  if (σ.2.2.1 6 (x1).toNatClampNeg) = 5 then
    zgd (zin x1 2100) (
    zcv (call 47 [.ref h0, .int (σ.2.2.1 9 (x1).toNatClampNeg)] σ) fun s63 =>
    zgd (zin x1 2100) (
    zci (call 49 [.ref h0, .int (s63.2.2.1 11 (x1).toNatClampNeg)] s63) fun r68 s66 =>
    some (some (.int r68), s66)))
  else
  if (σ.2.2.1 6 (x1).toNatClampNeg) = 6 then
    zgd (zin x1 2100) (
    zgd (zin (σ.2.2.1 9 (x1).toNatClampNeg) 2010) (
    zgd (zin (σ.2.2.1 32 ((σ.2.2.1 9 (x1).toNatClampNeg)).toNatClampNeg) 700) (
    zgd (zin x1 2100) (
    zgd (zin (σ.2.2.1 9 (x1).toNatClampNeg) 2010) (
    zcv (call 45 [.ref h0, .int (σ.2.2.1 31 ((σ.2.2.1 32 ((σ.2.2.1 9 (x1).toNatClampNeg)).toNatClampNeg)).toNatClampNeg), .int 3, .int (σ.2.2.1 4 ((σ.2.2.1 9 (x1).toNatClampNeg)).toNatClampNeg)] σ) fun s75 =>
    zgd (zin x1 2100) (
    zcv (call 46 [.ref h0, .int (s75.2.2.1 10 (x1).toNatClampNeg)] s75) fun s78 =>
    zgd (zin x1 2100) (
    zcv (call 46 [.ref h0, .int (s78.2.2.1 11 (x1).toNatClampNeg)] s78) fun s81 =>
    zgd (zin x1 2100) (
    zci (call 49 [.ref h0, .int (s81.2.2.1 12 (x1).toNatClampNeg)] s81) fun r86 s84 =>
    some (some (.int r86), s84)))))))))
  else
  if (σ.2.2.1 6 (x1).toNatClampNeg) = 7 then
    zgd (zin x1 2100) (
    zcv (call 46 [.ref h0, .int (σ.2.2.1 10 (x1).toNatClampNeg)] σ) fun s89 =>
    zci (call 40 [.ref h0, .int 3, .int (-1), .int (-1)] s89) fun r93 s91 =>
    some (some (.int r93), s91))
  else
  if (σ.2.2.1 6 (x1).toNatClampNeg) = 8 then
    zci (call 40 [.ref h0, .int 2, .int (-1), .int (-1)] σ) fun r97 s95 =>
    some (some (.int r97), s95)
  else
  if (σ.2.2.1 6 (x1).toNatClampNeg) = 9 then
    zci (call 40 [.ref h0, .int 2, .int (-1), .int (-1)] σ) fun r101 s99 =>
    some (some (.int r101), s99)
  else
  if (σ.2.2.1 6 (x1).toNatClampNeg) = 10 then
    zgd (zin x1 2100) (
    zci (call 48 [.ref h0, .int (σ.2.2.1 10 (x1).toNatClampNeg)] σ) fun r106 s104 =>
    if r106 = 0 then
      zgd (zin x1 2100) (
      zcv (call 46 [.ref h0, .int (s104.2.2.1 10 (x1).toNatClampNeg)] s104) fun s109 =>
      zci (call 40 [.ref h0, .int 1, .int (-1), .int (-1)] s109) fun r113 s111 =>
      some (some (.int r113), s111))
    else
      zgd (zin x1 2100) (
      zgd (zin (s104.2.2.1 10 (x1).toNatClampNeg) 2100) (
      zgd (zin (s104.2.2.1 13 ((s104.2.2.1 10 (x1).toNatClampNeg)).toNatClampNeg) 2100) (
      zgd (zin (s104.2.2.1 18 ((s104.2.2.1 13 ((s104.2.2.1 10 (x1).toNatClampNeg)).toNatClampNeg)).toNatClampNeg) 2010) (
      zgd (zin (s104.2.2.1 32 ((s104.2.2.1 18 ((s104.2.2.1 13 ((s104.2.2.1 10 (x1).toNatClampNeg)).toNatClampNeg)).toNatClampNeg)).toNatClampNeg) 700) (
      some (some (.int (s104.2.2.1 31 ((s104.2.2.1 32 ((s104.2.2.1 18 ((s104.2.2.1 13 ((s104.2.2.1 10 (x1).toNatClampNeg)).toNatClampNeg)).toNatClampNeg)).toNatClampNeg)).toNatClampNeg)), s104)))))))
  else
  if (σ.2.2.1 6 (x1).toNatClampNeg) = 11 then
    zgd (zin x1 2100) (
    zcv (call 46 [.ref h0, .int (σ.2.2.1 10 (x1).toNatClampNeg)] σ) fun s121 =>
    zgd (zin x1 2100) (
    zcv (call 46 [.ref h0, .int (s121.2.2.1 11 (x1).toNatClampNeg)] s121) fun s124 =>
    zci (call 40 [.ref h0, .int 1, .int (-1), .int (-1)] s124) fun r128 s126 =>
    some (some (.int r128), s126)))
  else
  if (σ.2.2.1 6 (x1).toNatClampNeg) = 12 then
    zgd (zin x1 2100) (
    zcv (call 46 [.ref h0, .int (σ.2.2.1 10 (x1).toNatClampNeg)] σ) fun s131 =>
    zgd (zin x1 2100) (
    zcv (call 46 [.ref h0, .int (s131.2.2.1 11 (x1).toNatClampNeg)] s131) fun s134 =>
    zci (call 40 [.ref h0, .int 1, .int (-1), .int (-1)] s134) fun r138 s136 =>
    some (some (.int r138), s136)))
  else
  if (σ.2.2.1 6 (x1).toNatClampNeg) = 13 then
    zgd (zin x1 2100) (
    zcv (call 46 [.ref h0, .int (σ.2.2.1 10 (x1).toNatClampNeg)] σ) fun s141 =>
    zgd (zin x1 2100) (
    zcv (call 46 [.ref h0, .int (s141.2.2.1 11 (x1).toNatClampNeg)] s141) fun s144 =>
    zci (call 40 [.ref h0, .int 1, .int (-1), .int (-1)] s144) fun r148 s146 =>
    some (some (.int r148), s146)))
  else
  if (σ.2.2.1 6 (x1).toNatClampNeg) = 14 then
    zgd (zin x1 2100) (
    zgd (zin (σ.2.2.1 9 (x1).toNatClampNeg) 2010) (
    zgd (zin (σ.2.2.1 32 ((σ.2.2.1 9 (x1).toNatClampNeg)).toNatClampNeg) 700) (
    zgd (zin x1 2100) (
    zgd (zin (σ.2.2.1 9 (x1).toNatClampNeg) 2010) (
    zcv (call 45 [.ref h0, .int (σ.2.2.1 31 ((σ.2.2.1 32 ((σ.2.2.1 9 (x1).toNatClampNeg)).toNatClampNeg)).toNatClampNeg), .int 3, .int (σ.2.2.1 4 ((σ.2.2.1 9 (x1).toNatClampNeg)).toNatClampNeg)] σ) fun s155 =>
    zgd (zin x1 2100) (
    zcv (call 46 [.ref h0, .int (s155.2.2.1 10 (x1).toNatClampNeg)] s155) fun s158 =>
    zci (call 40 [.ref h0, .int 1, .int (-1), .int (-1)] s158) fun r162 s160 =>
    some (some (.int r162), s160)))))))
  else
  if (σ.2.2.1 6 (x1).toNatClampNeg) = 15 then
    zci (call 50 [.ref h0, .int x1] σ) fun r166 s164 =>
    some (some (.int r166), s164)
  else
  if (σ.2.2.1 6 (x1).toNatClampNeg) = 16 then
    zgd (zin x1 2100) (
    zci (call 49 [.ref h0, .int (σ.2.2.1 11 (x1).toNatClampNeg)] σ) fun r171 s169 =>
    some (some (.int r171), s169))
  else
  if (σ.2.2.1 6 (x1).toNatClampNeg) = 17 then
    zci (call 40 [.ref h0, .int 5, .int (-1), .int (-1)] σ) fun r175 s173 =>
    some (some (.int r175), s173)
  else
  if (σ.2.2.1 6 (x1).toNatClampNeg) = 18 then
    zgd (zin x1 2100) (
    zcv (call 46 [.ref h0, .int (σ.2.2.1 10 (x1).toNatClampNeg)] σ) fun s178 =>
    zgd (zin x1 2100) (
    zgd (zin (s178.2.2.1 9 (x1).toNatClampNeg) 2010) (
    zgd (zin (s178.2.2.1 32 ((s178.2.2.1 9 (x1).toNatClampNeg)).toNatClampNeg) 700) (
    zgd (zin x1 2100) (
    zgd (zin (s178.2.2.1 9 (x1).toNatClampNeg) 2010) (
    zcv (call 45 [.ref h0, .int (s178.2.2.1 31 ((s178.2.2.1 32 ((s178.2.2.1 9 (x1).toNatClampNeg)).toNatClampNeg)).toNatClampNeg), .int 5, .int (s178.2.2.1 4 ((s178.2.2.1 9 (x1).toNatClampNeg)).toNatClampNeg)] s178) fun s185 =>
    zci (call 40 [.ref h0, .int 5, .int (-1), .int (-1)] s185) fun r189 s187 =>
    some (some (.int r189), s187)))))))
  else
  if (σ.2.2.1 6 (x1).toNatClampNeg) = 19 then
    zgd (zin x1 2100) (
    zgd (zin (σ.2.2.1 9 (x1).toNatClampNeg) 2010) (
    zgd (zin (σ.2.2.1 32 ((σ.2.2.1 9 (x1).toNatClampNeg)).toNatClampNeg) 700) (
    zgd (zin x1 2100) (
    zgd (zin (σ.2.2.1 9 (x1).toNatClampNeg) 2010) (
    zcv (call 45 [.ref h0, .int (σ.2.2.1 31 ((σ.2.2.1 32 ((σ.2.2.1 9 (x1).toNatClampNeg)).toNatClampNeg)).toNatClampNeg), .int 5, .int (σ.2.2.1 4 ((σ.2.2.1 9 (x1).toNatClampNeg)).toNatClampNeg)] σ) fun s196 =>
    zgd (zin x1 2100) (
    zci (call 49 [.ref h0, .int (s196.2.2.1 11 (x1).toNatClampNeg)] s196) fun r201 s199 =>
    zgd (zin x1 2100) (
    zgd (zin (s199.2.2.1 10 (x1).toNatClampNeg) 2010) (
    zci (call 40 [.ref h0, .int 1, .int (-1), .int (-1)] s199) fun r206 s204 =>
    zgd (zin (s199.2.2.1 32 ((s199.2.2.1 10 (x1).toNatClampNeg)).toNatClampNeg) 700) (zlet (zA s204 31 (upd (s204.2.2.1 31) ((s199.2.2.1 32 ((s199.2.2.1 10 (x1).toNatClampNeg)).toNatClampNeg)).toNatClampNeg r206)) fun s208 =>
    zgd (zin x1 2100) (
    zgd (zin ((s208.2.2.1 10 (x1).toNatClampNeg) + 1) 2010) (
    zci (call 40 [.ref h0, .int 5, .int (-1), .int (-1)] s208) fun r214 s212 =>
    zgd (zin (s208.2.2.1 32 (((s208.2.2.1 10 (x1).toNatClampNeg) + 1)).toNatClampNeg) 700) (zlet (zA s212 31 (upd (s212.2.2.1 31) ((s208.2.2.1 32 (((s208.2.2.1 10 (x1).toNatClampNeg) + 1)).toNatClampNeg)).toNatClampNeg r214)) fun s216 =>
    zgd (zin x1 2100) (
    zci (call 49 [.ref h0, .int (s216.2.2.1 12 (x1).toNatClampNeg)] s216) fun r221 s219 =>
    if (s219.1 11) = 0 then
      zci (call 44 [.ref h0, .int r221, .int r201] s219) fun r225 s223 =>
      if r225 = 0 then
        zgd (zin x1 2100) (
        zgd (zin (s223.2.2.1 12 (x1).toNatClampNeg) 2100) (
        zcv (call 3 [.ref h0, .int 4, .int (s223.2.2.1 7 ((s223.2.2.1 12 (x1).toNatClampNeg)).toNatClampNeg)] s223) fun s229 =>
        some (some (.int r201), s229)))
      else
        some (some (.int r201), s223)
    else
      some (some (.int r201), s219))))))))))))))
  else
  zgd (zin x1 2100) (
  zci (call 49 [.ref h0, .int (σ.2.2.1 11 (x1).toNatClampNeg)] σ) fun r234 s232 =>
  some (some (.int r234), s232)))
set_option maxHeartbeats 4000000 in
theorem pj_typed_269 {h0 : Nat} {qs : List Nat} {ks : Nat → Nat} {n : Nat} {call : zCl} {kc : Nat → List Value → zSt → (Option Value → zSt → Prop) → Prop} {v : Option Value × zSt} {X : Nat → zLv → List Value → zSt → Prop} (hX : zSem cX13_typed 7 (some .int) h0 qs ks kc (fun r u => (r, u) = v) X) (hc : ∀ j av s w, call j av s = some w → kc j av s (fun r u => (r, u) = w)) {x1 : Int32} {σ : zSt} (h : j_typed_269 n call h0 qs ks x1 σ = some v) : X 269 [some (.ref h0), some (.int x1), none, none, none, none, none] [] σ := by
  rw [j_typed_269] at h
  refine zs_aload_n hX dX13_typed_269 rfl rfl ?_
  refine zs_aload_n hX dX13_typed_270 rfl rfl ?_
  refine zg_x4 hX dX13_typed_271 ?_
  refine zs_iload_n hX dX13_typed_274 rfl rfl ?_
  obtain ⟨b1, h⟩ := zgd_e h
  refine zl_x4 hX dX13_typed_275 (zin_ok b1) ?_
  obtain ⟨r4, s2, e3, h⟩ := zci_e h
  refine zc_typeOf hX dX13_typed_276 (Nat.le_of_ble_eq_true rfl) (hc _ _ _ _ e3) (fun r9 u9 h9 => ?_)
  cases h9
  exact zs_iret hX dX13_typed_279 rfl (Option.some.inj h)
set_option maxHeartbeats 4000000 in
theorem pl_typed_152 {h0 : Nat} {qs : List Nat} {ks : Nat → Nat} {n : Nat} {call : zCl} {kc : Nat → List Value → zSt → (Option Value → zSt → Prop) → Prop} {v : Option Value × zSt} {X : Nat → zLv → List Value → zSt → Prop} (hX : zSem cX13_typed 7 (some .int) h0 qs ks kc (fun r u => (r, u) = v) X) (hc : ∀ j av s w, call j av s = some w → kc j av s (fun r u => (r, u) = w)) : ∀ (f : Nat) (x1 : Int32) (x3 : Int32) (x4 : Int32) (x5 : Int32) (σ : zSt), l_typed_152 n call h0 qs ks f x1 x3 x4 x5 σ = some v → X 152 [some (.ref h0), some (.int x1), none, some (.int x3), some (.int x4), some (.int x5), none] [] σ := by
  intro f
  induction f with
  | zero => intro x1 x3 x4 x5 σ h; cases h
  | succ f hk152 =>
    intro x1 x3 x4 x5 σ h
    rw [l_typed_152] at h
    refine zs_iload hX dX13_typed_152 rfl ?_
    refine zs_if_lt (tgt := 206) hX dX13_typed_154 (by decide) (fun c1 => ?_) (fun c1 => ?_)
    · rw [if_pos c1] at h
      refine zs_aload_n hX dX13_typed_206 rfl rfl ?_
      refine zg_dType hX dX13_typed_207 ?_
      refine zs_aload_n hX dX13_typed_210 rfl rfl ?_
      refine zg_whose hX dX13_typed_211 ?_
      refine zs_aload_n hX dX13_typed_214 rfl rfl ?_
      refine zg_x1 hX dX13_typed_215 ?_
      refine zs_iload_n hX dX13_typed_218 rfl rfl ?_
      obtain ⟨b2, h⟩ := zgd_e h
      refine zl_x1 hX dX13_typed_219 (zin_ok b2) ?_
      obtain ⟨b3, h⟩ := zgd_e h
      refine zl_whose hX dX13_typed_220 (zin_ok b3) ?_
      refine zs_iload hX dX13_typed_221 rfl ?_
      obtain ⟨b4, h⟩ := zgd_e h
      obtain ⟨s5, e6, h⟩ := zlet_e h
      refine zt_dType hX dX13_typed_223 (zin_ok b4) ?_
      rw [← e6]
      refine zs_aload_n hX dX13_typed_224 rfl rfl ?_
      refine zs_aload_n hX dX13_typed_225 rfl rfl ?_
      refine zg_x3 hX dX13_typed_226 ?_
      refine zs_iload_n hX dX13_typed_229 rfl rfl ?_
      obtain ⟨b7, h⟩ := zgd_e h
      refine zl_x3 hX dX13_typed_230 (zin_ok b7) ?_
      obtain ⟨r10, s8, e9, h⟩ := zci_e h
      refine zc_typeOf hX dX13_typed_231 (Nat.le_of_ble_eq_true rfl) (hc _ _ _ _ e9) (fun r9 u9 h9 => ?_)
      cases h9
      refine zs_istore hX dX13_typed_234 (by decide) rfl ?_
      dsimp only [List.set]
      refine zs_aload_n hX dX13_typed_236 rfl rfl ?_
      refine zg_bad hX dX13_typed_237 ?_
      refine zs_if_ne (tgt := 269) hX dX13_typed_240 (by decide) (fun c11 => ?_) (fun c11 => ?_)
      · rw [if_neg c11] at h
        refine zs_weak hX (lw := [some (.ref h0), some (.int x1), none, none, none, none, none]) ⟨rfl, rfl, trivial⟩ ?_
        exact pj_typed_269 hX hc h
      · rw [if_pos c11] at h
        refine zs_aload_n hX dX13_typed_243 rfl rfl ?_
        refine zs_iload hX dX13_typed_244 rfl ?_
        refine zs_iload_n hX dX13_typed_246 rfl rfl ?_
        obtain ⟨r14, s12, e13, h⟩ := zci_e h
        refine zc_join hX dX13_typed_247 (Nat.le_of_ble_eq_true rfl) (hc _ _ _ _ e13) (fun r9 u9 h9 => ?_)
        cases h9
        refine zs_if_ne (tgt := 269) hX dX13_typed_250 (by decide) (fun c15 => ?_) (fun c15 => ?_)
        · rw [if_neg c15] at h
          refine zs_weak hX (lw := [some (.ref h0), some (.int x1), none, none, none, none, none]) ⟨rfl, rfl, trivial⟩ ?_
          exact pj_typed_269 hX hc h
        · rw [if_pos c15] at h
          refine zs_aload_n hX dX13_typed_253 rfl rfl ?_
          refine zs_iconst (v := 4) hX dX13_typed_254 (by decide) ?_
          refine zs_aload_n hX dX13_typed_255 rfl rfl ?_
          refine zg_at hX dX13_typed_256 ?_
          refine zs_aload_n hX dX13_typed_259 rfl rfl ?_
          refine zg_x3 hX dX13_typed_260 ?_
          refine zs_iload_n hX dX13_typed_263 rfl rfl ?_
          obtain ⟨b16, h⟩ := zgd_e h
          refine zl_x3 hX dX13_typed_264 (zin_ok b16) ?_
          obtain ⟨b17, h⟩ := zgd_e h
          refine zl_at hX dX13_typed_265 (zin_ok b17) ?_
          obtain ⟨s18, e19, h⟩ := zcv_e h
          refine zc_fault hX dX13_typed_266 (Nat.le_of_ble_eq_true rfl) (hc _ _ _ _ e19) (fun u9 h9 => ?_)
          cases h9
          refine zs_weak hX (lw := [some (.ref h0), some (.int x1), none, none, none, none, none]) ⟨rfl, rfl, trivial⟩ ?_
          exact pj_typed_269 hX hc h
    · rw [if_neg c1] at h
      refine zs_aload_n hX dX13_typed_157 rfl rfl ?_
      refine zg_whose hX dX13_typed_158 ?_
      refine zs_aload_n hX dX13_typed_161 rfl rfl ?_
      refine zg_x2 hX dX13_typed_162 ?_
      refine zs_iload_n hX dX13_typed_165 rfl rfl ?_
      obtain ⟨b20, h⟩ := zgd_e h
      refine zl_x2 hX dX13_typed_166 (zin_ok b20) ?_
      refine zs_iload hX dX13_typed_167 rfl ?_
      refine zs_iadd hX dX13_typed_169 ?_
      obtain ⟨b21, h⟩ := zgd_e h
      refine zl_whose hX dX13_typed_170 (zin_ok b21) ?_
      refine zs_istore hX dX13_typed_171 (by decide) rfl ?_
      dsimp only [List.set]
      refine zs_aload_n hX dX13_typed_173 rfl rfl ?_
      refine zg_dType hX dX13_typed_174 ?_
      refine zs_iload hX dX13_typed_177 rfl ?_
      refine zs_aload_n hX dX13_typed_179 rfl rfl ?_
      obtain ⟨r24, s22, e23, h⟩ := zci_e h
      refine zc_openType hX dX13_typed_180 (Nat.le_of_ble_eq_true rfl) (hc _ _ _ _ e23) (fun r9 u9 h9 => ?_)
      cases h9
      obtain ⟨b25, h⟩ := zgd_e h
      obtain ⟨s26, e27, h⟩ := zlet_e h
      refine zt_dType hX dX13_typed_183 (zin_ok b25) ?_
      rw [← e27]
      refine zs_aload_n hX dX13_typed_184 rfl rfl ?_
      refine zs_iconst (v := 4) hX dX13_typed_185 (by decide) ?_
      refine zs_aload_n hX dX13_typed_186 rfl rfl ?_
      refine zg_dType hX dX13_typed_187 ?_
      refine zs_iload hX dX13_typed_190 rfl ?_
      obtain ⟨b28, h⟩ := zgd_e h
      refine zl_dType hX dX13_typed_192 (zin_ok b28) ?_
      refine zs_iload hX dX13_typed_193 rfl ?_
      obtain ⟨r31, s29, e30, h⟩ := zci_e h
      refine zc_newType hX dX13_typed_195 (Nat.le_of_ble_eq_true rfl) (hc _ _ _ _ e30) (fun r9 u9 h9 => ?_)
      cases h9
      refine zs_istore hX dX13_typed_198 (by decide) rfl ?_
      dsimp only [List.set]
      refine zs_iinc (v := x5 + (-1)) hX dX13_typed_200 rfl rfl (by decide) rfl ?_
      dsimp only [List.set]
      refine zs_goto (tgt := 152) hX dX13_typed_203 (by decide) ?_
      refine zs_weak hX (lw := [some (.ref h0), some (.int x1), none, some (.int x3), some (.int r31), some (.int (x5 + (-1))), none]) ⟨rfl, rfl, rfl, rfl, rfl, trivial⟩ ?_
      exact hk152 _ _ _ _ _ h
set_option maxHeartbeats 4000000 in
theorem pb_typed {h0 : Nat} {qs : List Nat} {ks : Nat → Nat} {n : Nat} {call : zCl} {kc : Nat → List Value → zSt → (Option Value → zSt → Prop) → Prop} {v : Option Value × zSt} {X : Nat → zLv → List Value → zSt → Prop} (hX : zSem cX13_typed 7 (some .int) h0 qs ks kc (fun r u => (r, u) = v) X) (hc : ∀ j av s w, call j av s = some w → kc j av s (fun r u => (r, u) = w)) {x1 : Int32} {σ : zSt} (h : b_typed n call h0 qs ks x1 σ = some v) : X 0 [some (.ref h0), some (.int x1), none, none, none, none, none] [] σ := by
  rw [b_typed] at h
  refine zs_aload_n hX dX13_typed_0 rfl rfl ?_
  refine zg_kind hX dX13_typed_1 ?_
  refine zs_iload_n hX dX13_typed_4 rfl rfl ?_
  obtain ⟨b1, h⟩ := zgd_e h
  refine zl_kind hX dX13_typed_5 (zin_ok b1) ?_
  by_cases c2 : (σ.2.2.1 6 (x1).toNatClampNeg) = 1
  · rw [if_pos c2] at h
    refine zs_tableIn (tgt := 96) (off := 90) hX dX13_typed_6 (by rw [c2]; decide) (by rw [c2]; decide) (by rw [c2]; rfl) (by decide) ?_
    refine zs_aload_n hX dX13_typed_96 rfl rfl ?_
    refine zg_dType hX dX13_typed_97 ?_
    refine zs_aload_n hX dX13_typed_100 rfl rfl ?_
    refine zg_whose hX dX13_typed_101 ?_
    refine zs_aload_n hX dX13_typed_104 rfl rfl ?_
    refine zg_x1 hX dX13_typed_105 ?_
    refine zs_iload_n hX dX13_typed_108 rfl rfl ?_
    obtain ⟨b3, h⟩ := zgd_e h
    refine zl_x1 hX dX13_typed_109 (zin_ok b3) ?_
    obtain ⟨b4, h⟩ := zgd_e h
    refine zl_whose hX dX13_typed_110 (zin_ok b4) ?_
    refine zs_aload_n hX dX13_typed_111 rfl rfl ?_
    refine zs_aload_n hX dX13_typed_112 rfl rfl ?_
    refine zg_x3 hX dX13_typed_113 ?_
    refine zs_iload_n hX dX13_typed_116 rfl rfl ?_
    obtain ⟨b5, h⟩ := zgd_e h
    refine zl_x3 hX dX13_typed_117 (zin_ok b5) ?_
    obtain ⟨r8, s6, e7, h⟩ := zci_e h
    refine zc_typeOf hX dX13_typed_118 (Nat.le_of_ble_eq_true rfl) (hc _ _ _ _ e7) (fun r9 u9 h9 => ?_)
    cases h9
    obtain ⟨b9, h⟩ := zgd_e h
    obtain ⟨s10, e11, h⟩ := zlet_e h
    refine zt_dType hX dX13_typed_121 (zin_ok b9) ?_
    rw [← e11]
    refine zs_aload_n hX dX13_typed_122 rfl rfl ?_
    refine zs_aload_n hX dX13_typed_123 rfl rfl ?_
    refine zg_x4 hX dX13_typed_124 ?_
    refine zs_iload_n hX dX13_typed_127 rfl rfl ?_
    obtain ⟨b12, h⟩ := zgd_e h
    refine zl_x4 hX dX13_typed_128 (zin_ok b12) ?_
    obtain ⟨r15, s13, e14, h⟩ := zci_e h
    refine zc_typeOf hX dX13_typed_129 (Nat.le_of_ble_eq_true rfl) (hc _ _ _ _ e14) (fun r9 u9 h9 => ?_)
    cases h9
    exact zs_iret hX dX13_typed_132 rfl (Option.some.inj h)
  rw [if_neg c2] at h
  by_cases c16 : (σ.2.2.1 6 (x1).toNatClampNeg) = 2
  · rw [if_pos c16] at h
    refine zs_tableIn (tgt := 133) (off := 127) hX dX13_typed_6 (by rw [c16]; decide) (by rw [c16]; decide) (by rw [c16]; rfl) (by decide) ?_
    refine zs_aload_n hX dX13_typed_133 rfl rfl ?_
    refine zs_iload_n hX dX13_typed_134 rfl rfl ?_
    obtain ⟨r19, s17, e18, h⟩ := zci_e h
    refine zc_parameters hX dX13_typed_135 (Nat.le_of_ble_eq_true rfl) (hc _ _ _ _ e18) (fun r9 u9 h9 => ?_)
    cases h9
    refine zs_istore_n hX dX13_typed_138 rfl (by decide) rfl ?_
    dsimp only [List.set]
    refine zs_aload_n hX dX13_typed_139 rfl rfl ?_
    obtain ⟨r22, s20, e21, h⟩ := zci_e h
    refine zc_openType hX dX13_typed_140 (Nat.le_of_ble_eq_true rfl) (hc _ _ _ _ e21) (fun r9 u9 h9 => ?_)
    cases h9
    refine zs_istore_n hX dX13_typed_143 rfl (by decide) rfl ?_
    dsimp only [List.set]
    refine zs_iload_n hX dX13_typed_144 rfl rfl ?_
    refine zs_istore hX dX13_typed_145 (by decide) rfl ?_
    dsimp only [List.set]
    refine zs_iload_n hX dX13_typed_147 rfl rfl ?_
    refine zs_iconst (v := 1) hX dX13_typed_148 (by decide) ?_
    refine zs_isub hX dX13_typed_149 ?_
    refine zs_istore hX dX13_typed_150 (by decide) rfl ?_
    dsimp only [List.set]
    refine zs_weak hX (lw := [some (.ref h0), some (.int x1), none, some (.int r22), some (.int r22), some (.int (r19 - 1)), none]) ⟨rfl, rfl, rfl, rfl, rfl, trivial⟩ ?_
    exact pl_typed_152 hX hc n _ _ _ _ _ h
  rw [if_neg c16] at h
  by_cases c23 : (σ.2.2.1 6 (x1).toNatClampNeg) = 3
  · rw [if_pos c23] at h
    refine zs_tableIn (tgt := 280) (off := 274) hX dX13_typed_6 (by rw [c23]; decide) (by rw [c23]; decide) (by rw [c23]; rfl) (by decide) ?_
    refine zs_aload_n hX dX13_typed_280 rfl rfl ?_
    refine zg_whose hX dX13_typed_281 ?_
    refine zs_aload_n hX dX13_typed_284 rfl rfl ?_
    refine zg_x1 hX dX13_typed_285 ?_
    refine zs_iload_n hX dX13_typed_288 rfl rfl ?_
    obtain ⟨b24, h⟩ := zgd_e h
    refine zl_x1 hX dX13_typed_289 (zin_ok b24) ?_
    obtain ⟨b25, h⟩ := zgd_e h
    refine zl_whose hX dX13_typed_290 (zin_ok b25) ?_
    refine zs_istore_n hX dX13_typed_291 rfl (by decide) rfl ?_
    dsimp only [List.set]
    refine zs_aload_n hX dX13_typed_292 rfl rfl ?_
    refine zg_dType hX dX13_typed_293 ?_
    refine zs_iload_n hX dX13_typed_296 rfl rfl ?_
    refine zs_aload_n hX dX13_typed_297 rfl rfl ?_
    obtain ⟨r28, s26, e27, h⟩ := zci_e h
    refine zc_openType hX dX13_typed_298 (Nat.le_of_ble_eq_true rfl) (hc _ _ _ _ e27) (fun r9 u9 h9 => ?_)
    cases h9
    obtain ⟨b29, h⟩ := zgd_e h
    obtain ⟨s30, e31, h⟩ := zlet_e h
    refine zt_dType hX dX13_typed_301 (zin_ok b29) ?_
    rw [← e31]
    refine zs_aload_n hX dX13_typed_302 rfl rfl ?_
    refine zs_aload_n hX dX13_typed_303 rfl rfl ?_
    refine zg_x3 hX dX13_typed_304 ?_
    refine zs_iload_n hX dX13_typed_307 rfl rfl ?_
    obtain ⟨b32, h⟩ := zgd_e h
    refine zl_x3 hX dX13_typed_308 (zin_ok b32) ?_
    obtain ⟨r35, s33, e34, h⟩ := zci_e h
    refine zc_typeOf hX dX13_typed_309 (Nat.le_of_ble_eq_true rfl) (hc _ _ _ _ e34) (fun r9 u9 h9 => ?_)
    cases h9
    refine zs_istore_n hX dX13_typed_312 rfl (by decide) rfl ?_
    dsimp only [List.set]
    refine zs_aload_n hX dX13_typed_313 rfl rfl ?_
    refine zs_iconst (v := 4) hX dX13_typed_314 (by decide) ?_
    refine zs_aload_n hX dX13_typed_315 rfl rfl ?_
    refine zg_dType hX dX13_typed_316 ?_
    refine zs_iload_n hX dX13_typed_319 rfl rfl ?_
    obtain ⟨b36, h⟩ := zgd_e h
    refine zl_dType hX dX13_typed_320 (zin_ok b36) ?_
    refine zs_iload_n hX dX13_typed_321 rfl rfl ?_
    obtain ⟨r39, s37, e38, h⟩ := zci_e h
    refine zc_newType hX dX13_typed_322 (Nat.le_of_ble_eq_true rfl) (hc _ _ _ _ e38) (fun r9 u9 h9 => ?_)
    cases h9
    exact zs_iret hX dX13_typed_325 rfl (Option.some.inj h)
  rw [if_neg c23] at h
  by_cases c40 : (σ.2.2.1 6 (x1).toNatClampNeg) = 4
  · rw [if_pos c40] at h
    refine zs_tableIn (tgt := 326) (off := 320) hX dX13_typed_6 (by rw [c40]; decide) (by rw [c40]; decide) (by rw [c40]; rfl) (by decide) ?_
    refine zs_aload_n hX dX13_typed_326 rfl rfl ?_
    refine zs_aload_n hX dX13_typed_327 rfl rfl ?_
    refine zg_x1 hX dX13_typed_328 ?_
    refine zs_iload_n hX dX13_typed_331 rfl rfl ?_
    obtain ⟨b41, h⟩ := zgd_e h
    refine zl_x1 hX dX13_typed_332 (zin_ok b41) ?_
    obtain ⟨s42, e43, h⟩ := zcv_e h
    refine zc_typesOfCondition hX dX13_typed_333 (Nat.le_of_ble_eq_true rfl) (hc _ _ _ _ e43) (fun u9 h9 => ?_)
    cases h9
    refine zs_aload_n hX dX13_typed_336 rfl rfl ?_
    refine zs_aload_n hX dX13_typed_337 rfl rfl ?_
    refine zg_x3 hX dX13_typed_338 ?_
    refine zs_iload_n hX dX13_typed_341 rfl rfl ?_
    obtain ⟨b44, h⟩ := zgd_e h
    refine zl_x3 hX dX13_typed_342 (zin_ok b44) ?_
    obtain ⟨r47, s45, e46, h⟩ := zci_e h
    refine zc_typeOf hX dX13_typed_343 (Nat.le_of_ble_eq_true rfl) (hc _ _ _ _ e46) (fun r9 u9 h9 => ?_)
    cases h9
    refine zs_istore_n hX dX13_typed_346 rfl (by decide) rfl ?_
    dsimp only [List.set]
    refine zs_aload_n hX dX13_typed_347 rfl rfl ?_
    refine zs_aload_n hX dX13_typed_348 rfl rfl ?_
    refine zg_x4 hX dX13_typed_349 ?_
    refine zs_iload_n hX dX13_typed_352 rfl rfl ?_
    obtain ⟨b48, h⟩ := zgd_e h
    refine zl_x4 hX dX13_typed_353 (zin_ok b48) ?_
    obtain ⟨r51, s49, e50, h⟩ := zci_e h
    refine zc_typeOf hX dX13_typed_354 (Nat.le_of_ble_eq_true rfl) (hc _ _ _ _ e50) (fun r9 u9 h9 => ?_)
    cases h9
    refine zs_istore_n hX dX13_typed_357 rfl (by decide) rfl ?_
    dsimp only [List.set]
    refine zs_aload_n hX dX13_typed_358 rfl rfl ?_
    refine zg_bad hX dX13_typed_359 ?_
    refine zs_if_ne (tgt := 390) hX dX13_typed_362 (by decide) (fun c52 => ?_) (fun c52 => ?_)
    · rw [if_neg c52] at h
      refine zs_iload_n hX dX13_typed_390 rfl rfl ?_
      exact zs_iret hX dX13_typed_391 rfl (Option.some.inj h)
    · rw [if_pos c52] at h
      refine zs_aload_n hX dX13_typed_365 rfl rfl ?_
      refine zs_iload_n hX dX13_typed_366 rfl rfl ?_
      refine zs_iload_n hX dX13_typed_367 rfl rfl ?_
      obtain ⟨r55, s53, e54, h⟩ := zci_e h
      refine zc_join hX dX13_typed_368 (Nat.le_of_ble_eq_true rfl) (hc _ _ _ _ e54) (fun r9 u9 h9 => ?_)
      cases h9
      refine zs_if_ne (tgt := 390) hX dX13_typed_371 (by decide) (fun c56 => ?_) (fun c56 => ?_)
      · rw [if_neg c56] at h
        refine zs_iload_n hX dX13_typed_390 rfl rfl ?_
        exact zs_iret hX dX13_typed_391 rfl (Option.some.inj h)
      · rw [if_pos c56] at h
        refine zs_aload_n hX dX13_typed_374 rfl rfl ?_
        refine zs_iconst (v := 4) hX dX13_typed_375 (by decide) ?_
        refine zs_aload_n hX dX13_typed_376 rfl rfl ?_
        refine zg_at hX dX13_typed_377 ?_
        refine zs_aload_n hX dX13_typed_380 rfl rfl ?_
        refine zg_x4 hX dX13_typed_381 ?_
        refine zs_iload_n hX dX13_typed_384 rfl rfl ?_
        obtain ⟨b57, h⟩ := zgd_e h
        refine zl_x4 hX dX13_typed_385 (zin_ok b57) ?_
        obtain ⟨b58, h⟩ := zgd_e h
        refine zl_at hX dX13_typed_386 (zin_ok b58) ?_
        obtain ⟨s59, e60, h⟩ := zcv_e h
        refine zc_fault hX dX13_typed_387 (Nat.le_of_ble_eq_true rfl) (hc _ _ _ _ e60) (fun u9 h9 => ?_)
        cases h9
        refine zs_iload_n hX dX13_typed_390 rfl rfl ?_
        exact zs_iret hX dX13_typed_391 rfl (Option.some.inj h)
  rw [if_neg c40] at h
  by_cases c61 : (σ.2.2.1 6 (x1).toNatClampNeg) = 5
  · rw [if_pos c61] at h
    refine zs_tableIn (tgt := 392) (off := 386) hX dX13_typed_6 (by rw [c61]; decide) (by rw [c61]; decide) (by rw [c61]; rfl) (by decide) ?_
    refine zs_aload_n hX dX13_typed_392 rfl rfl ?_
    refine zs_aload_n hX dX13_typed_393 rfl rfl ?_
    refine zg_x1 hX dX13_typed_394 ?_
    refine zs_iload_n hX dX13_typed_397 rfl rfl ?_
    obtain ⟨b62, h⟩ := zgd_e h
    refine zl_x1 hX dX13_typed_398 (zin_ok b62) ?_
    obtain ⟨s63, e64, h⟩ := zcv_e h
    refine zc_typesOfCondition hX dX13_typed_399 (Nat.le_of_ble_eq_true rfl) (hc _ _ _ _ e64) (fun u9 h9 => ?_)
    cases h9
    refine zs_aload_n hX dX13_typed_402 rfl rfl ?_
    refine zs_aload_n hX dX13_typed_403 rfl rfl ?_
    refine zg_x3 hX dX13_typed_404 ?_
    refine zs_iload_n hX dX13_typed_407 rfl rfl ?_
    obtain ⟨b65, h⟩ := zgd_e h
    refine zl_x3 hX dX13_typed_408 (zin_ok b65) ?_
    obtain ⟨r68, s66, e67, h⟩ := zci_e h
    refine zc_typeOf hX dX13_typed_409 (Nat.le_of_ble_eq_true rfl) (hc _ _ _ _ e67) (fun r9 u9 h9 => ?_)
    cases h9
    exact zs_iret hX dX13_typed_412 rfl (Option.some.inj h)
  rw [if_neg c61] at h
  by_cases c69 : (σ.2.2.1 6 (x1).toNatClampNeg) = 6
  · rw [if_pos c69] at h
    refine zs_tableIn (tgt := 413) (off := 407) hX dX13_typed_6 (by rw [c69]; decide) (by rw [c69]; decide) (by rw [c69]; rfl) (by decide) ?_
    refine zs_aload_n hX dX13_typed_413 rfl rfl ?_
    refine zs_aload_n hX dX13_typed_414 rfl rfl ?_
    refine zg_dType hX dX13_typed_415 ?_
    refine zs_aload_n hX dX13_typed_418 rfl rfl ?_
    refine zg_whose hX dX13_typed_419 ?_
    refine zs_aload_n hX dX13_typed_422 rfl rfl ?_
    refine zg_x1 hX dX13_typed_423 ?_
    refine zs_iload_n hX dX13_typed_426 rfl rfl ?_
    obtain ⟨b70, h⟩ := zgd_e h
    refine zl_x1 hX dX13_typed_427 (zin_ok b70) ?_
    obtain ⟨b71, h⟩ := zgd_e h
    refine zl_whose hX dX13_typed_428 (zin_ok b71) ?_
    obtain ⟨b72, h⟩ := zgd_e h
    refine zl_dType hX dX13_typed_429 (zin_ok b72) ?_
    refine zs_iconst (v := 3) hX dX13_typed_430 (by decide) ?_
    refine zs_aload_n hX dX13_typed_431 rfl rfl ?_
    refine zg_wAt hX dX13_typed_432 ?_
    refine zs_aload_n hX dX13_typed_435 rfl rfl ?_
    refine zg_x1 hX dX13_typed_436 ?_
    refine zs_iload_n hX dX13_typed_439 rfl rfl ?_
    obtain ⟨b73, h⟩ := zgd_e h
    refine zl_x1 hX dX13_typed_440 (zin_ok b73) ?_
    obtain ⟨b74, h⟩ := zgd_e h
    refine zl_wAt hX dX13_typed_441 (zin_ok b74) ?_
    obtain ⟨s75, e76, h⟩ := zcv_e h
    refine zc_mustBe hX dX13_typed_442 (Nat.le_of_ble_eq_true rfl) (hc _ _ _ _ e76) (fun u9 h9 => ?_)
    cases h9
    refine zs_aload_n hX dX13_typed_445 rfl rfl ?_
    refine zs_aload_n hX dX13_typed_446 rfl rfl ?_
    refine zg_x2 hX dX13_typed_447 ?_
    refine zs_iload_n hX dX13_typed_450 rfl rfl ?_
    obtain ⟨b77, h⟩ := zgd_e h
    refine zl_x2 hX dX13_typed_451 (zin_ok b77) ?_
    obtain ⟨s78, e79, h⟩ := zcv_e h
    refine zc_typesOfSum hX dX13_typed_452 (Nat.le_of_ble_eq_true rfl) (hc _ _ _ _ e79) (fun u9 h9 => ?_)
    cases h9
    refine zs_aload_n hX dX13_typed_455 rfl rfl ?_
    refine zs_aload_n hX dX13_typed_456 rfl rfl ?_
    refine zg_x3 hX dX13_typed_457 ?_
    refine zs_iload_n hX dX13_typed_460 rfl rfl ?_
    obtain ⟨b80, h⟩ := zgd_e h
    refine zl_x3 hX dX13_typed_461 (zin_ok b80) ?_
    obtain ⟨s81, e82, h⟩ := zcv_e h
    refine zc_typesOfSum hX dX13_typed_462 (Nat.le_of_ble_eq_true rfl) (hc _ _ _ _ e82) (fun u9 h9 => ?_)
    cases h9
    refine zs_aload_n hX dX13_typed_465 rfl rfl ?_
    refine zs_aload_n hX dX13_typed_466 rfl rfl ?_
    refine zg_x4 hX dX13_typed_467 ?_
    refine zs_iload_n hX dX13_typed_470 rfl rfl ?_
    obtain ⟨b83, h⟩ := zgd_e h
    refine zl_x4 hX dX13_typed_471 (zin_ok b83) ?_
    obtain ⟨r86, s84, e85, h⟩ := zci_e h
    refine zc_typeOf hX dX13_typed_472 (Nat.le_of_ble_eq_true rfl) (hc _ _ _ _ e85) (fun r9 u9 h9 => ?_)
    cases h9
    exact zs_iret hX dX13_typed_475 rfl (Option.some.inj h)
  rw [if_neg c69] at h
  by_cases c87 : (σ.2.2.1 6 (x1).toNatClampNeg) = 7
  · rw [if_pos c87] at h
    refine zs_tableIn (tgt := 476) (off := 470) hX dX13_typed_6 (by rw [c87]; decide) (by rw [c87]; decide) (by rw [c87]; rfl) (by decide) ?_
    refine zs_aload_n hX dX13_typed_476 rfl rfl ?_
    refine zs_aload_n hX dX13_typed_477 rfl rfl ?_
    refine zg_x2 hX dX13_typed_478 ?_
    refine zs_iload_n hX dX13_typed_481 rfl rfl ?_
    obtain ⟨b88, h⟩ := zgd_e h
    refine zl_x2 hX dX13_typed_482 (zin_ok b88) ?_
    obtain ⟨s89, e90, h⟩ := zcv_e h
    refine zc_typesOfSum hX dX13_typed_483 (Nat.le_of_ble_eq_true rfl) (hc _ _ _ _ e90) (fun u9 h9 => ?_)
    cases h9
    refine zs_aload_n hX dX13_typed_486 rfl rfl ?_
    refine zs_iconst (v := 3) hX dX13_typed_487 (by decide) ?_
    refine zs_iconst (v := (-1)) hX dX13_typed_488 (by decide) ?_
    refine zs_iconst (v := (-1)) hX dX13_typed_489 (by decide) ?_
    obtain ⟨r93, s91, e92, h⟩ := zci_e h
    refine zc_newType hX dX13_typed_490 (Nat.le_of_ble_eq_true rfl) (hc _ _ _ _ e92) (fun r9 u9 h9 => ?_)
    cases h9
    exact zs_iret hX dX13_typed_493 rfl (Option.some.inj h)
  rw [if_neg c87] at h
  by_cases c94 : (σ.2.2.1 6 (x1).toNatClampNeg) = 8
  · rw [if_pos c94] at h
    refine zs_tableIn (tgt := 494) (off := 488) hX dX13_typed_6 (by rw [c94]; decide) (by rw [c94]; decide) (by rw [c94]; rfl) (by decide) ?_
    refine zs_aload_n hX dX13_typed_494 rfl rfl ?_
    refine zs_iconst (v := 2) hX dX13_typed_495 (by decide) ?_
    refine zs_iconst (v := (-1)) hX dX13_typed_496 (by decide) ?_
    refine zs_iconst (v := (-1)) hX dX13_typed_497 (by decide) ?_
    obtain ⟨r97, s95, e96, h⟩ := zci_e h
    refine zc_newType hX dX13_typed_498 (Nat.le_of_ble_eq_true rfl) (hc _ _ _ _ e96) (fun r9 u9 h9 => ?_)
    cases h9
    exact zs_iret hX dX13_typed_501 rfl (Option.some.inj h)
  rw [if_neg c94] at h
  by_cases c98 : (σ.2.2.1 6 (x1).toNatClampNeg) = 9
  · rw [if_pos c98] at h
    refine zs_tableIn (tgt := 494) (off := 488) hX dX13_typed_6 (by rw [c98]; decide) (by rw [c98]; decide) (by rw [c98]; rfl) (by decide) ?_
    refine zs_aload_n hX dX13_typed_494 rfl rfl ?_
    refine zs_iconst (v := 2) hX dX13_typed_495 (by decide) ?_
    refine zs_iconst (v := (-1)) hX dX13_typed_496 (by decide) ?_
    refine zs_iconst (v := (-1)) hX dX13_typed_497 (by decide) ?_
    obtain ⟨r101, s99, e100, h⟩ := zci_e h
    refine zc_newType hX dX13_typed_498 (Nat.le_of_ble_eq_true rfl) (hc _ _ _ _ e100) (fun r9 u9 h9 => ?_)
    cases h9
    exact zs_iret hX dX13_typed_501 rfl (Option.some.inj h)
  rw [if_neg c98] at h
  by_cases c102 : (σ.2.2.1 6 (x1).toNatClampNeg) = 10
  · rw [if_pos c102] at h
    refine zs_tableIn (tgt := 502) (off := 496) hX dX13_typed_6 (by rw [c102]; decide) (by rw [c102]; decide) (by rw [c102]; rfl) (by decide) ?_
    refine zs_aload_n hX dX13_typed_502 rfl rfl ?_
    refine zs_aload_n hX dX13_typed_503 rfl rfl ?_
    refine zg_x2 hX dX13_typed_504 ?_
    refine zs_iload_n hX dX13_typed_507 rfl rfl ?_
    obtain ⟨b103, h⟩ := zgd_e h
    refine zl_x2 hX dX13_typed_508 (zin_ok b103) ?_
    obtain ⟨r106, s104, e105, h⟩ := zci_e h
    refine zc_isName hX dX13_typed_509 (Nat.le_of_ble_eq_true rfl) (hc _ _ _ _ e105) (fun r9 u9 h9 => ?_)
    cases h9
    refine zs_if_eq (tgt := 542) hX dX13_typed_512 (by decide) (fun c107 => ?_) (fun c107 => ?_)
    · rw [if_pos c107] at h
      refine zs_aload_n hX dX13_typed_542 rfl rfl ?_
      refine zs_aload_n hX dX13_typed_543 rfl rfl ?_
      refine zg_x2 hX dX13_typed_544 ?_
      refine zs_iload_n hX dX13_typed_547 rfl rfl ?_
      obtain ⟨b108, h⟩ := zgd_e h
      refine zl_x2 hX dX13_typed_548 (zin_ok b108) ?_
      obtain ⟨s109, e110, h⟩ := zcv_e h
      refine zc_typesOfSum hX dX13_typed_549 (Nat.le_of_ble_eq_true rfl) (hc _ _ _ _ e110) (fun u9 h9 => ?_)
      cases h9
      refine zs_aload_n hX dX13_typed_552 rfl rfl ?_
      refine zs_iconst (v := 1) hX dX13_typed_553 (by decide) ?_
      refine zs_iconst (v := (-1)) hX dX13_typed_554 (by decide) ?_
      refine zs_iconst (v := (-1)) hX dX13_typed_555 (by decide) ?_
      obtain ⟨r113, s111, e112, h⟩ := zci_e h
      refine zc_newType hX dX13_typed_556 (Nat.le_of_ble_eq_true rfl) (hc _ _ _ _ e112) (fun r9 u9 h9 => ?_)
      cases h9
      exact zs_iret hX dX13_typed_559 rfl (Option.some.inj h)
    · rw [if_neg c107] at h
      refine zs_aload_n hX dX13_typed_515 rfl rfl ?_
      refine zg_dType hX dX13_typed_516 ?_
      refine zs_aload_n hX dX13_typed_519 rfl rfl ?_
      refine zg_whose hX dX13_typed_520 ?_
      refine zs_aload_n hX dX13_typed_523 rfl rfl ?_
      refine zg_pWord hX dX13_typed_524 ?_
      refine zs_aload_n hX dX13_typed_527 rfl rfl ?_
      refine zg_sFrom hX dX13_typed_528 ?_
      refine zs_aload_n hX dX13_typed_531 rfl rfl ?_
      refine zg_x2 hX dX13_typed_532 ?_
      refine zs_iload_n hX dX13_typed_535 rfl rfl ?_
      obtain ⟨b114, h⟩ := zgd_e h
      refine zl_x2 hX dX13_typed_536 (zin_ok b114) ?_
      obtain ⟨b115, h⟩ := zgd_e h
      refine zl_sFrom hX dX13_typed_537 (zin_ok b115) ?_
      obtain ⟨b116, h⟩ := zgd_e h
      refine zl_pWord hX dX13_typed_538 (zin_ok b116) ?_
      obtain ⟨b117, h⟩ := zgd_e h
      refine zl_whose hX dX13_typed_539 (zin_ok b117) ?_
      obtain ⟨b118, h⟩ := zgd_e h
      refine zl_dType hX dX13_typed_540 (zin_ok b118) ?_
      exact zs_iret hX dX13_typed_541 rfl (Option.some.inj h)
  rw [if_neg c102] at h
  by_cases c119 : (σ.2.2.1 6 (x1).toNatClampNeg) = 11
  · rw [if_pos c119] at h
    refine zs_tableIn (tgt := 560) (off := 554) hX dX13_typed_6 (by rw [c119]; decide) (by rw [c119]; decide) (by rw [c119]; rfl) (by decide) ?_
    refine zs_aload_n hX dX13_typed_560 rfl rfl ?_
    refine zs_aload_n hX dX13_typed_561 rfl rfl ?_
    refine zg_x2 hX dX13_typed_562 ?_
    refine zs_iload_n hX dX13_typed_565 rfl rfl ?_
    obtain ⟨b120, h⟩ := zgd_e h
    refine zl_x2 hX dX13_typed_566 (zin_ok b120) ?_
    obtain ⟨s121, e122, h⟩ := zcv_e h
    refine zc_typesOfSum hX dX13_typed_567 (Nat.le_of_ble_eq_true rfl) (hc _ _ _ _ e122) (fun u9 h9 => ?_)
    cases h9
    refine zs_aload_n hX dX13_typed_570 rfl rfl ?_
    refine zs_aload_n hX dX13_typed_571 rfl rfl ?_
    refine zg_x3 hX dX13_typed_572 ?_
    refine zs_iload_n hX dX13_typed_575 rfl rfl ?_
    obtain ⟨b123, h⟩ := zgd_e h
    refine zl_x3 hX dX13_typed_576 (zin_ok b123) ?_
    obtain ⟨s124, e125, h⟩ := zcv_e h
    refine zc_typesOfSum hX dX13_typed_577 (Nat.le_of_ble_eq_true rfl) (hc _ _ _ _ e125) (fun u9 h9 => ?_)
    cases h9
    refine zs_aload_n hX dX13_typed_580 rfl rfl ?_
    refine zs_iconst (v := 1) hX dX13_typed_581 (by decide) ?_
    refine zs_iconst (v := (-1)) hX dX13_typed_582 (by decide) ?_
    refine zs_iconst (v := (-1)) hX dX13_typed_583 (by decide) ?_
    obtain ⟨r128, s126, e127, h⟩ := zci_e h
    refine zc_newType hX dX13_typed_584 (Nat.le_of_ble_eq_true rfl) (hc _ _ _ _ e127) (fun r9 u9 h9 => ?_)
    cases h9
    exact zs_iret hX dX13_typed_587 rfl (Option.some.inj h)
  rw [if_neg c119] at h
  by_cases c129 : (σ.2.2.1 6 (x1).toNatClampNeg) = 12
  · rw [if_pos c129] at h
    refine zs_tableIn (tgt := 560) (off := 554) hX dX13_typed_6 (by rw [c129]; decide) (by rw [c129]; decide) (by rw [c129]; rfl) (by decide) ?_
    refine zs_aload_n hX dX13_typed_560 rfl rfl ?_
    refine zs_aload_n hX dX13_typed_561 rfl rfl ?_
    refine zg_x2 hX dX13_typed_562 ?_
    refine zs_iload_n hX dX13_typed_565 rfl rfl ?_
    obtain ⟨b130, h⟩ := zgd_e h
    refine zl_x2 hX dX13_typed_566 (zin_ok b130) ?_
    obtain ⟨s131, e132, h⟩ := zcv_e h
    refine zc_typesOfSum hX dX13_typed_567 (Nat.le_of_ble_eq_true rfl) (hc _ _ _ _ e132) (fun u9 h9 => ?_)
    cases h9
    refine zs_aload_n hX dX13_typed_570 rfl rfl ?_
    refine zs_aload_n hX dX13_typed_571 rfl rfl ?_
    refine zg_x3 hX dX13_typed_572 ?_
    refine zs_iload_n hX dX13_typed_575 rfl rfl ?_
    obtain ⟨b133, h⟩ := zgd_e h
    refine zl_x3 hX dX13_typed_576 (zin_ok b133) ?_
    obtain ⟨s134, e135, h⟩ := zcv_e h
    refine zc_typesOfSum hX dX13_typed_577 (Nat.le_of_ble_eq_true rfl) (hc _ _ _ _ e135) (fun u9 h9 => ?_)
    cases h9
    refine zs_aload_n hX dX13_typed_580 rfl rfl ?_
    refine zs_iconst (v := 1) hX dX13_typed_581 (by decide) ?_
    refine zs_iconst (v := (-1)) hX dX13_typed_582 (by decide) ?_
    refine zs_iconst (v := (-1)) hX dX13_typed_583 (by decide) ?_
    obtain ⟨r138, s136, e137, h⟩ := zci_e h
    refine zc_newType hX dX13_typed_584 (Nat.le_of_ble_eq_true rfl) (hc _ _ _ _ e137) (fun r9 u9 h9 => ?_)
    cases h9
    exact zs_iret hX dX13_typed_587 rfl (Option.some.inj h)
  rw [if_neg c129] at h
  by_cases c139 : (σ.2.2.1 6 (x1).toNatClampNeg) = 13
  · rw [if_pos c139] at h
    refine zs_tableIn (tgt := 560) (off := 554) hX dX13_typed_6 (by rw [c139]; decide) (by rw [c139]; decide) (by rw [c139]; rfl) (by decide) ?_
    refine zs_aload_n hX dX13_typed_560 rfl rfl ?_
    refine zs_aload_n hX dX13_typed_561 rfl rfl ?_
    refine zg_x2 hX dX13_typed_562 ?_
    refine zs_iload_n hX dX13_typed_565 rfl rfl ?_
    obtain ⟨b140, h⟩ := zgd_e h
    refine zl_x2 hX dX13_typed_566 (zin_ok b140) ?_
    obtain ⟨s141, e142, h⟩ := zcv_e h
    refine zc_typesOfSum hX dX13_typed_567 (Nat.le_of_ble_eq_true rfl) (hc _ _ _ _ e142) (fun u9 h9 => ?_)
    cases h9
    refine zs_aload_n hX dX13_typed_570 rfl rfl ?_
    refine zs_aload_n hX dX13_typed_571 rfl rfl ?_
    refine zg_x3 hX dX13_typed_572 ?_
    refine zs_iload_n hX dX13_typed_575 rfl rfl ?_
    obtain ⟨b143, h⟩ := zgd_e h
    refine zl_x3 hX dX13_typed_576 (zin_ok b143) ?_
    obtain ⟨s144, e145, h⟩ := zcv_e h
    refine zc_typesOfSum hX dX13_typed_577 (Nat.le_of_ble_eq_true rfl) (hc _ _ _ _ e145) (fun u9 h9 => ?_)
    cases h9
    refine zs_aload_n hX dX13_typed_580 rfl rfl ?_
    refine zs_iconst (v := 1) hX dX13_typed_581 (by decide) ?_
    refine zs_iconst (v := (-1)) hX dX13_typed_582 (by decide) ?_
    refine zs_iconst (v := (-1)) hX dX13_typed_583 (by decide) ?_
    obtain ⟨r148, s146, e147, h⟩ := zci_e h
    refine zc_newType hX dX13_typed_584 (Nat.le_of_ble_eq_true rfl) (hc _ _ _ _ e147) (fun r9 u9 h9 => ?_)
    cases h9
    exact zs_iret hX dX13_typed_587 rfl (Option.some.inj h)
  rw [if_neg c139] at h
  by_cases c149 : (σ.2.2.1 6 (x1).toNatClampNeg) = 14
  · rw [if_pos c149] at h
    refine zs_tableIn (tgt := 588) (off := 582) hX dX13_typed_6 (by rw [c149]; decide) (by rw [c149]; decide) (by rw [c149]; rfl) (by decide) ?_
    refine zs_aload_n hX dX13_typed_588 rfl rfl ?_
    refine zs_aload_n hX dX13_typed_589 rfl rfl ?_
    refine zg_dType hX dX13_typed_590 ?_
    refine zs_aload_n hX dX13_typed_593 rfl rfl ?_
    refine zg_whose hX dX13_typed_594 ?_
    refine zs_aload_n hX dX13_typed_597 rfl rfl ?_
    refine zg_x1 hX dX13_typed_598 ?_
    refine zs_iload_n hX dX13_typed_601 rfl rfl ?_
    obtain ⟨b150, h⟩ := zgd_e h
    refine zl_x1 hX dX13_typed_602 (zin_ok b150) ?_
    obtain ⟨b151, h⟩ := zgd_e h
    refine zl_whose hX dX13_typed_603 (zin_ok b151) ?_
    obtain ⟨b152, h⟩ := zgd_e h
    refine zl_dType hX dX13_typed_604 (zin_ok b152) ?_
    refine zs_iconst (v := 3) hX dX13_typed_605 (by decide) ?_
    refine zs_aload_n hX dX13_typed_606 rfl rfl ?_
    refine zg_wAt hX dX13_typed_607 ?_
    refine zs_aload_n hX dX13_typed_610 rfl rfl ?_
    refine zg_x1 hX dX13_typed_611 ?_
    refine zs_iload_n hX dX13_typed_614 rfl rfl ?_
    obtain ⟨b153, h⟩ := zgd_e h
    refine zl_x1 hX dX13_typed_615 (zin_ok b153) ?_
    obtain ⟨b154, h⟩ := zgd_e h
    refine zl_wAt hX dX13_typed_616 (zin_ok b154) ?_
    obtain ⟨s155, e156, h⟩ := zcv_e h
    refine zc_mustBe hX dX13_typed_617 (Nat.le_of_ble_eq_true rfl) (hc _ _ _ _ e156) (fun u9 h9 => ?_)
    cases h9
    refine zs_aload_n hX dX13_typed_620 rfl rfl ?_
    refine zs_aload_n hX dX13_typed_621 rfl rfl ?_
    refine zg_x2 hX dX13_typed_622 ?_
    refine zs_iload_n hX dX13_typed_625 rfl rfl ?_
    obtain ⟨b157, h⟩ := zgd_e h
    refine zl_x2 hX dX13_typed_626 (zin_ok b157) ?_
    obtain ⟨s158, e159, h⟩ := zcv_e h
    refine zc_typesOfSum hX dX13_typed_627 (Nat.le_of_ble_eq_true rfl) (hc _ _ _ _ e159) (fun u9 h9 => ?_)
    cases h9
    refine zs_aload_n hX dX13_typed_630 rfl rfl ?_
    refine zs_iconst (v := 1) hX dX13_typed_631 (by decide) ?_
    refine zs_iconst (v := (-1)) hX dX13_typed_632 (by decide) ?_
    refine zs_iconst (v := (-1)) hX dX13_typed_633 (by decide) ?_
    obtain ⟨r162, s160, e161, h⟩ := zci_e h
    refine zc_newType hX dX13_typed_634 (Nat.le_of_ble_eq_true rfl) (hc _ _ _ _ e161) (fun r9 u9 h9 => ?_)
    cases h9
    exact zs_iret hX dX13_typed_637 rfl (Option.some.inj h)
  rw [if_neg c149] at h
  by_cases c163 : (σ.2.2.1 6 (x1).toNatClampNeg) = 15
  · rw [if_pos c163] at h
    refine zs_tableIn (tgt := 832) (off := 826) hX dX13_typed_6 (by rw [c163]; decide) (by rw [c163]; decide) (by rw [c163]; rfl) (by decide) ?_
    refine zs_aload_n hX dX13_typed_832 rfl rfl ?_
    refine zs_iload_n hX dX13_typed_833 rfl rfl ?_
    obtain ⟨r166, s164, e165, h⟩ := zci_e h
    refine zc_typeOfCall hX dX13_typed_834 (Nat.le_of_ble_eq_true rfl) (hc _ _ _ _ e165) (fun r9 u9 h9 => ?_)
    cases h9
    exact zs_iret hX dX13_typed_837 rfl (Option.some.inj h)
  rw [if_neg c163] at h
  by_cases c167 : (σ.2.2.1 6 (x1).toNatClampNeg) = 16
  · rw [if_pos c167] at h
    refine zs_tableIn (tgt := 838) (off := 832) hX dX13_typed_6 (by rw [c167]; decide) (by rw [c167]; decide) (by rw [c167]; rfl) (by decide) ?_
    refine zs_aload_n hX dX13_typed_838 rfl rfl ?_
    refine zs_aload_n hX dX13_typed_839 rfl rfl ?_
    refine zg_x3 hX dX13_typed_840 ?_
    refine zs_iload_n hX dX13_typed_843 rfl rfl ?_
    obtain ⟨b168, h⟩ := zgd_e h
    refine zl_x3 hX dX13_typed_844 (zin_ok b168) ?_
    obtain ⟨r171, s169, e170, h⟩ := zci_e h
    refine zc_typeOf hX dX13_typed_845 (Nat.le_of_ble_eq_true rfl) (hc _ _ _ _ e170) (fun r9 u9 h9 => ?_)
    cases h9
    exact zs_iret hX dX13_typed_848 rfl (Option.some.inj h)
  rw [if_neg c167] at h
  by_cases c172 : (σ.2.2.1 6 (x1).toNatClampNeg) = 17
  · rw [if_pos c172] at h
    refine zs_tableIn (tgt := 638) (off := 632) hX dX13_typed_6 (by rw [c172]; decide) (by rw [c172]; decide) (by rw [c172]; rfl) (by decide) ?_
    refine zs_aload_n hX dX13_typed_638 rfl rfl ?_
    refine zs_iconst (v := 5) hX dX13_typed_639 (by decide) ?_
    refine zs_iconst (v := (-1)) hX dX13_typed_640 (by decide) ?_
    refine zs_iconst (v := (-1)) hX dX13_typed_641 (by decide) ?_
    obtain ⟨r175, s173, e174, h⟩ := zci_e h
    refine zc_newType hX dX13_typed_642 (Nat.le_of_ble_eq_true rfl) (hc _ _ _ _ e174) (fun r9 u9 h9 => ?_)
    cases h9
    exact zs_iret hX dX13_typed_645 rfl (Option.some.inj h)
  rw [if_neg c172] at h
  by_cases c176 : (σ.2.2.1 6 (x1).toNatClampNeg) = 18
  · rw [if_pos c176] at h
    refine zs_tableIn (tgt := 646) (off := 640) hX dX13_typed_6 (by rw [c176]; decide) (by rw [c176]; decide) (by rw [c176]; rfl) (by decide) ?_
    refine zs_aload_n hX dX13_typed_646 rfl rfl ?_
    refine zs_aload_n hX dX13_typed_647 rfl rfl ?_
    refine zg_x2 hX dX13_typed_648 ?_
    refine zs_iload_n hX dX13_typed_651 rfl rfl ?_
    obtain ⟨b177, h⟩ := zgd_e h
    refine zl_x2 hX dX13_typed_652 (zin_ok b177) ?_
    obtain ⟨s178, e179, h⟩ := zcv_e h
    refine zc_typesOfSum hX dX13_typed_653 (Nat.le_of_ble_eq_true rfl) (hc _ _ _ _ e179) (fun u9 h9 => ?_)
    cases h9
    refine zs_aload_n hX dX13_typed_656 rfl rfl ?_
    refine zs_aload_n hX dX13_typed_657 rfl rfl ?_
    refine zg_dType hX dX13_typed_658 ?_
    refine zs_aload_n hX dX13_typed_661 rfl rfl ?_
    refine zg_whose hX dX13_typed_662 ?_
    refine zs_aload_n hX dX13_typed_665 rfl rfl ?_
    refine zg_x1 hX dX13_typed_666 ?_
    refine zs_iload_n hX dX13_typed_669 rfl rfl ?_
    obtain ⟨b180, h⟩ := zgd_e h
    refine zl_x1 hX dX13_typed_670 (zin_ok b180) ?_
    obtain ⟨b181, h⟩ := zgd_e h
    refine zl_whose hX dX13_typed_671 (zin_ok b181) ?_
    obtain ⟨b182, h⟩ := zgd_e h
    refine zl_dType hX dX13_typed_672 (zin_ok b182) ?_
    refine zs_iconst (v := 5) hX dX13_typed_673 (by decide) ?_
    refine zs_aload_n hX dX13_typed_674 rfl rfl ?_
    refine zg_wAt hX dX13_typed_675 ?_
    refine zs_aload_n hX dX13_typed_678 rfl rfl ?_
    refine zg_x1 hX dX13_typed_679 ?_
    refine zs_iload_n hX dX13_typed_682 rfl rfl ?_
    obtain ⟨b183, h⟩ := zgd_e h
    refine zl_x1 hX dX13_typed_683 (zin_ok b183) ?_
    obtain ⟨b184, h⟩ := zgd_e h
    refine zl_wAt hX dX13_typed_684 (zin_ok b184) ?_
    obtain ⟨s185, e186, h⟩ := zcv_e h
    refine zc_mustBe hX dX13_typed_685 (Nat.le_of_ble_eq_true rfl) (hc _ _ _ _ e186) (fun u9 h9 => ?_)
    cases h9
    refine zs_aload_n hX dX13_typed_688 rfl rfl ?_
    refine zs_iconst (v := 5) hX dX13_typed_689 (by decide) ?_
    refine zs_iconst (v := (-1)) hX dX13_typed_690 (by decide) ?_
    refine zs_iconst (v := (-1)) hX dX13_typed_691 (by decide) ?_
    obtain ⟨r189, s187, e188, h⟩ := zci_e h
    refine zc_newType hX dX13_typed_692 (Nat.le_of_ble_eq_true rfl) (hc _ _ _ _ e188) (fun r9 u9 h9 => ?_)
    cases h9
    exact zs_iret hX dX13_typed_695 rfl (Option.some.inj h)
  rw [if_neg c176] at h
  by_cases c190 : (σ.2.2.1 6 (x1).toNatClampNeg) = 19
  · rw [if_pos c190] at h
    refine zs_tableIn (tgt := 696) (off := 690) hX dX13_typed_6 (by rw [c190]; decide) (by rw [c190]; decide) (by rw [c190]; rfl) (by decide) ?_
    refine zs_aload_n hX dX13_typed_696 rfl rfl ?_
    refine zs_aload_n hX dX13_typed_697 rfl rfl ?_
    refine zg_dType hX dX13_typed_698 ?_
    refine zs_aload_n hX dX13_typed_701 rfl rfl ?_
    refine zg_whose hX dX13_typed_702 ?_
    refine zs_aload_n hX dX13_typed_705 rfl rfl ?_
    refine zg_x1 hX dX13_typed_706 ?_
    refine zs_iload_n hX dX13_typed_709 rfl rfl ?_
    obtain ⟨b191, h⟩ := zgd_e h
    refine zl_x1 hX dX13_typed_710 (zin_ok b191) ?_
    obtain ⟨b192, h⟩ := zgd_e h
    refine zl_whose hX dX13_typed_711 (zin_ok b192) ?_
    obtain ⟨b193, h⟩ := zgd_e h
    refine zl_dType hX dX13_typed_712 (zin_ok b193) ?_
    refine zs_iconst (v := 5) hX dX13_typed_713 (by decide) ?_
    refine zs_aload_n hX dX13_typed_714 rfl rfl ?_
    refine zg_wAt hX dX13_typed_715 ?_
    refine zs_aload_n hX dX13_typed_718 rfl rfl ?_
    refine zg_x1 hX dX13_typed_719 ?_
    refine zs_iload_n hX dX13_typed_722 rfl rfl ?_
    obtain ⟨b194, h⟩ := zgd_e h
    refine zl_x1 hX dX13_typed_723 (zin_ok b194) ?_
    obtain ⟨b195, h⟩ := zgd_e h
    refine zl_wAt hX dX13_typed_724 (zin_ok b195) ?_
    obtain ⟨s196, e197, h⟩ := zcv_e h
    refine zc_mustBe hX dX13_typed_725 (Nat.le_of_ble_eq_true rfl) (hc _ _ _ _ e197) (fun u9 h9 => ?_)
    cases h9
    refine zs_aload_n hX dX13_typed_728 rfl rfl ?_
    refine zs_aload_n hX dX13_typed_729 rfl rfl ?_
    refine zg_x3 hX dX13_typed_730 ?_
    refine zs_iload_n hX dX13_typed_733 rfl rfl ?_
    obtain ⟨b198, h⟩ := zgd_e h
    refine zl_x3 hX dX13_typed_734 (zin_ok b198) ?_
    obtain ⟨r201, s199, e200, h⟩ := zci_e h
    refine zc_typeOf hX dX13_typed_735 (Nat.le_of_ble_eq_true rfl) (hc _ _ _ _ e200) (fun r9 u9 h9 => ?_)
    cases h9
    refine zs_istore_n hX dX13_typed_738 rfl (by decide) rfl ?_
    dsimp only [List.set]
    refine zs_aload_n hX dX13_typed_739 rfl rfl ?_
    refine zg_dType hX dX13_typed_740 ?_
    refine zs_aload_n hX dX13_typed_743 rfl rfl ?_
    refine zg_whose hX dX13_typed_744 ?_
    refine zs_aload_n hX dX13_typed_747 rfl rfl ?_
    refine zg_x2 hX dX13_typed_748 ?_
    refine zs_iload_n hX dX13_typed_751 rfl rfl ?_
    obtain ⟨b202, h⟩ := zgd_e h
    refine zl_x2 hX dX13_typed_752 (zin_ok b202) ?_
    obtain ⟨b203, h⟩ := zgd_e h
    refine zl_whose hX dX13_typed_753 (zin_ok b203) ?_
    refine zs_aload_n hX dX13_typed_754 rfl rfl ?_
    refine zs_iconst (v := 1) hX dX13_typed_755 (by decide) ?_
    refine zs_iconst (v := (-1)) hX dX13_typed_756 (by decide) ?_
    refine zs_iconst (v := (-1)) hX dX13_typed_757 (by decide) ?_
    obtain ⟨r206, s204, e205, h⟩ := zci_e h
    refine zc_newType hX dX13_typed_758 (Nat.le_of_ble_eq_true rfl) (hc _ _ _ _ e205) (fun r9 u9 h9 => ?_)
    cases h9
    obtain ⟨b207, h⟩ := zgd_e h
    obtain ⟨s208, e209, h⟩ := zlet_e h
    refine zt_dType hX dX13_typed_761 (zin_ok b207) ?_
    rw [← e209]
    refine zs_aload_n hX dX13_typed_762 rfl rfl ?_
    refine zg_dType hX dX13_typed_763 ?_
    refine zs_aload_n hX dX13_typed_766 rfl rfl ?_
    refine zg_whose hX dX13_typed_767 ?_
    refine zs_aload_n hX dX13_typed_770 rfl rfl ?_
    refine zg_x2 hX dX13_typed_771 ?_
    refine zs_iload_n hX dX13_typed_774 rfl rfl ?_
    obtain ⟨b210, h⟩ := zgd_e h
    refine zl_x2 hX dX13_typed_775 (zin_ok b210) ?_
    refine zs_iconst (v := 1) hX dX13_typed_776 (by decide) ?_
    refine zs_iadd hX dX13_typed_777 ?_
    obtain ⟨b211, h⟩ := zgd_e h
    refine zl_whose hX dX13_typed_778 (zin_ok b211) ?_
    refine zs_aload_n hX dX13_typed_779 rfl rfl ?_
    refine zs_iconst (v := 5) hX dX13_typed_780 (by decide) ?_
    refine zs_iconst (v := (-1)) hX dX13_typed_781 (by decide) ?_
    refine zs_iconst (v := (-1)) hX dX13_typed_782 (by decide) ?_
    obtain ⟨r214, s212, e213, h⟩ := zci_e h
    refine zc_newType hX dX13_typed_783 (Nat.le_of_ble_eq_true rfl) (hc _ _ _ _ e213) (fun r9 u9 h9 => ?_)
    cases h9
    obtain ⟨b215, h⟩ := zgd_e h
    obtain ⟨s216, e217, h⟩ := zlet_e h
    refine zt_dType hX dX13_typed_786 (zin_ok b215) ?_
    rw [← e217]
    refine zs_aload_n hX dX13_typed_787 rfl rfl ?_
    refine zs_aload_n hX dX13_typed_788 rfl rfl ?_
    refine zg_x4 hX dX13_typed_789 ?_
    refine zs_iload_n hX dX13_typed_792 rfl rfl ?_
    obtain ⟨b218, h⟩ := zgd_e h
    refine zl_x4 hX dX13_typed_793 (zin_ok b218) ?_
    obtain ⟨r221, s219, e220, h⟩ := zci_e h
    refine zc_typeOf hX dX13_typed_794 (Nat.le_of_ble_eq_true rfl) (hc _ _ _ _ e220) (fun r9 u9 h9 => ?_)
    cases h9
    refine zs_istore_n hX dX13_typed_797 rfl (by decide) rfl ?_
    dsimp only [List.set]
    refine zs_aload_n hX dX13_typed_798 rfl rfl ?_
    refine zg_bad hX dX13_typed_799 ?_
    refine zs_if_ne (tgt := 830) hX dX13_typed_802 (by decide) (fun c222 => ?_) (fun c222 => ?_)
    · rw [if_neg c222] at h
      refine zs_iload_n hX dX13_typed_830 rfl rfl ?_
      exact zs_iret hX dX13_typed_831 rfl (Option.some.inj h)
    · rw [if_pos c222] at h
      refine zs_aload_n hX dX13_typed_805 rfl rfl ?_
      refine zs_iload_n hX dX13_typed_806 rfl rfl ?_
      refine zs_iload_n hX dX13_typed_807 rfl rfl ?_
      obtain ⟨r225, s223, e224, h⟩ := zci_e h
      refine zc_join hX dX13_typed_808 (Nat.le_of_ble_eq_true rfl) (hc _ _ _ _ e224) (fun r9 u9 h9 => ?_)
      cases h9
      refine zs_if_ne (tgt := 830) hX dX13_typed_811 (by decide) (fun c226 => ?_) (fun c226 => ?_)
      · rw [if_neg c226] at h
        refine zs_iload_n hX dX13_typed_830 rfl rfl ?_
        exact zs_iret hX dX13_typed_831 rfl (Option.some.inj h)
      · rw [if_pos c226] at h
        refine zs_aload_n hX dX13_typed_814 rfl rfl ?_
        refine zs_iconst (v := 4) hX dX13_typed_815 (by decide) ?_
        refine zs_aload_n hX dX13_typed_816 rfl rfl ?_
        refine zg_at hX dX13_typed_817 ?_
        refine zs_aload_n hX dX13_typed_820 rfl rfl ?_
        refine zg_x4 hX dX13_typed_821 ?_
        refine zs_iload_n hX dX13_typed_824 rfl rfl ?_
        obtain ⟨b227, h⟩ := zgd_e h
        refine zl_x4 hX dX13_typed_825 (zin_ok b227) ?_
        obtain ⟨b228, h⟩ := zgd_e h
        refine zl_at hX dX13_typed_826 (zin_ok b228) ?_
        obtain ⟨s229, e230, h⟩ := zcv_e h
        refine zc_fault hX dX13_typed_827 (Nat.le_of_ble_eq_true rfl) (hc _ _ _ _ e230) (fun u9 h9 => ?_)
        cases h9
        refine zs_iload_n hX dX13_typed_830 rfl rfl ?_
        exact zs_iret hX dX13_typed_831 rfl (Option.some.inj h)
  rw [if_neg c190] at h
  refine zs_tableOut (tgt := 838) hX dX13_typed_6 (by have := z_ne c2 (k := 1) (by decide); have := z_ne c16 (k := 2) (by decide); have := z_ne c23 (k := 3) (by decide); have := z_ne c40 (k := 4) (by decide); have := z_ne c61 (k := 5) (by decide); have := z_ne c69 (k := 6) (by decide); have := z_ne c87 (k := 7) (by decide); have := z_ne c94 (k := 8) (by decide); have := z_ne c98 (k := 9) (by decide); have := z_ne c102 (k := 10) (by decide); have := z_ne c119 (k := 11) (by decide); have := z_ne c129 (k := 12) (by decide); have := z_ne c139 (k := 13) (by decide); have := z_ne c149 (k := 14) (by decide); have := z_ne c163 (k := 15) (by decide); have := z_ne c167 (k := 16) (by decide); have := z_ne c172 (k := 17) (by decide); have := z_ne c176 (k := 18) (by decide); have := z_ne c190 (k := 19) (by decide); omega) (by decide) ?_
  refine zs_aload_n hX dX13_typed_838 rfl rfl ?_
  refine zs_aload_n hX dX13_typed_839 rfl rfl ?_
  refine zg_x3 hX dX13_typed_840 ?_
  refine zs_iload_n hX dX13_typed_843 rfl rfl ?_
  obtain ⟨b231, h⟩ := zgd_e h
  refine zl_x3 hX dX13_typed_844 (zin_ok b231) ?_
  obtain ⟨r234, s232, e233, h⟩ := zci_e h
  refine zc_typeOf hX dX13_typed_845 (Nat.le_of_ble_eq_true rfl) (hc _ _ _ _ e233) (fun r9 u9 h9 => ?_)
  cases h9
  exact zs_iret hX dX13_typed_848 rfl (Option.some.inj h)
def b_sort (n : Nat) (call : zCl) (h0 : Nat) (qs : List Nat) (ks : Nat → Nat) (x1 : Int32) (σ : zSt) : zRs :=
  zci (call 42 [.ref h0, .int x1] σ) fun r3 s1 =>
  zgd (zin r3 9000) (
  if (s1.2.2.1 34 (r3).toNatClampNeg) = 0 then
    some (some (.int 1), s1)
  else
    zgd (zin r3 9000) (
    some (some (.int (s1.2.2.1 34 (r3).toNatClampNeg)), s1)))
set_option maxHeartbeats 4000000 in
theorem pb_sort {h0 : Nat} {qs : List Nat} {ks : Nat → Nat} {n : Nat} {call : zCl} {kc : Nat → List Value → zSt → (Option Value → zSt → Prop) → Prop} {v : Option Value × zSt} {X : Nat → zLv → List Value → zSt → Prop} (hX : zSem cX13_sort 3 (some .int) h0 qs ks kc (fun r u => (r, u) = v) X) (hc : ∀ j av s w, call j av s = some w → kc j av s (fun r u => (r, u) = w)) {x1 : Int32} {σ : zSt} (h : b_sort n call h0 qs ks x1 σ = some v) : X 0 [some (.ref h0), some (.int x1), none] [] σ := by
  rw [b_sort] at h
  refine zs_aload_n hX dX13_sort_0 rfl rfl ?_
  refine zs_iload_n hX dX13_sort_1 rfl rfl ?_
  obtain ⟨r3, s1, e2, h⟩ := zci_e h
  refine zc_real hX dX13_sort_2 (Nat.le_of_ble_eq_true rfl) (hc _ _ _ _ e2) (fun r9 u9 h9 => ?_)
  cases h9
  refine zs_istore_n hX dX13_sort_5 rfl (by decide) rfl ?_
  dsimp only [List.set]
  refine zs_aload_n hX dX13_sort_6 rfl rfl ?_
  refine zg_tKind hX dX13_sort_7 ?_
  refine zs_iload_n hX dX13_sort_10 rfl rfl ?_
  obtain ⟨b4, h⟩ := zgd_e h
  refine zl_tKind hX dX13_sort_11 (zin_ok b4) ?_
  refine zs_if_ne (tgt := 19) hX dX13_sort_12 (by decide) (fun c5 => ?_) (fun c5 => ?_)
  · rw [if_neg c5] at h
    refine zs_aload_n hX dX13_sort_19 rfl rfl ?_
    refine zg_tKind hX dX13_sort_20 ?_
    refine zs_iload_n hX dX13_sort_23 rfl rfl ?_
    obtain ⟨b6, h⟩ := zgd_e h
    refine zl_tKind hX dX13_sort_24 (zin_ok b6) ?_
    exact zs_iret hX dX13_sort_25 rfl (Option.some.inj h)
  · rw [if_pos c5] at h
    refine zs_iconst (v := 1) hX dX13_sort_15 (by decide) ?_
    refine zs_goto (tgt := 25) hX dX13_sort_16 (by decide) ?_
    exact zs_iret hX dX13_sort_25 rfl (Option.some.inj h)
def b_clearLine (n : Nat) (call : zCl) (h0 : Nat) (qs : List Nat) (ks : Nat → Nat) (σ : zSt) : zRs :=
  zlet (zI σ 63 0) fun s1 =>
  zlet (zJ s1 64 0) fun s3 =>
  some (none, s3)
set_option maxHeartbeats 4000000 in
theorem pb_clearLine {h0 : Nat} {qs : List Nat} {ks : Nat → Nat} {n : Nat} {call : zCl} {kc : Nat → List Value → zSt → (Option Value → zSt → Prop) → Prop} {v : Option Value × zSt} {X : Nat → zLv → List Value → zSt → Prop} (hX : zSem cX13_clearLine 1 none h0 qs ks kc (fun r u => (r, u) = v) X) (hc : ∀ j av s w, call j av s = some w → kc j av s (fun r u => (r, u) = w)) {σ : zSt} (h : b_clearLine n call h0 qs ks σ = some v) : X 0 [some (.ref h0)] [] σ := by
  rw [b_clearLine] at h
  refine zs_aload_n hX dX13_clearLine_0 rfl rfl ?_
  refine zs_iconst (v := 0) hX dX13_clearLine_1 (by decide) ?_
  obtain ⟨s1, e2, h⟩ := zlet_e h
  refine zp_lMany hX dX13_clearLine_2 ?_
  rw [← e2]
  refine zs_aload_n hX dX13_clearLine_5 rfl rfl ?_
  refine zs_lconst (v := 0) hX dX13_clearLine_6 (by decide) ?_
  obtain ⟨s3, e4, h⟩ := zlet_e h
  refine zp_lNumber hX dX13_clearLine_7 ?_
  rw [← e4]
  exact zs_vret hX dX13_clearLine_10 rfl (Option.some.inj h)
def j_addName_58 (n : Nat) (call : zCl) (h0 : Nat) (qs : List Nat) (ks : Nat → Nat) (x2 : Int32) (x3 : Int32) (σ : zSt) : zRs :=
  zgd (zin x3 40) (
  zgd (zin x3 40) (zlet (zA σ 41 (upd (σ.2.2.1 41) (x3).toNatClampNeg ((σ.2.2.1 41 (x3).toNatClampNeg) + x2))) fun s3 =>
  zgd (zin x3 40) (
  if (s3.2.2.1 41 (x3).toNatClampNeg) = 0 then
    zlet (zI s3 63 ((s3.1 63) - 1)) fun s7 =>
    zgd (zin (s7.1 63) 40) (
    zgd (zin x3 40) (zlet (zA s7 40 (upd (s7.2.2.1 40) (x3).toNatClampNeg (s7.2.2.1 40 ((s7.1 63)).toNatClampNeg))) fun s11 =>
    zgd (zin (s11.1 63) 40) (
    zgd (zin x3 40) (zlet (zA s11 41 (upd (s11.2.2.1 41) (x3).toNatClampNeg (s11.2.2.1 41 ((s11.1 63)).toNatClampNeg))) fun s15 =>
    some (none, s15)))))
  else
    some (none, s3))))
def j_addName_26 (n : Nat) (call : zCl) (h0 : Nat) (qs : List Nat) (ks : Nat → Nat) (x1 : Int32) (x2 : Int32) (x3 : Int32) (σ : zSt) : zRs :=
  if x3 = (σ.1 63) then
    zgd (zin x3 40) (zlet (zA σ 40 (upd (σ.2.2.1 40) (x3).toNatClampNeg x1)) fun s3 =>
    zgd (zin x3 40) (zlet (zA s3 41 (upd (s3.2.2.1 41) (x3).toNatClampNeg 0)) fun s6 =>
    zlet (zI s6 63 ((s6.1 63) + 1)) fun s8 =>
    j_addName_58 n call h0 qs ks x2 x3 s8))
  else
    j_addName_58 n call h0 qs ks x2 x3 σ
def l_addName_2 (n : Nat) (call : zCl) (h0 : Nat) (qs : List Nat) (ks : Nat → Nat) : Nat → Int32 → Int32 → Int32 → zSt → zRs
  | 0, _, _, _, _ => none
  | f + 1, x1, x2, x3, σ =>
    if (σ.1 63) ≤ x3 then
      j_addName_26 n call h0 qs ks x1 x2 x3 σ
    else
      zgd (zin x3 40) (
      if (σ.2.2.1 40 (x3).toNatClampNeg) = x1 then
        j_addName_26 n call h0 qs ks x1 x2 x3 σ
      else
        l_addName_2 n call h0 qs ks f x1 x2 (x3 + 1) σ)
def b_addName (n : Nat) (call : zCl) (h0 : Nat) (qs : List Nat) (ks : Nat → Nat) (x1 : Int32) (x2 : Int32) (σ : zSt) : zRs :=
  l_addName_2 n call h0 qs ks n x1 x2 0 σ
set_option maxHeartbeats 4000000 in
theorem pj_addName_58 {h0 : Nat} {qs : List Nat} {ks : Nat → Nat} {n : Nat} {call : zCl} {kc : Nat → List Value → zSt → (Option Value → zSt → Prop) → Prop} {v : Option Value × zSt} {X : Nat → zLv → List Value → zSt → Prop} (hX : zSem cX13_addName 4 none h0 qs ks kc (fun r u => (r, u) = v) X) (hc : ∀ j av s w, call j av s = some w → kc j av s (fun r u => (r, u) = w)) {x2 : Int32} {x3 : Int32} {σ : zSt} (h : j_addName_58 n call h0 qs ks x2 x3 σ = some v) : X 58 [some (.ref h0), none, some (.int x2), some (.int x3)] [] σ := by
  rw [j_addName_58] at h
  refine zs_aload_n hX dX13_addName_58 rfl rfl ?_
  refine zg_lTimes hX dX13_addName_59 ?_
  refine zs_iload_n hX dX13_addName_62 rfl rfl ?_
  refine zs_dup2 hX dX13_addName_63 rfl rfl ?_
  obtain ⟨b1, h⟩ := zgd_e h
  refine zl_lTimes hX dX13_addName_64 (zin_ok b1) ?_
  refine zs_iload_n hX dX13_addName_65 rfl rfl ?_
  refine zs_iadd hX dX13_addName_66 ?_
  obtain ⟨b2, h⟩ := zgd_e h
  obtain ⟨s3, e4, h⟩ := zlet_e h
  refine zt_lTimes hX dX13_addName_67 (zin_ok b2) ?_
  rw [← e4]
  refine zs_aload_n hX dX13_addName_68 rfl rfl ?_
  refine zg_lTimes hX dX13_addName_69 ?_
  refine zs_iload_n hX dX13_addName_72 rfl rfl ?_
  obtain ⟨b5, h⟩ := zgd_e h
  refine zl_lTimes hX dX13_addName_73 (zin_ok b5) ?_
  refine zs_if_eq (tgt := 78) hX dX13_addName_74 (by decide) (fun c6 => ?_) (fun c6 => ?_)
  · rw [if_pos c6] at h
    refine zs_aload_n hX dX13_addName_78 rfl rfl ?_
    refine zs_dup hX dX13_addName_79 rfl ?_
    refine zg_lMany hX dX13_addName_80 ?_
    refine zs_iconst (v := 1) hX dX13_addName_83 (by decide) ?_
    refine zs_isub hX dX13_addName_84 ?_
    obtain ⟨s7, e8, h⟩ := zlet_e h
    refine zp_lMany hX dX13_addName_85 ?_
    rw [← e8]
    refine zs_aload_n hX dX13_addName_88 rfl rfl ?_
    refine zg_lName hX dX13_addName_89 ?_
    refine zs_iload_n hX dX13_addName_92 rfl rfl ?_
    refine zs_aload_n hX dX13_addName_93 rfl rfl ?_
    refine zg_lName hX dX13_addName_94 ?_
    refine zs_aload_n hX dX13_addName_97 rfl rfl ?_
    refine zg_lMany hX dX13_addName_98 ?_
    obtain ⟨b9, h⟩ := zgd_e h
    refine zl_lName hX dX13_addName_101 (zin_ok b9) ?_
    obtain ⟨b10, h⟩ := zgd_e h
    obtain ⟨s11, e12, h⟩ := zlet_e h
    refine zt_lName hX dX13_addName_102 (zin_ok b10) ?_
    rw [← e12]
    refine zs_aload_n hX dX13_addName_103 rfl rfl ?_
    refine zg_lTimes hX dX13_addName_104 ?_
    refine zs_iload_n hX dX13_addName_107 rfl rfl ?_
    refine zs_aload_n hX dX13_addName_108 rfl rfl ?_
    refine zg_lTimes hX dX13_addName_109 ?_
    refine zs_aload_n hX dX13_addName_112 rfl rfl ?_
    refine zg_lMany hX dX13_addName_113 ?_
    obtain ⟨b13, h⟩ := zgd_e h
    refine zl_lTimes hX dX13_addName_116 (zin_ok b13) ?_
    obtain ⟨b14, h⟩ := zgd_e h
    obtain ⟨s15, e16, h⟩ := zlet_e h
    refine zt_lTimes hX dX13_addName_117 (zin_ok b14) ?_
    rw [← e16]
    exact zs_vret hX dX13_addName_118 rfl (Option.some.inj h)
  · rw [if_neg c6] at h
    exact zs_vret hX dX13_addName_77 rfl (Option.some.inj h)
set_option maxHeartbeats 4000000 in
theorem pj_addName_26 {h0 : Nat} {qs : List Nat} {ks : Nat → Nat} {n : Nat} {call : zCl} {kc : Nat → List Value → zSt → (Option Value → zSt → Prop) → Prop} {v : Option Value × zSt} {X : Nat → zLv → List Value → zSt → Prop} (hX : zSem cX13_addName 4 none h0 qs ks kc (fun r u => (r, u) = v) X) (hc : ∀ j av s w, call j av s = some w → kc j av s (fun r u => (r, u) = w)) {x1 : Int32} {x2 : Int32} {x3 : Int32} {σ : zSt} (h : j_addName_26 n call h0 qs ks x1 x2 x3 σ = some v) : X 26 [some (.ref h0), some (.int x1), some (.int x2), some (.int x3)] [] σ := by
  rw [j_addName_26] at h
  refine zs_iload_n hX dX13_addName_26 rfl rfl ?_
  refine zs_aload_n hX dX13_addName_27 rfl rfl ?_
  refine zg_lMany hX dX13_addName_28 ?_
  refine zs_icmp_ne (tgt := 58) hX dX13_addName_31 (by decide) (fun c1 => ?_) (fun c1 => ?_)
  · rw [if_neg c1] at h
    refine zs_weak hX (lw := [some (.ref h0), none, some (.int x2), some (.int x3)]) ⟨rfl, rfl, rfl, trivial⟩ ?_
    exact pj_addName_58 hX hc h
  · rw [if_pos c1] at h
    refine zs_aload_n hX dX13_addName_34 rfl rfl ?_
    refine zg_lName hX dX13_addName_35 ?_
    refine zs_iload_n hX dX13_addName_38 rfl rfl ?_
    refine zs_iload_n hX dX13_addName_39 rfl rfl ?_
    obtain ⟨b2, h⟩ := zgd_e h
    obtain ⟨s3, e4, h⟩ := zlet_e h
    refine zt_lName hX dX13_addName_40 (zin_ok b2) ?_
    rw [← e4]
    refine zs_aload_n hX dX13_addName_41 rfl rfl ?_
    refine zg_lTimes hX dX13_addName_42 ?_
    refine zs_iload_n hX dX13_addName_45 rfl rfl ?_
    refine zs_iconst (v := 0) hX dX13_addName_46 (by decide) ?_
    obtain ⟨b5, h⟩ := zgd_e h
    obtain ⟨s6, e7, h⟩ := zlet_e h
    refine zt_lTimes hX dX13_addName_47 (zin_ok b5) ?_
    rw [← e7]
    refine zs_aload_n hX dX13_addName_48 rfl rfl ?_
    refine zs_dup hX dX13_addName_49 rfl ?_
    refine zg_lMany hX dX13_addName_50 ?_
    refine zs_iconst (v := 1) hX dX13_addName_53 (by decide) ?_
    refine zs_iadd hX dX13_addName_54 ?_
    obtain ⟨s8, e9, h⟩ := zlet_e h
    refine zp_lMany hX dX13_addName_55 ?_
    rw [← e9]
    refine zs_weak hX (lw := [some (.ref h0), none, some (.int x2), some (.int x3)]) ⟨rfl, rfl, rfl, trivial⟩ ?_
    exact pj_addName_58 hX hc h
set_option maxHeartbeats 4000000 in
theorem pl_addName_2 {h0 : Nat} {qs : List Nat} {ks : Nat → Nat} {n : Nat} {call : zCl} {kc : Nat → List Value → zSt → (Option Value → zSt → Prop) → Prop} {v : Option Value × zSt} {X : Nat → zLv → List Value → zSt → Prop} (hX : zSem cX13_addName 4 none h0 qs ks kc (fun r u => (r, u) = v) X) (hc : ∀ j av s w, call j av s = some w → kc j av s (fun r u => (r, u) = w)) : ∀ (f : Nat) (x1 : Int32) (x2 : Int32) (x3 : Int32) (σ : zSt), l_addName_2 n call h0 qs ks f x1 x2 x3 σ = some v → X 2 [some (.ref h0), some (.int x1), some (.int x2), some (.int x3)] [] σ := by
  intro f
  induction f with
  | zero => intro x1 x2 x3 σ h; cases h
  | succ f hk2 =>
    intro x1 x2 x3 σ h
    rw [l_addName_2] at h
    refine zs_iload_n hX dX13_addName_2 rfl rfl ?_
    refine zs_aload_n hX dX13_addName_3 rfl rfl ?_
    refine zg_lMany hX dX13_addName_4 ?_
    refine zs_icmp_ge (tgt := 26) hX dX13_addName_7 (by decide) (fun c1 => ?_) (fun c1 => ?_)
    · rw [if_pos c1] at h
      exact pj_addName_26 hX hc h
    · rw [if_neg c1] at h
      refine zs_aload_n hX dX13_addName_10 rfl rfl ?_
      refine zg_lName hX dX13_addName_11 ?_
      refine zs_iload_n hX dX13_addName_14 rfl rfl ?_
      obtain ⟨b2, h⟩ := zgd_e h
      refine zl_lName hX dX13_addName_15 (zin_ok b2) ?_
      refine zs_iload_n hX dX13_addName_16 rfl rfl ?_
      refine zs_icmp_eq (tgt := 26) hX dX13_addName_17 (by decide) (fun c3 => ?_) (fun c3 => ?_)
      · rw [if_pos c3] at h
        exact pj_addName_26 hX hc h
      · rw [if_neg c3] at h
        refine zs_iinc (v := x3 + 1) hX dX13_addName_20 rfl rfl (by decide) rfl ?_
        dsimp only [List.set]
        refine zs_goto (tgt := 2) hX dX13_addName_23 (by decide) ?_
        exact hk2 _ _ _ _ h
set_option maxHeartbeats 4000000 in
theorem pb_addName {h0 : Nat} {qs : List Nat} {ks : Nat → Nat} {n : Nat} {call : zCl} {kc : Nat → List Value → zSt → (Option Value → zSt → Prop) → Prop} {v : Option Value × zSt} {X : Nat → zLv → List Value → zSt → Prop} (hX : zSem cX13_addName 4 none h0 qs ks kc (fun r u => (r, u) = v) X) (hc : ∀ j av s w, call j av s = some w → kc j av s (fun r u => (r, u) = w)) {x1 : Int32} {x2 : Int32} {σ : zSt} (h : b_addName n call h0 qs ks x1 x2 σ = some v) : X 0 [some (.ref h0), some (.int x1), some (.int x2), none] [] σ := by
  rw [b_addName] at h
  refine zs_iconst (v := 0) hX dX13_addName_0 (by decide) ?_
  refine zs_istore_n hX dX13_addName_1 rfl (by decide) rfl ?_
  dsimp only [List.set]
  exact pl_addName_2 hX hc n _ _ _ _ h
def j_addSum_89 (n : Nat) (call : zCl) (h0 : Nat) (qs : List Nat) (ks : Nat → Nat) (k7 : Int32 → Int32 → Int32 → zSt → zRs) (x1 : Int32) (x2 : Int32) (x3 : Int32) (σ : zSt) : zRs :=
  k7 x1 x2 (x3 + 1) σ
def l_addSum_7 (n : Nat) (call : zCl) (h0 : Nat) (qs : List Nat) (ks : Nat → Nat) : Nat → Int32 → Int32 → Int32 → zSt → zRs
  | 0, _, _, _, _ => none
  | f + 1, x1, x2, x3, σ =>
    zgd (zin x1 2100) (
    if (σ.2.2.1 14 (x1).toNatClampNeg) ≤ x3 then
      some (none, σ)
    else
      zgd (zin x3 2100) (
      zgd (zin x3 2100) (
      if (σ.2.2.1 16 (x3).toNatClampNeg) = 0 then
        zgd (zin x3 2100) (
        zci (call 16 [.ref h0, .int (σ.2.2.1 18 (x3).toNatClampNeg)] σ) fun r14 s12 =>
        zlet (zJ s12 64 ((σ.2.1 64) + (((((σ.2.2.1 17 (x3).toNatClampNeg) * x2)).toInt64) * ((r14).toInt64)))) fun s15 =>
        j_addSum_89 n call h0 qs ks (l_addSum_7 n call h0 qs ks f) x1 x2 x3 s15)
      else
        if 39 ≤ (σ.1 63) then
          j_addSum_89 n call h0 qs ks (l_addSum_7 n call h0 qs ks f) x1 x2 x3 σ
        else
          zgd (zin x3 2100) (
          zgd (zin (σ.2.2.1 18 (x3).toNatClampNeg) 2010) (
          zcv (call 54 [.ref h0, .int (σ.2.2.1 32 ((σ.2.2.1 18 (x3).toNatClampNeg)).toNatClampNeg), .int ((σ.2.2.1 17 (x3).toNatClampNeg) * x2)] σ) fun s9 =>
          j_addSum_89 n call h0 qs ks (l_addSum_7 n call h0 qs ks f) x1 x2 x3 s9)))))
def b_addSum (n : Nat) (call : zCl) (h0 : Nat) (qs : List Nat) (ks : Nat → Nat) (x1 : Int32) (x2 : Int32) (σ : zSt) : zRs :=
  zgd (zin x1 2100) (
  l_addSum_7 n call h0 qs ks n x1 x2 (σ.2.2.1 13 (x1).toNatClampNeg) σ)
set_option maxHeartbeats 4000000 in
theorem pj_addSum_89 {h0 : Nat} {qs : List Nat} {ks : Nat → Nat} {n : Nat} {call : zCl} {kc : Nat → List Value → zSt → (Option Value → zSt → Prop) → Prop} {v : Option Value × zSt} {X : Nat → zLv → List Value → zSt → Prop} (hX : zSem cX13_addSum 5 none h0 qs ks kc (fun r u => (r, u) = v) X) (hc : ∀ j av s w, call j av s = some w → kc j av s (fun r u => (r, u) = w)) {k7 : Int32 → Int32 → Int32 → zSt → zRs} (hk7 : ∀ (x1 : Int32) (x2 : Int32) (x3 : Int32) (s : zSt), k7 x1 x2 x3 s = some v → X 7 [some (.ref h0), some (.int x1), some (.int x2), some (.int x3), none] [] s) {x1 : Int32} {x2 : Int32} {x3 : Int32} {σ : zSt} (h : j_addSum_89 n call h0 qs ks k7 x1 x2 x3 σ = some v) : X 89 [some (.ref h0), some (.int x1), some (.int x2), some (.int x3), none] [] σ := by
  rw [j_addSum_89] at h
  refine zs_iinc (v := x3 + 1) hX dX13_addSum_89 rfl rfl (by decide) rfl ?_
  dsimp only [List.set]
  refine zs_goto (tgt := 7) hX dX13_addSum_92 (by decide) ?_
  exact hk7 _ _ _ _ h
set_option maxHeartbeats 4000000 in
theorem pl_addSum_7 {h0 : Nat} {qs : List Nat} {ks : Nat → Nat} {n : Nat} {call : zCl} {kc : Nat → List Value → zSt → (Option Value → zSt → Prop) → Prop} {v : Option Value × zSt} {X : Nat → zLv → List Value → zSt → Prop} (hX : zSem cX13_addSum 5 none h0 qs ks kc (fun r u => (r, u) = v) X) (hc : ∀ j av s w, call j av s = some w → kc j av s (fun r u => (r, u) = w)) : ∀ (f : Nat) (x1 : Int32) (x2 : Int32) (x3 : Int32) (σ : zSt), l_addSum_7 n call h0 qs ks f x1 x2 x3 σ = some v → X 7 [some (.ref h0), some (.int x1), some (.int x2), some (.int x3), none] [] σ := by
  intro f
  induction f with
  | zero => intro x1 x2 x3 σ h; cases h
  | succ f hk7 =>
    intro x1 x2 x3 σ h
    rw [l_addSum_7] at h
    refine zs_iload_n hX dX13_addSum_7 rfl rfl ?_
    refine zs_aload_n hX dX13_addSum_8 rfl rfl ?_
    refine zg_sTo hX dX13_addSum_9 ?_
    refine zs_iload_n hX dX13_addSum_12 rfl rfl ?_
    obtain ⟨b1, h⟩ := zgd_e h
    refine zl_sTo hX dX13_addSum_13 (zin_ok b1) ?_
    refine zs_icmp_ge (tgt := 95) hX dX13_addSum_14 (by decide) (fun c2 => ?_) (fun c2 => ?_)
    · rw [if_pos c2] at h
      exact zs_vret hX dX13_addSum_95 rfl (Option.some.inj h)
    · rw [if_neg c2] at h
      refine zs_aload_n hX dX13_addSum_17 rfl rfl ?_
      refine zg_pSign hX dX13_addSum_18 ?_
      refine zs_iload_n hX dX13_addSum_21 rfl rfl ?_
      obtain ⟨b3, h⟩ := zgd_e h
      refine zl_pSign hX dX13_addSum_22 (zin_ok b3) ?_
      refine zs_iload_n hX dX13_addSum_23 rfl rfl ?_
      refine zs_imul hX dX13_addSum_24 ?_
      refine zs_istore hX dX13_addSum_25 (by decide) rfl ?_
      dsimp only [List.set]
      refine zs_aload_n hX dX13_addSum_27 rfl rfl ?_
      refine zg_pKind hX dX13_addSum_28 ?_
      refine zs_iload_n hX dX13_addSum_31 rfl rfl ?_
      obtain ⟨b4, h⟩ := zgd_e h
      refine zl_pKind hX dX13_addSum_32 (zin_ok b4) ?_
      refine zs_if_ne (tgt := 63) hX dX13_addSum_33 (by decide) (fun c5 => ?_) (fun c5 => ?_)
      · rw [if_neg c5] at h
        refine zs_aload_n hX dX13_addSum_63 rfl rfl ?_
        refine zg_lMany hX dX13_addSum_64 ?_
        refine zs_bipush (v := 39) hX dX13_addSum_67 (by decide) ?_
        refine zs_icmp_ge (tgt := 89) hX dX13_addSum_69 (by decide) (fun c6 => ?_) (fun c6 => ?_)
        · rw [if_pos c6] at h
          refine zs_weak hX (lw := [some (.ref h0), some (.int x1), some (.int x2), some (.int x3), none]) ⟨rfl, rfl, rfl, rfl, trivial⟩ ?_
          exact pj_addSum_89 hX hc hk7 h
        · rw [if_neg c6] at h
          refine zs_aload_n hX dX13_addSum_72 rfl rfl ?_
          refine zs_aload_n hX dX13_addSum_73 rfl rfl ?_
          refine zg_whose hX dX13_addSum_74 ?_
          refine zs_aload_n hX dX13_addSum_77 rfl rfl ?_
          refine zg_pWord hX dX13_addSum_78 ?_
          refine zs_iload_n hX dX13_addSum_81 rfl rfl ?_
          obtain ⟨b7, h⟩ := zgd_e h
          refine zl_pWord hX dX13_addSum_82 (zin_ok b7) ?_
          obtain ⟨b8, h⟩ := zgd_e h
          refine zl_whose hX dX13_addSum_83 (zin_ok b8) ?_
          refine zs_iload hX dX13_addSum_84 rfl ?_
          obtain ⟨s9, e10, h⟩ := zcv_e h
          refine zc_addName hX dX13_addSum_86 (Nat.le_of_ble_eq_true rfl) (hc _ _ _ _ e10) (fun u9 h9 => ?_)
          cases h9
          refine zs_weak hX (lw := [some (.ref h0), some (.int x1), some (.int x2), some (.int x3), none]) ⟨rfl, rfl, rfl, rfl, trivial⟩ ?_
          exact pj_addSum_89 hX hc hk7 h
      · rw [if_pos c5] at h
        refine zs_aload_n hX dX13_addSum_36 rfl rfl ?_
        refine zs_dup hX dX13_addSum_37 rfl ?_
        refine zg_lNumber hX dX13_addSum_38 ?_
        refine zs_iload hX dX13_addSum_41 rfl ?_
        refine zs_i2l hX dX13_addSum_43 ?_
        refine zs_aload_n hX dX13_addSum_44 rfl rfl ?_
        refine zs_aload_n hX dX13_addSum_45 rfl rfl ?_
        refine zg_pWord hX dX13_addSum_46 ?_
        refine zs_iload_n hX dX13_addSum_49 rfl rfl ?_
        obtain ⟨b11, h⟩ := zgd_e h
        refine zl_pWord hX dX13_addSum_50 (zin_ok b11) ?_
        obtain ⟨r14, s12, e13, h⟩ := zci_e h
        refine zc_numberOf hX dX13_addSum_51 (Nat.le_of_ble_eq_true rfl) (hc _ _ _ _ e13) (fun r9 u9 h9 => ?_)
        cases h9
        refine zs_i2l hX dX13_addSum_54 ?_
        refine zs_lmul hX dX13_addSum_55 ?_
        refine zs_ladd hX dX13_addSum_56 ?_
        obtain ⟨s15, e16, h⟩ := zlet_e h
        refine zp_lNumber hX dX13_addSum_57 ?_
        rw [← e16]
        refine zs_goto (tgt := 89) hX dX13_addSum_60 (by decide) ?_
        refine zs_weak hX (lw := [some (.ref h0), some (.int x1), some (.int x2), some (.int x3), none]) ⟨rfl, rfl, rfl, rfl, trivial⟩ ?_
        exact pj_addSum_89 hX hc hk7 h
set_option maxHeartbeats 4000000 in
theorem pb_addSum {h0 : Nat} {qs : List Nat} {ks : Nat → Nat} {n : Nat} {call : zCl} {kc : Nat → List Value → zSt → (Option Value → zSt → Prop) → Prop} {v : Option Value × zSt} {X : Nat → zLv → List Value → zSt → Prop} (hX : zSem cX13_addSum 5 none h0 qs ks kc (fun r u => (r, u) = v) X) (hc : ∀ j av s w, call j av s = some w → kc j av s (fun r u => (r, u) = w)) {x1 : Int32} {x2 : Int32} {σ : zSt} (h : b_addSum n call h0 qs ks x1 x2 σ = some v) : X 0 [some (.ref h0), some (.int x1), some (.int x2), none, none] [] σ := by
  rw [b_addSum] at h
  refine zs_aload_n hX dX13_addSum_0 rfl rfl ?_
  refine zg_sFrom hX dX13_addSum_1 ?_
  refine zs_iload_n hX dX13_addSum_4 rfl rfl ?_
  obtain ⟨b1, h⟩ := zgd_e h
  refine zl_sFrom hX dX13_addSum_5 (zin_ok b1) ?_
  refine zs_istore_n hX dX13_addSum_6 rfl (by decide) rfl ?_
  dsimp only [List.set]
  exact pl_addSum_7 hX hc n _ _ _ _ h
def j_isForm_71 (n : Nat) (call : zCl) (h0 : Nat) (qs : List Nat) (ks : Nat → Nat) (k12 : Int32 → zSt → zRs) (x1 : Int32) (σ : zSt) : zRs :=
  k12 (x1 + 1) σ
def l_isForm_12 (n : Nat) (call : zCl) (h0 : Nat) (qs : List Nat) (ks : Nat → Nat) : Nat → Int32 → zSt → zRs
  | 0, _, _ => none
  | f + 1, x1, σ =>
    if (σ.1 63) ≤ x1 then
      some (some (.int 1), σ)
    else
      zgd (zin x1 40) (
      if 2 < (σ.2.2.1 41 (x1).toNatClampNeg) then
        some (some (.int 0), σ)
      else
        zgd (zin x1 40) (
        if (σ.2.2.1 41 (x1).toNatClampNeg) < (-2) then
          some (some (.int 0), σ)
        else
          if (σ.1 63) = 2 then
            zgd (zin x1 40) (
            if 1 < (σ.2.2.1 41 (x1).toNatClampNeg) then
              some (some (.int 0), σ)
            else
              zgd (zin x1 40) (
              if (-1) ≤ (σ.2.2.1 41 (x1).toNatClampNeg) then
                j_isForm_71 n call h0 qs ks (l_isForm_12 n call h0 qs ks f) x1 σ
              else
                some (some (.int 0), σ)))
          else
            j_isForm_71 n call h0 qs ks (l_isForm_12 n call h0 qs ks f) x1 σ))
def b_isForm (n : Nat) (call : zCl) (h0 : Nat) (qs : List Nat) (ks : Nat → Nat) (σ : zSt) : zRs :=
  if (σ.1 63) ≤ 2 then
    l_isForm_12 n call h0 qs ks n 0 σ
  else
    some (some (.int 0), σ)
set_option maxHeartbeats 4000000 in
theorem pj_isForm_71 {h0 : Nat} {qs : List Nat} {ks : Nat → Nat} {n : Nat} {call : zCl} {kc : Nat → List Value → zSt → (Option Value → zSt → Prop) → Prop} {v : Option Value × zSt} {X : Nat → zLv → List Value → zSt → Prop} (hX : zSem cX13_isForm 2 (some .boolean) h0 qs ks kc (fun r u => (r, u) = v) X) (hc : ∀ j av s w, call j av s = some w → kc j av s (fun r u => (r, u) = w)) {k12 : Int32 → zSt → zRs} (hk12 : ∀ (x1 : Int32) (s : zSt), k12 x1 s = some v → X 12 [some (.ref h0), some (.int x1)] [] s) {x1 : Int32} {σ : zSt} (h : j_isForm_71 n call h0 qs ks k12 x1 σ = some v) : X 71 [some (.ref h0), some (.int x1)] [] σ := by
  rw [j_isForm_71] at h
  refine zs_iinc (v := x1 + 1) hX dX13_isForm_71 rfl rfl (by decide) rfl ?_
  dsimp only [List.set]
  refine zs_goto (tgt := 12) hX dX13_isForm_74 (by decide) ?_
  exact hk12 _ _ h
set_option maxHeartbeats 4000000 in
theorem pl_isForm_12 {h0 : Nat} {qs : List Nat} {ks : Nat → Nat} {n : Nat} {call : zCl} {kc : Nat → List Value → zSt → (Option Value → zSt → Prop) → Prop} {v : Option Value × zSt} {X : Nat → zLv → List Value → zSt → Prop} (hX : zSem cX13_isForm 2 (some .boolean) h0 qs ks kc (fun r u => (r, u) = v) X) (hc : ∀ j av s w, call j av s = some w → kc j av s (fun r u => (r, u) = w)) : ∀ (f : Nat) (x1 : Int32) (σ : zSt), l_isForm_12 n call h0 qs ks f x1 σ = some v → X 12 [some (.ref h0), some (.int x1)] [] σ := by
  intro f
  induction f with
  | zero => intro x1 σ h; cases h
  | succ f hk12 =>
    intro x1 σ h
    rw [l_isForm_12] at h
    refine zs_iload_n hX dX13_isForm_12 rfl rfl ?_
    refine zs_aload_n hX dX13_isForm_13 rfl rfl ?_
    refine zg_lMany hX dX13_isForm_14 ?_
    refine zs_icmp_ge (tgt := 77) hX dX13_isForm_17 (by decide) (fun c1 => ?_) (fun c1 => ?_)
    · rw [if_pos c1] at h
      refine zs_iconst (v := 1) hX dX13_isForm_77 (by decide) ?_
      exact zs_zret hX dX13_isForm_78 rfl (by decide) (Option.some.inj h)
    · rw [if_neg c1] at h
      refine zs_aload_n hX dX13_isForm_20 rfl rfl ?_
      refine zg_lTimes hX dX13_isForm_21 ?_
      refine zs_iload_n hX dX13_isForm_24 rfl rfl ?_
      obtain ⟨b2, h⟩ := zgd_e h
      refine zl_lTimes hX dX13_isForm_25 (zin_ok b2) ?_
      refine zs_iconst (v := 2) hX dX13_isForm_26 (by decide) ?_
      refine zs_icmp_gt (tgt := 69) hX dX13_isForm_27 (by decide) (fun c3 => ?_) (fun c3 => ?_)
      · rw [if_pos c3] at h
        refine zs_iconst (v := 0) hX dX13_isForm_69 (by decide) ?_
        exact zs_zret hX dX13_isForm_70 rfl (by decide) (Option.some.inj h)
      · rw [if_neg c3] at h
        refine zs_aload_n hX dX13_isForm_30 rfl rfl ?_
        refine zg_lTimes hX dX13_isForm_31 ?_
        refine zs_iload_n hX dX13_isForm_34 rfl rfl ?_
        obtain ⟨b4, h⟩ := zgd_e h
        refine zl_lTimes hX dX13_isForm_35 (zin_ok b4) ?_
        refine zs_bipush (v := (-2)) hX dX13_isForm_36 (by decide) ?_
        refine zs_icmp_lt (tgt := 69) hX dX13_isForm_38 (by decide) (fun c5 => ?_) (fun c5 => ?_)
        · rw [if_pos c5] at h
          refine zs_iconst (v := 0) hX dX13_isForm_69 (by decide) ?_
          exact zs_zret hX dX13_isForm_70 rfl (by decide) (Option.some.inj h)
        · rw [if_neg c5] at h
          refine zs_aload_n hX dX13_isForm_41 rfl rfl ?_
          refine zg_lMany hX dX13_isForm_42 ?_
          refine zs_iconst (v := 2) hX dX13_isForm_45 (by decide) ?_
          refine zs_icmp_ne (tgt := 71) hX dX13_isForm_46 (by decide) (fun c6 => ?_) (fun c6 => ?_)
          · rw [if_neg c6] at h
            exact pj_isForm_71 hX hc hk12 h
          · rw [if_pos c6] at h
            refine zs_aload_n hX dX13_isForm_49 rfl rfl ?_
            refine zg_lTimes hX dX13_isForm_50 ?_
            refine zs_iload_n hX dX13_isForm_53 rfl rfl ?_
            obtain ⟨b7, h⟩ := zgd_e h
            refine zl_lTimes hX dX13_isForm_54 (zin_ok b7) ?_
            refine zs_iconst (v := 1) hX dX13_isForm_55 (by decide) ?_
            refine zs_icmp_gt (tgt := 69) hX dX13_isForm_56 (by decide) (fun c8 => ?_) (fun c8 => ?_)
            · rw [if_pos c8] at h
              refine zs_iconst (v := 0) hX dX13_isForm_69 (by decide) ?_
              exact zs_zret hX dX13_isForm_70 rfl (by decide) (Option.some.inj h)
            · rw [if_neg c8] at h
              refine zs_aload_n hX dX13_isForm_59 rfl rfl ?_
              refine zg_lTimes hX dX13_isForm_60 ?_
              refine zs_iload_n hX dX13_isForm_63 rfl rfl ?_
              obtain ⟨b9, h⟩ := zgd_e h
              refine zl_lTimes hX dX13_isForm_64 (zin_ok b9) ?_
              refine zs_iconst (v := (-1)) hX dX13_isForm_65 (by decide) ?_
              refine zs_icmp_ge (tgt := 71) hX dX13_isForm_66 (by decide) (fun c10 => ?_) (fun c10 => ?_)
              · rw [if_pos c10] at h
                exact pj_isForm_71 hX hc hk12 h
              · rw [if_neg c10] at h
                refine zs_iconst (v := 0) hX dX13_isForm_69 (by decide) ?_
                exact zs_zret hX dX13_isForm_70 rfl (by decide) (Option.some.inj h)
set_option maxHeartbeats 4000000 in
theorem pb_isForm {h0 : Nat} {qs : List Nat} {ks : Nat → Nat} {n : Nat} {call : zCl} {kc : Nat → List Value → zSt → (Option Value → zSt → Prop) → Prop} {v : Option Value × zSt} {X : Nat → zLv → List Value → zSt → Prop} (hX : zSem cX13_isForm 2 (some .boolean) h0 qs ks kc (fun r u => (r, u) = v) X) (hc : ∀ j av s w, call j av s = some w → kc j av s (fun r u => (r, u) = w)) {σ : zSt} (h : b_isForm n call h0 qs ks σ = some v) : X 0 [some (.ref h0), none] [] σ := by
  rw [b_isForm] at h
  refine zs_aload_n hX dX13_isForm_0 rfl rfl ?_
  refine zg_lMany hX dX13_isForm_1 ?_
  refine zs_iconst (v := 2) hX dX13_isForm_4 (by decide) ?_
  refine zs_icmp_le (tgt := 10) hX dX13_isForm_5 (by decide) (fun c1 => ?_) (fun c1 => ?_)
  · rw [if_pos c1] at h
    refine zs_iconst (v := 0) hX dX13_isForm_10 (by decide) ?_
    refine zs_istore_n hX dX13_isForm_11 rfl (by decide) rfl ?_
    dsimp only [List.set]
    exact pl_isForm_12 hX hc n _ _ h
  · rw [if_neg c1] at h
    refine zs_iconst (v := 0) hX dX13_isForm_8 (by decide) ?_
    exact zs_zret hX dX13_isForm_9 rfl (by decide) (Option.some.inj h)
def j_isTerm_45 (n : Nat) (call : zCl) (h0 : Nat) (qs : List Nat) (ks : Nat → Nat) (σ : zSt) : zRs :=
  some (some (.int 1), σ)
def b_isTerm (n : Nat) (call : zCl) (h0 : Nat) (qs : List Nat) (ks : Nat → Nat) (x1 : Int32) (σ : zSt) : zRs :=
  zcv (call 53 [.ref h0] σ) fun s1 =>
  zcv (call 55 [.ref h0, .int x1, .int 1] s1) fun s3 =>
  if (s3.1 63) = 0 then
    j_isTerm_45 n call h0 qs ks s3
  else
    if (s3.1 63) = 1 then
      zgd (zin 0 40) (
      if (s3.2.2.1 41 ((0 : Int32)).toNatClampNeg) = 1 then
        j_isTerm_45 n call h0 qs ks s3
      else
        zgd (zin 0 40) (
        if (s3.2.2.1 41 ((0 : Int32)).toNatClampNeg) = (-1) then
          j_isTerm_45 n call h0 qs ks s3
        else
          some (some (.int 0), s3)))
    else
      some (some (.int 0), s3)
set_option maxHeartbeats 4000000 in
theorem pj_isTerm_45 {h0 : Nat} {qs : List Nat} {ks : Nat → Nat} {n : Nat} {call : zCl} {kc : Nat → List Value → zSt → (Option Value → zSt → Prop) → Prop} {v : Option Value × zSt} {X : Nat → zLv → List Value → zSt → Prop} (hX : zSem cX13_isTerm 2 (some .boolean) h0 qs ks kc (fun r u => (r, u) = v) X) (hc : ∀ j av s w, call j av s = some w → kc j av s (fun r u => (r, u) = w)) {σ : zSt} (h : j_isTerm_45 n call h0 qs ks σ = some v) : X 45 [none, none] [] σ := by
  rw [j_isTerm_45] at h
  refine zs_iconst (v := 1) hX dX13_isTerm_45 (by decide) ?_
  refine zs_goto (tgt := 50) hX dX13_isTerm_46 (by decide) ?_
  exact zs_zret hX dX13_isTerm_50 rfl (by decide) (Option.some.inj h)
set_option maxHeartbeats 4000000 in
theorem pb_isTerm {h0 : Nat} {qs : List Nat} {ks : Nat → Nat} {n : Nat} {call : zCl} {kc : Nat → List Value → zSt → (Option Value → zSt → Prop) → Prop} {v : Option Value × zSt} {X : Nat → zLv → List Value → zSt → Prop} (hX : zSem cX13_isTerm 2 (some .boolean) h0 qs ks kc (fun r u => (r, u) = v) X) (hc : ∀ j av s w, call j av s = some w → kc j av s (fun r u => (r, u) = w)) {x1 : Int32} {σ : zSt} (h : b_isTerm n call h0 qs ks x1 σ = some v) : X 0 [some (.ref h0), some (.int x1)] [] σ := by
  rw [b_isTerm] at h
  refine zs_aload_n hX dX13_isTerm_0 rfl rfl ?_
  obtain ⟨s1, e2, h⟩ := zcv_e h
  refine zc_clearLine hX dX13_isTerm_1 (Nat.le_of_ble_eq_true rfl) (hc _ _ _ _ e2) (fun u9 h9 => ?_)
  cases h9
  refine zs_aload_n hX dX13_isTerm_4 rfl rfl ?_
  refine zs_iload_n hX dX13_isTerm_5 rfl rfl ?_
  refine zs_iconst (v := 1) hX dX13_isTerm_6 (by decide) ?_
  obtain ⟨s3, e4, h⟩ := zcv_e h
  refine zc_addSum hX dX13_isTerm_7 (Nat.le_of_ble_eq_true rfl) (hc _ _ _ _ e4) (fun u9 h9 => ?_)
  cases h9
  refine zs_aload_n hX dX13_isTerm_10 rfl rfl ?_
  refine zg_lMany hX dX13_isTerm_11 ?_
  refine zs_if_eq (tgt := 45) hX dX13_isTerm_14 (by decide) (fun c5 => ?_) (fun c5 => ?_)
  · rw [if_pos c5] at h
    refine zs_weak hX (lw := [none, none]) trivial ?_
    exact pj_isTerm_45 hX hc h
  · rw [if_neg c5] at h
    refine zs_aload_n hX dX13_isTerm_17 rfl rfl ?_
    refine zg_lMany hX dX13_isTerm_18 ?_
    refine zs_iconst (v := 1) hX dX13_isTerm_21 (by decide) ?_
    refine zs_icmp_ne (tgt := 49) hX dX13_isTerm_22 (by decide) (fun c6 => ?_) (fun c6 => ?_)
    · rw [if_neg c6] at h
      refine zs_iconst (v := 0) hX dX13_isTerm_49 (by decide) ?_
      exact zs_zret hX dX13_isTerm_50 rfl (by decide) (Option.some.inj h)
    · rw [if_pos c6] at h
      refine zs_aload_n hX dX13_isTerm_25 rfl rfl ?_
      refine zg_lTimes hX dX13_isTerm_26 ?_
      refine zs_iconst (v := 0) hX dX13_isTerm_29 (by decide) ?_
      obtain ⟨b7, h⟩ := zgd_e h
      refine zl_lTimes hX dX13_isTerm_30 (zin_ok b7) ?_
      refine zs_iconst (v := 1) hX dX13_isTerm_31 (by decide) ?_
      refine zs_icmp_eq (tgt := 45) hX dX13_isTerm_32 (by decide) (fun c8 => ?_) (fun c8 => ?_)
      · rw [if_pos c8] at h
        refine zs_weak hX (lw := [none, none]) trivial ?_
        exact pj_isTerm_45 hX hc h
      · rw [if_neg c8] at h
        refine zs_aload_n hX dX13_isTerm_35 rfl rfl ?_
        refine zg_lTimes hX dX13_isTerm_36 ?_
        refine zs_iconst (v := 0) hX dX13_isTerm_39 (by decide) ?_
        obtain ⟨b9, h⟩ := zgd_e h
        refine zl_lTimes hX dX13_isTerm_40 (zin_ok b9) ?_
        refine zs_iconst (v := (-1)) hX dX13_isTerm_41 (by decide) ?_
        refine zs_icmp_ne (tgt := 49) hX dX13_isTerm_42 (by decide) (fun c10 => ?_) (fun c10 => ?_)
        · rw [if_neg c10] at h
          refine zs_iconst (v := 0) hX dX13_isTerm_49 (by decide) ?_
          exact zs_zret hX dX13_isTerm_50 rfl (by decide) (Option.some.inj h)
        · rw [if_pos c10] at h
          refine zs_weak hX (lw := [none, none]) trivial ?_
          exact pj_isTerm_45 hX hc h
def j_wrongForm_15 (n : Nat) (call : zCl) (h0 : Nat) (qs : List Nat) (ks : Nat → Nat) (x1 : Int32) (σ : zSt) : zRs :=
  zlet (zI σ 52 x1) fun s1 =>
  some (none, s1)
def b_wrongForm (n : Nat) (call : zCl) (h0 : Nat) (qs : List Nat) (ks : Nat → Nat) (x1 : Int32) (σ : zSt) : zRs :=
  if (σ.1 52) < 0 then
    j_wrongForm_15 n call h0 qs ks x1 σ
  else
    if (σ.1 52) ≤ x1 then
      some (none, σ)
    else
      j_wrongForm_15 n call h0 qs ks x1 σ
set_option maxHeartbeats 4000000 in
theorem pj_wrongForm_15 {h0 : Nat} {qs : List Nat} {ks : Nat → Nat} {n : Nat} {call : zCl} {kc : Nat → List Value → zSt → (Option Value → zSt → Prop) → Prop} {v : Option Value × zSt} {X : Nat → zLv → List Value → zSt → Prop} (hX : zSem cX13_wrongForm 2 none h0 qs ks kc (fun r u => (r, u) = v) X) (hc : ∀ j av s w, call j av s = some w → kc j av s (fun r u => (r, u) = w)) {x1 : Int32} {σ : zSt} (h : j_wrongForm_15 n call h0 qs ks x1 σ = some v) : X 15 [some (.ref h0), some (.int x1)] [] σ := by
  rw [j_wrongForm_15] at h
  refine zs_aload_n hX dX13_wrongForm_15 rfl rfl ?_
  refine zs_iload_n hX dX13_wrongForm_16 rfl rfl ?_
  obtain ⟨s1, e2, h⟩ := zlet_e h
  refine zp_least hX dX13_wrongForm_17 ?_
  rw [← e2]
  exact zs_vret hX dX13_wrongForm_20 rfl (Option.some.inj h)
set_option maxHeartbeats 4000000 in
theorem pb_wrongForm {h0 : Nat} {qs : List Nat} {ks : Nat → Nat} {n : Nat} {call : zCl} {kc : Nat → List Value → zSt → (Option Value → zSt → Prop) → Prop} {v : Option Value × zSt} {X : Nat → zLv → List Value → zSt → Prop} (hX : zSem cX13_wrongForm 2 none h0 qs ks kc (fun r u => (r, u) = v) X) (hc : ∀ j av s w, call j av s = some w → kc j av s (fun r u => (r, u) = w)) {x1 : Int32} {σ : zSt} (h : b_wrongForm n call h0 qs ks x1 σ = some v) : X 0 [some (.ref h0), some (.int x1)] [] σ := by
  rw [b_wrongForm] at h
  refine zs_aload_n hX dX13_wrongForm_0 rfl rfl ?_
  refine zg_least hX dX13_wrongForm_1 ?_
  refine zs_if_lt (tgt := 15) hX dX13_wrongForm_4 (by decide) (fun c1 => ?_) (fun c1 => ?_)
  · rw [if_pos c1] at h
    exact pj_wrongForm_15 hX hc h
  · rw [if_neg c1] at h
    refine zs_iload_n hX dX13_wrongForm_7 rfl rfl ?_
    refine zs_aload_n hX dX13_wrongForm_8 rfl rfl ?_
    refine zg_least hX dX13_wrongForm_9 ?_
    refine zs_icmp_ge (tgt := 20) hX dX13_wrongForm_12 (by decide) (fun c2 => ?_) (fun c2 => ?_)
    · rw [if_pos c2] at h
      exact zs_vret hX dX13_wrongForm_20 rfl (Option.some.inj h)
    · rw [if_neg c2] at h
      exact pj_wrongForm_15 hX hc h
def j_count_22 (n : Nat) (call : zCl) (h0 : Nat) (qs : List Nat) (ks : Nat → Nat) (x1 : Int32) (σ : zSt) : zRs :=
  zgd (zin x1 2100) (
  zci (call 59 [.ref h0, .int (σ.2.2.1 9 (x1).toNatClampNeg)] σ) fun r4 s2 =>
  zgd (zin x1 2100) (
  zci (call 59 [.ref h0, .int (s2.2.2.1 10 (x1).toNatClampNeg)] s2) fun r8 s6 =>
  some (some (.int (r4 + r8)), s6)))
def b_count (n : Nat) (call : zCl) (h0 : Nat) (qs : List Nat) (ks : Nat → Nat) (x1 : Int32) (σ : zSt) : zRs :=
  zgd (zin x1 2100) (
  if (σ.2.2.1 6 (x1).toNatClampNeg) = 20 then
    j_count_22 n call h0 qs ks x1 σ
  else
    zgd (zin x1 2100) (
    if (σ.2.2.1 6 (x1).toNatClampNeg) = 21 then
      j_count_22 n call h0 qs ks x1 σ
    else
      zgd (zin x1 2100) (
      if (σ.2.2.1 6 (x1).toNatClampNeg) = 22 then
        zgd (zin x1 2100) (
        zci (call 59 [.ref h0, .int (σ.2.2.1 9 (x1).toNatClampNeg)] σ) fun r10 s8 =>
        some (some (.int r10), s8))
      else
        some (some (.int 1), σ))))
set_option maxHeartbeats 4000000 in
theorem pj_count_22 {h0 : Nat} {qs : List Nat} {ks : Nat → Nat} {n : Nat} {call : zCl} {kc : Nat → List Value → zSt → (Option Value → zSt → Prop) → Prop} {v : Option Value × zSt} {X : Nat → zLv → List Value → zSt → Prop} (hX : zSem cX13_count 2 (some .int) h0 qs ks kc (fun r u => (r, u) = v) X) (hc : ∀ j av s w, call j av s = some w → kc j av s (fun r u => (r, u) = w)) {x1 : Int32} {σ : zSt} (h : j_count_22 n call h0 qs ks x1 σ = some v) : X 22 [some (.ref h0), some (.int x1)] [] σ := by
  rw [j_count_22] at h
  refine zs_aload_n hX dX13_count_22 rfl rfl ?_
  refine zs_aload_n hX dX13_count_23 rfl rfl ?_
  refine zg_x1 hX dX13_count_24 ?_
  refine zs_iload_n hX dX13_count_27 rfl rfl ?_
  obtain ⟨b1, h⟩ := zgd_e h
  refine zl_x1 hX dX13_count_28 (zin_ok b1) ?_
  obtain ⟨r4, s2, e3, h⟩ := zci_e h
  refine zc_count hX dX13_count_29 (Nat.le_of_ble_eq_true rfl) (hc _ _ _ _ e3) (fun r9 u9 h9 => ?_)
  cases h9
  refine zs_aload_n hX dX13_count_32 rfl rfl ?_
  refine zs_aload_n hX dX13_count_33 rfl rfl ?_
  refine zg_x2 hX dX13_count_34 ?_
  refine zs_iload_n hX dX13_count_37 rfl rfl ?_
  obtain ⟨b5, h⟩ := zgd_e h
  refine zl_x2 hX dX13_count_38 (zin_ok b5) ?_
  obtain ⟨r8, s6, e7, h⟩ := zci_e h
  refine zc_count hX dX13_count_39 (Nat.le_of_ble_eq_true rfl) (hc _ _ _ _ e7) (fun r9 u9 h9 => ?_)
  cases h9
  refine zs_iadd hX dX13_count_42 ?_
  refine zs_goto (tgt := 71) hX dX13_count_43 (by decide) ?_
  exact zs_iret hX dX13_count_71 rfl (Option.some.inj h)
set_option maxHeartbeats 4000000 in
theorem pb_count {h0 : Nat} {qs : List Nat} {ks : Nat → Nat} {n : Nat} {call : zCl} {kc : Nat → List Value → zSt → (Option Value → zSt → Prop) → Prop} {v : Option Value × zSt} {X : Nat → zLv → List Value → zSt → Prop} (hX : zSem cX13_count 2 (some .int) h0 qs ks kc (fun r u => (r, u) = v) X) (hc : ∀ j av s w, call j av s = some w → kc j av s (fun r u => (r, u) = w)) {x1 : Int32} {σ : zSt} (h : b_count n call h0 qs ks x1 σ = some v) : X 0 [some (.ref h0), some (.int x1)] [] σ := by
  rw [b_count] at h
  refine zs_aload_n hX dX13_count_0 rfl rfl ?_
  refine zg_kind hX dX13_count_1 ?_
  refine zs_iload_n hX dX13_count_4 rfl rfl ?_
  obtain ⟨b1, h⟩ := zgd_e h
  refine zl_kind hX dX13_count_5 (zin_ok b1) ?_
  refine zs_bipush (v := 20) hX dX13_count_6 (by decide) ?_
  refine zs_icmp_eq (tgt := 22) hX dX13_count_8 (by decide) (fun c2 => ?_) (fun c2 => ?_)
  · rw [if_pos c2] at h
    exact pj_count_22 hX hc h
  · rw [if_neg c2] at h
    refine zs_aload_n hX dX13_count_11 rfl rfl ?_
    refine zg_kind hX dX13_count_12 ?_
    refine zs_iload_n hX dX13_count_15 rfl rfl ?_
    obtain ⟨b3, h⟩ := zgd_e h
    refine zl_kind hX dX13_count_16 (zin_ok b3) ?_
    refine zs_bipush (v := 21) hX dX13_count_17 (by decide) ?_
    refine zs_icmp_ne (tgt := 46) hX dX13_count_19 (by decide) (fun c4 => ?_) (fun c4 => ?_)
    · rw [if_neg c4] at h
      refine zs_aload_n hX dX13_count_46 rfl rfl ?_
      refine zg_kind hX dX13_count_47 ?_
      refine zs_iload_n hX dX13_count_50 rfl rfl ?_
      obtain ⟨b5, h⟩ := zgd_e h
      refine zl_kind hX dX13_count_51 (zin_ok b5) ?_
      refine zs_bipush (v := 22) hX dX13_count_52 (by decide) ?_
      refine zs_icmp_ne (tgt := 70) hX dX13_count_54 (by decide) (fun c6 => ?_) (fun c6 => ?_)
      · rw [if_neg c6] at h
        refine zs_iconst (v := 1) hX dX13_count_70 (by decide) ?_
        exact zs_iret hX dX13_count_71 rfl (Option.some.inj h)
      · rw [if_pos c6] at h
        refine zs_aload_n hX dX13_count_57 rfl rfl ?_
        refine zs_aload_n hX dX13_count_58 rfl rfl ?_
        refine zg_x1 hX dX13_count_59 ?_
        refine zs_iload_n hX dX13_count_62 rfl rfl ?_
        obtain ⟨b7, h⟩ := zgd_e h
        refine zl_x1 hX dX13_count_63 (zin_ok b7) ?_
        obtain ⟨r10, s8, e9, h⟩ := zci_e h
        refine zc_count hX dX13_count_64 (Nat.le_of_ble_eq_true rfl) (hc _ _ _ _ e9) (fun r9 u9 h9 => ?_)
        cases h9
        refine zs_goto (tgt := 71) hX dX13_count_67 (by decide) ?_
        exact zs_iret hX dX13_count_71 rfl (Option.some.inj h)
    · rw [if_pos c4] at h
      exact pj_count_22 hX hc h
