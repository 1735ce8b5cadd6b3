/-! the methods of the reference as plain functions (120 to 140) -/
def b_element (n : Nat) (call : zCl) (h0 : Nat) (qs : List Nat) (ks : Nat → Nat) (x1 : Int32) (x2 : Int32) (x3 : Int32) (σ : zSt) : zRs :=
  if (σ.1 66) = 0 then
    some (some (.int 0), σ)
  else
    if x1 < 0 then
      some (some (.int 0), σ)
    else
      if (σ.1 42) ≤ x1 then
        some (some (.int 0), σ)
      else
        zgd (zin x1 6) (
        if (σ.2.2.1 28 (x1).toNatClampNeg) = 2 then
          if x2 < 0 then
            some (some (.int 0), σ)
          else
            zgd (zin x1 6) (
            if (lg_cmp ((x2).toInt64) (σ.2.2.2 103 (x1).toNatClampNeg)) < 0 then
              zgd (zin ((1000 * x1) + x2) 6000) (zlet (zG σ 104 (vp_updL (σ.2.2.2 104) (((1000 * x1) + x2)).toNatClampNeg ((x3).toInt64))) fun s10 =>
              some (some (.int 1), s10))
            else
              some (some (.int 0), σ))
        else
          some (some (.int 0), σ))
set_option maxHeartbeats 4000000 in
theorem pb_element {h0 : Nat} {qs : List Nat} {ks : Nat → Nat} {n : Nat} {call : zCl} {kc : Nat → List Value → zSt → (Option Value → zSt → Prop) → Prop} {v : Option Value × zSt} {X : Nat → zLv → List Value → zSt → Prop} (hX : zSem cX13_element 4 (some .boolean) h0 qs ks kc (fun r u => (r, u) = v) X) (hc : ∀ j av s w, call j av s = some w → kc j av s (fun r u => (r, u) = w)) {x1 : Int32} {x2 : Int32} {x3 : Int32} {σ : zSt} (h : b_element n call h0 qs ks x1 x2 x3 σ = some v) : X 0 [some (.ref h0), some (.int x1), some (.int x2), some (.int x3)] [] σ := by
  rw [b_element] at h
  refine zs_aload_n hX dX13_element_0 rfl rfl ?_
  refine zg_hasOne hX dX13_element_1 ?_
  refine zs_if_eq (tgt := 45) hX dX13_element_4 (by decide) (fun c1 => ?_) (fun c1 => ?_)
  · rw [if_pos c1] at h
    refine zs_iconst (v := 0) hX dX13_element_45 (by decide) ?_
    exact zs_zret hX dX13_element_46 rfl (by decide) (Option.some.inj h)
  · rw [if_neg c1] at h
    refine zs_iload_n hX dX13_element_7 rfl rfl ?_
    refine zs_if_lt (tgt := 45) hX dX13_element_8 (by decide) (fun c2 => ?_) (fun c2 => ?_)
    · rw [if_pos c2] at h
      refine zs_iconst (v := 0) hX dX13_element_45 (by decide) ?_
      exact zs_zret hX dX13_element_46 rfl (by decide) (Option.some.inj h)
    · rw [if_neg c2] at h
      refine zs_iload_n hX dX13_element_11 rfl rfl ?_
      refine zs_aload_n hX dX13_element_12 rfl rfl ?_
      refine zg_inputs hX dX13_element_13 ?_
      refine zs_icmp_ge (tgt := 45) hX dX13_element_16 (by decide) (fun c3 => ?_) (fun c3 => ?_)
      · rw [if_pos c3] at h
        refine zs_iconst (v := 0) hX dX13_element_45 (by decide) ?_
        exact zs_zret hX dX13_element_46 rfl (by decide) (Option.some.inj h)
      · rw [if_neg c3] at h
        refine zs_aload_n hX dX13_element_19 rfl rfl ?_
        refine zg_inSort hX dX13_element_20 ?_
        refine zs_iload_n hX dX13_element_23 rfl rfl ?_
        obtain ⟨b4, h⟩ := zgd_e h
        refine zl_inSort hX dX13_element_24 (zin_ok b4) ?_
        refine zs_iconst (v := 2) hX dX13_element_25 (by decide) ?_
        refine zs_icmp_ne (tgt := 45) hX dX13_element_26 (by decide) (fun c5 => ?_) (fun c5 => ?_)
        · rw [if_neg c5] at h
          refine zs_iconst (v := 0) hX dX13_element_45 (by decide) ?_
          exact zs_zret hX dX13_element_46 rfl (by decide) (Option.some.inj h)
        · rw [if_pos c5] at h
          refine zs_iload_n hX dX13_element_29 rfl rfl ?_
          refine zs_if_lt (tgt := 45) hX dX13_element_30 (by decide) (fun c6 => ?_) (fun c6 => ?_)
          · rw [if_pos c6] at h
            refine zs_iconst (v := 0) hX dX13_element_45 (by decide) ?_
            exact zs_zret hX dX13_element_46 rfl (by decide) (Option.some.inj h)
          · rw [if_neg c6] at h
            refine zs_iload_n hX dX13_element_33 rfl rfl ?_
            refine zs_i2l hX dX13_element_34 ?_
            refine zs_aload_n hX dX13_element_35 rfl rfl ?_
            refine zg_given hX dX13_element_36 ?_
            refine zs_iload_n hX dX13_element_39 rfl rfl ?_
            obtain ⟨b7, h⟩ := zgd_e h
            refine zl_given hX dX13_element_40 (zin_ok b7) ?_
            refine zs_lcmp hX dX13_element_41 ?_
            refine zs_if_lt (tgt := 47) hX dX13_element_42 (by decide) (fun c8 => ?_) (fun c8 => ?_)
            · rw [if_pos c8] at h
              refine zs_aload_n hX dX13_element_47 rfl rfl ?_
              refine zg_elements hX dX13_element_48 ?_
              refine zs_sipush (v := 1000) hX dX13_element_51 (by decide) ?_
              refine zs_iload_n hX dX13_element_54 rfl rfl ?_
              refine zs_imul hX dX13_element_55 ?_
              refine zs_iload_n hX dX13_element_56 rfl rfl ?_
              refine zs_iadd hX dX13_element_57 ?_
              refine zs_iload_n hX dX13_element_58 rfl rfl ?_
              refine zs_i2l hX dX13_element_59 ?_
              obtain ⟨b9, h⟩ := zgd_e h
              obtain ⟨s10, e11, h⟩ := zlet_e h
              refine zt_elements hX dX13_element_60 (zin_ok b9) ?_
              rw [← e11]
              refine zs_iconst (v := 1) hX dX13_element_61 (by decide) ?_
              exact zs_zret hX dX13_element_62 rfl (by decide) (Option.some.inj h)
            · rw [if_neg c8] at h
              refine zs_iconst (v := 0) hX dX13_element_45 (by decide) ?_
              exact zs_zret hX dX13_element_46 rfl (by decide) (Option.some.inj h)
def b_slot (n : Nat) (call : zCl) (h0 : Nat) (qs : List Nat) (ks : Nat → Nat) (x1 : Int32) (x2 : Int32) (x3 : Int32) (x4 : Int64) (σ : zSt) : zRs :=
  zgd (zin (σ.1 171) 260000) (zlet (zA σ 105 (upd (σ.2.2.1 105) ((σ.1 171)).toNatClampNeg x2)) fun s2 =>
  zgd (zin (s2.1 171) 260000) (zlet (zA s2 106 (upd (s2.2.2.1 106) ((s2.1 171)).toNatClampNeg x3)) fun s5 =>
  zgd (zin (s5.1 171) 260000) (zlet (zG s5 108 (vp_updL (s5.2.2.2 108) ((s5.1 171)).toNatClampNeg x4)) fun s8 =>
  zgd (zin (s8.1 171) 260000) (zlet (zA s8 107 (upd (s8.2.2.1 107) ((s8.1 171)).toNatClampNeg x1)) fun s11 =>
  zlet (zI s11 171 ((s11.1 171) + 1)) fun s13 =>
  some (some (.int ((s13.1 171) - 1)), s13)))))
set_option maxHeartbeats 4000000 in
theorem pb_slot {h0 : Nat} {qs : List Nat} {ks : Nat → Nat} {n : Nat} {call : zCl} {kc : Nat → List Value → zSt → (Option Value → zSt → Prop) → Prop} {v : Option Value × zSt} {X : Nat → zLv → List Value → zSt → Prop} (hX : zSem cX13_slot 6 (some .int) h0 qs ks kc (fun r u => (r, u) = v) X) (hc : ∀ j av s w, call j av s = some w → kc j av s (fun r u => (r, u) = w)) {x1 : Int32} {x2 : Int32} {x3 : Int32} {x4 : Int64} {σ : zSt} (h : b_slot n call h0 qs ks x1 x2 x3 x4 σ = some v) : X 0 [some (.ref h0), some (.int x1), some (.int x2), some (.int x3), some (.long x4), none] [] σ := by
  rw [b_slot] at h
  refine zs_aload_n hX dX13_slot_0 rfl rfl ?_
  refine zg_slotName hX dX13_slot_1 ?_
  refine zs_aload_n hX dX13_slot_4 rfl rfl ?_
  refine zg_slots hX dX13_slot_5 ?_
  refine zs_iload_n hX dX13_slot_8 rfl rfl ?_
  obtain ⟨b1, h⟩ := zgd_e h
  obtain ⟨s2, e3, h⟩ := zlet_e h
  refine zt_slotName hX dX13_slot_9 (zin_ok b1) ?_
  rw [← e3]
  refine zs_aload_n hX dX13_slot_10 rfl rfl ?_
  refine zg_slotKind hX dX13_slot_11 ?_
  refine zs_aload_n hX dX13_slot_14 rfl rfl ?_
  refine zg_slots hX dX13_slot_15 ?_
  refine zs_iload_n hX dX13_slot_18 rfl rfl ?_
  obtain ⟨b4, h⟩ := zgd_e h
  obtain ⟨s5, e6, h⟩ := zlet_e h
  refine zt_slotKind hX dX13_slot_19 (zin_ok b4) ?_
  rw [← e6]
  refine zs_aload_n hX dX13_slot_20 rfl rfl ?_
  refine zg_slotValue hX dX13_slot_21 ?_
  refine zs_aload_n hX dX13_slot_24 rfl rfl ?_
  refine zg_slots hX dX13_slot_25 ?_
  refine zs_lload hX dX13_slot_28 rfl ?_
  obtain ⟨b7, h⟩ := zgd_e h
  obtain ⟨s8, e9, h⟩ := zlet_e h
  refine zt_slotValue hX dX13_slot_30 (zin_ok b7) ?_
  rw [← e9]
  refine zs_aload_n hX dX13_slot_31 rfl rfl ?_
  refine zg_slotBefore hX dX13_slot_32 ?_
  refine zs_aload_n hX dX13_slot_35 rfl rfl ?_
  refine zg_slots hX dX13_slot_36 ?_
  refine zs_iload_n hX dX13_slot_39 rfl rfl ?_
  obtain ⟨b10, h⟩ := zgd_e h
  obtain ⟨s11, e12, h⟩ := zlet_e h
  refine zt_slotBefore hX dX13_slot_40 (zin_ok b10) ?_
  rw [← e12]
  refine zs_aload_n hX dX13_slot_41 rfl rfl ?_
  refine zs_dup hX dX13_slot_42 rfl ?_
  refine zg_slots hX dX13_slot_43 ?_
  refine zs_iconst (v := 1) hX dX13_slot_46 (by decide) ?_
  refine zs_iadd hX dX13_slot_47 ?_
  obtain ⟨s13, e14, h⟩ := zlet_e h
  refine zp_slots hX dX13_slot_48 ?_
  rw [← e14]
  refine zs_aload_n hX dX13_slot_51 rfl rfl ?_
  refine zg_slots hX dX13_slot_52 ?_
  refine zs_iconst (v := 1) hX dX13_slot_55 (by decide) ?_
  refine zs_isub hX dX13_slot_56 ?_
  exact zs_iret hX dX13_slot_57 rfl (Option.some.inj h)
def l_find_2 (n : Nat) (call : zCl) (h0 : Nat) (qs : List Nat) (ks : Nat → Nat) : Nat → Int32 → Int32 → zSt → zRs
  | 0, _, _, _ => none
  | f + 1, x2, x3, σ =>
    zgd (zin x3 260000) (
    if (σ.2.2.1 105 (x3).toNatClampNeg) = x2 then
      some (some (.int x3), σ)
    else
      zgd (zin x3 260000) (
      l_find_2 n call h0 qs ks f x2 (σ.2.2.1 107 (x3).toNatClampNeg) σ))
def b_find (n : Nat) (call : zCl) (h0 : Nat) (qs : List Nat) (ks : Nat → Nat) (x1 : Int32) (x2 : Int32) (σ : zSt) : zRs :=
  l_find_2 n call h0 qs ks n x2 x1 σ
set_option maxHeartbeats 4000000 in
theorem pl_find_2 {h0 : Nat} {qs : List Nat} {ks : Nat → Nat} {n : Nat} {call : zCl} {kc : Nat → List Value → zSt → (Option Value → zSt → Prop) → Prop} {v : Option Value × zSt} {X : Nat → zLv → List Value → zSt → Prop} (hX : zSem cX13_find 4 (some .int) h0 qs ks kc (fun r u => (r, u) = v) X) (hc : ∀ j av s w, call j av s = some w → kc j av s (fun r u => (r, u) = w)) : ∀ (f : Nat) (x2 : Int32) (x3 : Int32) (σ : zSt), l_find_2 n call h0 qs ks f x2 x3 σ = some v → X 2 [some (.ref h0), none, some (.int x2), some (.int x3)] [] σ := by
  intro f
  induction f with
  | zero => intro x2 x3 σ h; cases h
  | succ f hk2 =>
    intro x2 x3 σ h
    rw [l_find_2] at h
    refine zs_aload_n hX dX13_find_2 rfl rfl ?_
    refine zg_slotName hX dX13_find_3 ?_
    refine zs_iload_n hX dX13_find_6 rfl rfl ?_
    obtain ⟨b1, h⟩ := zgd_e h
    refine zl_slotName hX dX13_find_7 (zin_ok b1) ?_
    refine zs_iload_n hX dX13_find_8 rfl rfl ?_
    refine zs_icmp_eq (tgt := 22) hX dX13_find_9 (by decide) (fun c2 => ?_) (fun c2 => ?_)
    · rw [if_pos c2] at h
      refine zs_iload_n hX dX13_find_22 rfl rfl ?_
      exact zs_iret hX dX13_find_23 rfl (Option.some.inj h)
    · rw [if_neg c2] at h
      refine zs_aload_n hX dX13_find_12 rfl rfl ?_
      refine zg_slotBefore hX dX13_find_13 ?_
      refine zs_iload_n hX dX13_find_16 rfl rfl ?_
      obtain ⟨b3, h⟩ := zgd_e h
      refine zl_slotBefore hX dX13_find_17 (zin_ok b3) ?_
      refine zs_istore_n hX dX13_find_18 rfl (by decide) rfl ?_
      dsimp only [List.set]
      refine zs_goto (tgt := 2) hX dX13_find_19 (by decide) ?_
      exact hk2 _ _ _ h
set_option maxHeartbeats 4000000 in
theorem pb_find {h0 : Nat} {qs : List Nat} {ks : Nat → Nat} {n : Nat} {call : zCl} {kc : Nat → List Value → zSt → (Option Value → zSt → Prop) → Prop} {v : Option Value × zSt} {X : Nat → zLv → List Value → zSt → Prop} (hX : zSem cX13_find 4 (some .int) h0 qs ks kc (fun r u => (r, u) = v) X) (hc : ∀ j av s w, call j av s = some w → kc j av s (fun r u => (r, u) = w)) {x1 : Int32} {x2 : Int32} {σ : zSt} (h : b_find n call h0 qs ks x1 x2 σ = some v) : X 0 [some (.ref h0), some (.int x1), some (.int x2), none] [] σ := by
  rw [b_find] at h
  refine zs_iload_n hX dX13_find_0 rfl rfl ?_
  refine zs_istore_n hX dX13_find_1 rfl (by decide) rfl ?_
  dsimp only [List.set]
  refine zs_weak hX (lw := [some (.ref h0), none, some (.int x2), some (.int x1)]) ⟨rfl, rfl, rfl, trivial⟩ ?_
  exact pl_find_2 hX hc n _ _ _ h
def j_bounded_16 (n : Nat) (call : zCl) (h0 : Nat) (qs : List Nat) (ks : Nat → Nat) (x1 : Int64) (σ : zSt) : zRs :=
  if (σ.1 191) = 0 then
    zlet (zI σ 191 2) fun s2 =>
    some (some (.long x1), s2)
  else
    some (some (.long x1), σ)
def b_bounded (n : Nat) (call : zCl) (h0 : Nat) (qs : List Nat) (ks : Nat → Nat) (x1 : Int64) (σ : zSt) : zRs :=
  if 0 < (lg_cmp x1 1099511627776) then
    j_bounded_16 n call h0 qs ks x1 σ
  else
    if 0 ≤ (lg_cmp x1 (-1099511627776)) then
      some (some (.long x1), σ)
    else
      j_bounded_16 n call h0 qs ks x1 σ
set_option maxHeartbeats 4000000 in
theorem pj_bounded_16 {h0 : Nat} {qs : List Nat} {ks : Nat → Nat} {n : Nat} {call : zCl} {kc : Nat → List Value → zSt → (Option Value → zSt → Prop) → Prop} {v : Option Value × zSt} {X : Nat → zLv → List Value → zSt → Prop} (hX : zSem cX13_bounded 3 (some .long) h0 qs ks kc (fun r u => (r, u) = v) X) (hc : ∀ j av s w, call j av s = some w → kc j av s (fun r u => (r, u) = w)) {x1 : Int64} {σ : zSt} (h : j_bounded_16 n call h0 qs ks x1 σ = some v) : X 16 [some (.ref h0), some (.long x1), none] [] σ := by
  rw [j_bounded_16] at h
  refine zs_aload_n hX dX13_bounded_16 rfl rfl ?_
  refine zg_ends hX dX13_bounded_17 ?_
  refine zs_if_ne (tgt := 28) hX dX13_bounded_20 (by decide) (fun c1 => ?_) (fun c1 => ?_)
  · rw [if_neg c1] at h
    refine zs_lload_n hX dX13_bounded_28 rfl rfl ?_
    exact zs_lret hX dX13_bounded_29 rfl (Option.some.inj h)
  · rw [if_pos c1] at h
    refine zs_aload_n hX dX13_bounded_23 rfl rfl ?_
    refine zs_iconst (v := 2) hX dX13_bounded_24 (by decide) ?_
    obtain ⟨s2, e3, h⟩ := zlet_e h
    refine zp_ends hX dX13_bounded_25 ?_
    rw [← e3]
    refine zs_lload_n hX dX13_bounded_28 rfl rfl ?_
    exact zs_lret hX dX13_bounded_29 rfl (Option.some.inj h)
set_option maxHeartbeats 4000000 in
theorem pb_bounded {h0 : Nat} {qs : List Nat} {ks : Nat → Nat} {n : Nat} {call : zCl} {kc : Nat → List Value → zSt → (Option Value → zSt → Prop) → Prop} {v : Option Value × zSt} {X : Nat → zLv → List Value → zSt → Prop} (hX : zSem cX13_bounded 3 (some .long) h0 qs ks kc (fun r u => (r, u) = v) X) (hc : ∀ j av s w, call j av s = some w → kc j av s (fun r u => (r, u) = w)) {x1 : Int64} {σ : zSt} (h : b_bounded n call h0 qs ks x1 σ = some v) : X 0 [some (.ref h0), some (.long x1), none] [] σ := by
  rw [b_bounded] at h
  refine zs_lload_n hX dX13_bounded_0 rfl rfl ?_
  refine zs_ldc2 (v := 1099511627776) hX dX13_bounded_1 (by decide) ?_
  refine zs_lcmp hX dX13_bounded_4 ?_
  refine zs_if_gt (tgt := 16) hX dX13_bounded_5 (by decide) (fun c1 => ?_) (fun c1 => ?_)
  · rw [if_pos c1] at h
    exact pj_bounded_16 hX hc h
  · rw [if_neg c1] at h
    refine zs_lload_n hX dX13_bounded_8 rfl rfl ?_
    refine zs_ldc2 (v := (-1099511627776)) hX dX13_bounded_9 (by decide) ?_
    refine zs_lcmp hX dX13_bounded_12 ?_
    refine zs_if_ge (tgt := 28) hX dX13_bounded_13 (by decide) (fun c2 => ?_) (fun c2 => ?_)
    · rw [if_pos c2] at h
      refine zs_lload_n hX dX13_bounded_28 rfl rfl ?_
      exact zs_lret hX dX13_bounded_29 rfl (Option.some.inj h)
    · rw [if_neg c2] at h
      exact pj_bounded_16 hX hc h
def b_sizeOf (n : Nat) (call : zCl) (h0 : Nat) (qs : List Nat) (ks : Nat → Nat) (x1 : Int32) (σ : zSt) : zRs :=
  if 0 ≤ x1 then
    zgd (zin x1 20001) (
    some (some (.int (σ.2.2.1 121 (x1).toNatClampNeg)), σ))
  else
    some (some (.int 0), σ)
set_option maxHeartbeats 4000000 in
theorem pb_sizeOf {h0 : Nat} {qs : List Nat} {ks : Nat → Nat} {n : Nat} {call : zCl} {kc : Nat → List Value → zSt → (Option Value → zSt → Prop) → Prop} {v : Option Value × zSt} {X : Nat → zLv → List Value → zSt → Prop} (hX : zSem cX13_sizeOf 2 (some .int) h0 qs ks kc (fun r u => (r, u) = v) X) (hc : ∀ j av s w, call j av s = some w → kc j av s (fun r u => (r, u) = w)) {x1 : Int32} {σ : zSt} (h : b_sizeOf n call h0 qs ks x1 σ = some v) : X 0 [some (.ref h0), some (.int x1)] [] σ := by
  rw [b_sizeOf] at h
  refine zs_iload_n hX dX13_sizeOf_0 rfl rfl ?_
  refine zs_if_ge (tgt := 8) hX dX13_sizeOf_1 (by decide) (fun c1 => ?_) (fun c1 => ?_)
  · rw [if_pos c1] at h
    refine zs_aload_n hX dX13_sizeOf_8 rfl rfl ?_
    refine zg_cellMany hX dX13_sizeOf_9 ?_
    refine zs_iload_n hX dX13_sizeOf_12 rfl rfl ?_
    obtain ⟨b2, h⟩ := zgd_e h
    refine zl_cellMany hX dX13_sizeOf_13 (zin_ok b2) ?_
    exact zs_iret hX dX13_sizeOf_14 rfl (Option.some.inj h)
  · rw [if_neg c1] at h
    refine zs_iconst (v := 0) hX dX13_sizeOf_4 (by decide) ?_
    refine zs_goto (tgt := 14) hX dX13_sizeOf_5 (by decide) ?_
    exact zs_iret hX dX13_sizeOf_14 rfl (Option.some.inj h)
def j_valueOf_131 (n : Nat) (call : zCl) (h0 : Nat) (qs : List Nat) (ks : Nat → Nat) (k10 : Int32 → Int32 → Int64 → Int32 → zSt → zRs) (x1 : Int32) (x2 : Int32) (x3 : Int64) (x5 : Int32) (x6 : Int64) (σ : zSt) : zRs :=
  zgd (zin x5 2100) (
  k10 x1 x2 (x3 + ((((σ.2.2.1 17 (x5).toNatClampNeg)).toInt64) * x6)) (x5 + 1) σ)
def j_valueOf_129 (n : Nat) (call : zCl) (h0 : Nat) (qs : List Nat) (ks : Nat → Nat) (k10 : Int32 → Int32 → Int64 → Int32 → zSt → zRs) (x1 : Int32) (x2 : Int32) (x3 : Int64) (x5 : Int32) (t0 : Int64) (σ : zSt) : zRs :=
  j_valueOf_131 n call h0 qs ks k10 x1 x2 x3 x5 t0 σ
def l_valueOf_10 (n : Nat) (call : zCl) (h0 : Nat) (qs : List Nat) (ks : Nat → Nat) : Nat → Int32 → Int32 → Int64 → Int32 → zSt → zRs
  | 0, _, _, _, _, _ => none
  | f + 1, x1, x2, x3, x5, σ =>
    zgd (zin x1 2100) (
    if (σ.2.2.1 14 (x1).toNatClampNeg) ≤ x5 then
      zcl' (call 123 [.ref h0, .long x3] σ) fun r5 s3 =>
      some (some (.long r5), s3)
    else
      zgd (zin x5 2100) (
      if (σ.2.2.1 16 (x5).toNatClampNeg) = 0 then
        zgd (zin x5 2100) (
        zci (call 16 [.ref h0, .int (σ.2.2.1 18 (x5).toNatClampNeg)] σ) fun r27 s25 =>
        j_valueOf_131 n call h0 qs ks (l_valueOf_10 n call h0 qs ks f) x1 x2 x3 x5 ((r27).toInt64) s25)
      else
        zgd (zin x5 2100) (
        zgd (zin (σ.2.2.1 18 (x5).toNatClampNeg) 2010) (
        zci (call 122 [.ref h0, .int x2, .int (σ.2.2.1 32 ((σ.2.2.1 18 (x5).toNatClampNeg)).toNatClampNeg)] σ) fun r12 s10 =>
        zgd (zin x5 2100) (
        if (s10.2.2.1 16 (x5).toNatClampNeg) = 1 then
          zgd (zin r12 260000) (
          j_valueOf_129 n call h0 qs ks (l_valueOf_10 n call h0 qs ks f) x1 x2 x3 x5 (s10.2.2.2 108 (r12).toNatClampNeg) s10)
        else
          zgd (zin x5 2100) (
          if (s10.2.2.1 16 (x5).toNatClampNeg) = 2 then
            zgd (zin r12 260000) (
            zgd (zin (((s10.2.2.2 108 (r12).toNatClampNeg)).toInt32) 21000) (
            j_valueOf_129 n call h0 qs ks (l_valueOf_10 n call h0 qs ks f) x1 x2 x3 x5 (((s10.2.2.1 114 (((s10.2.2.2 108 (r12).toNatClampNeg)).toInt32).toNatClampNeg)).toInt64) s10))
          else
            zgd (zin r12 260000) (
            zci (call 124 [.ref h0, .int (((s10.2.2.2 108 (r12).toNatClampNeg)).toInt32)] s10) fun r20 s18 =>
            j_valueOf_129 n call h0 qs ks (l_valueOf_10 n call h0 qs ks f) x1 x2 x3 x5 ((r20).toInt64) s18)))))))
def b_valueOf (n : Nat) (call : zCl) (h0 : Nat) (qs : List Nat) (ks : Nat → Nat) (x1 : Int32) (x2 : Int32) (σ : zSt) : zRs :=
  zgd (zin x1 2100) (
  l_valueOf_10 n call h0 qs ks n x1 x2 0 (σ.2.2.1 13 (x1).toNatClampNeg) σ)
set_option maxHeartbeats 4000000 in
theorem pj_valueOf_131 {h0 : Nat} {qs : List Nat} {ks : Nat → Nat} {n : Nat} {call : zCl} {kc : Nat → List Value → zSt → (Option Value → zSt → Prop) → Prop} {v : Option Value × zSt} {X : Nat → zLv → List Value → zSt → Prop} (hX : zSem cX13_valueOf 9 (some .long) h0 qs ks kc (fun r u => (r, u) = v) X) (hc : ∀ j av s w, call j av s = some w → kc j av s (fun r u => (r, u) = w)) {k10 : Int32 → Int32 → Int64 → Int32 → zSt → zRs} (hk10 : ∀ (x1 : Int32) (x2 : Int32) (x3 : Int64) (x5 : Int32) (s : zSt), k10 x1 x2 x3 x5 s = some v → X 10 [some (.ref h0), some (.int x1), some (.int x2), some (.long x3), none, some (.int x5), none, none, none] [] s) {x1 : Int32} {x2 : Int32} {x3 : Int64} {x5 : Int32} {x6 : Int64} {σ : zSt} (h : j_valueOf_131 n call h0 qs ks k10 x1 x2 x3 x5 x6 σ = some v) : X 131 [some (.ref h0), some (.int x1), some (.int x2), some (.long x3), none, some (.int x5), some (.long x6), none, none] [] σ := by
  rw [j_valueOf_131] at h
  refine zs_lload_n hX dX13_valueOf_131 rfl rfl ?_
  refine zs_aload_n hX dX13_valueOf_132 rfl rfl ?_
  refine zg_pSign hX dX13_valueOf_133 ?_
  refine zs_iload hX dX13_valueOf_136 rfl ?_
  obtain ⟨b1, h⟩ := zgd_e h
  refine zl_pSign hX dX13_valueOf_138 (zin_ok b1) ?_
  refine zs_i2l hX dX13_valueOf_139 ?_
  refine zs_lload hX dX13_valueOf_140 rfl ?_
  refine zs_lmul hX dX13_valueOf_142 ?_
  refine zs_ladd hX dX13_valueOf_143 ?_
  refine zs_lstore_n hX dX13_valueOf_144 rfl (by decide) rfl ?_
  dsimp only [List.set]
  refine zs_iinc (v := x5 + 1) hX dX13_valueOf_145 rfl rfl (by decide) rfl ?_
  dsimp only [List.set]
  refine zs_goto (tgt := 10) hX dX13_valueOf_148 (by decide) ?_
  refine zs_weak hX (lw := [some (.ref h0), some (.int x1), some (.int x2), some (.long (x3 + ((((σ.2.2.1 17 (x5).toNatClampNeg)).toInt64) * x6))), none, some (.int (x5 + 1)), none, none, none]) ⟨rfl, rfl, rfl, rfl, rfl, trivial⟩ ?_
  exact hk10 _ _ _ _ _ h
set_option maxHeartbeats 4000000 in
theorem pj_valueOf_129 {h0 : Nat} {qs : List Nat} {ks : Nat → Nat} {n : Nat} {call : zCl} {kc : Nat → List Value → zSt → (Option Value → zSt → Prop) → Prop} {v : Option Value × zSt} {X : Nat → zLv → List Value → zSt → Prop} (hX : zSem cX13_valueOf 9 (some .long) h0 qs ks kc (fun r u => (r, u) = v) X) (hc : ∀ j av s w, call j av s = some w → kc j av s (fun r u => (r, u) = w)) {k10 : Int32 → Int32 → Int64 → Int32 → zSt → zRs} (hk10 : ∀ (x1 : Int32) (x2 : Int32) (x3 : Int64) (x5 : Int32) (s : zSt), k10 x1 x2 x3 x5 s = some v → X 10 [some (.ref h0), some (.int x1), some (.int x2), some (.long x3), none, some (.int x5), none, none, none] [] s) {x1 : Int32} {x2 : Int32} {x3 : Int64} {x5 : Int32} {t0 : Int64} {σ : zSt} (h : j_valueOf_129 n call h0 qs ks k10 x1 x2 x3 x5 t0 σ = some v) : X 129 [some (.ref h0), some (.int x1), some (.int x2), some (.long x3), none, some (.int x5), none, none, none] [.long t0] σ := by
  rw [j_valueOf_129] at h
  refine zs_lstore hX dX13_valueOf_129 (by decide) rfl ?_
  dsimp only [List.set]
  exact pj_valueOf_131 hX hc hk10 h
set_option maxHeartbeats 4000000 in
theorem pl_valueOf_10 {h0 : Nat} {qs : List Nat} {ks : Nat → Nat} {n : Nat} {call : zCl} {kc : Nat → List Value → zSt → (Option Value → zSt → Prop) → Prop} {v : Option Value × zSt} {X : Nat → zLv → List Value → zSt → Prop} (hX : zSem cX13_valueOf 9 (some .long) h0 qs ks kc (fun r u => (r, u) = v) X) (hc : ∀ j av s w, call j av s = some w → kc j av s (fun r u => (r, u) = w)) : ∀ (f : Nat) (x1 : Int32) (x2 : Int32) (x3 : Int64) (x5 : Int32) (σ : zSt), l_valueOf_10 n call h0 qs ks f x1 x2 x3 x5 σ = some v → X 10 [some (.ref h0), some (.int x1), some (.int x2), some (.long x3), none, some (.int x5), none, none, none] [] σ := by
  intro f
  induction f with
  | zero => intro x1 x2 x3 x5 σ h; cases h
  | succ f hk10 =>
    intro x1 x2 x3 x5 σ h
    rw [l_valueOf_10] at h
    refine zs_iload hX dX13_valueOf_10 rfl ?_
    refine zs_aload_n hX dX13_valueOf_12 rfl rfl ?_
    refine zg_sTo hX dX13_valueOf_13 ?_
    refine zs_iload_n hX dX13_valueOf_16 rfl rfl ?_
    obtain ⟨b1, h⟩ := zgd_e h
    refine zl_sTo hX dX13_valueOf_17 (zin_ok b1) ?_
    refine zs_icmp_ge (tgt := 151) hX dX13_valueOf_18 (by decide) (fun c2 => ?_) (fun c2 => ?_)
    · rw [if_pos c2] at h
      refine zs_aload_n hX dX13_valueOf_151 rfl rfl ?_
      refine zs_lload_n hX dX13_valueOf_152 rfl rfl ?_
      obtain ⟨r5, s3, e4, h⟩ := zcl'_e h
      refine zc_bounded hX dX13_valueOf_153 (Nat.le_of_ble_eq_true rfl) (hc _ _ _ _ e4) (fun r9 u9 h9 => ?_)
      cases h9
      exact zs_lret hX dX13_valueOf_156 rfl (Option.some.inj h)
    · rw [if_neg c2] at h
      refine zs_aload_n hX dX13_valueOf_21 rfl rfl ?_
      refine zg_pKind hX dX13_valueOf_22 ?_
      refine zs_iload hX dX13_valueOf_25 rfl ?_
      obtain ⟨b6, h⟩ := zgd_e h
      refine zl_pKind hX dX13_valueOf_27 (zin_ok b6) ?_
      refine zs_if_ne (tgt := 48) hX dX13_valueOf_28 (by decide) (fun c7 => ?_) (fun c7 => ?_)
      · rw [if_neg c7] at h
        refine zs_aload_n hX dX13_valueOf_48 rfl rfl ?_
        refine zs_iload_n hX dX13_valueOf_49 rfl rfl ?_
        refine zs_aload_n hX dX13_valueOf_50 rfl rfl ?_
        refine zg_whose hX dX13_valueOf_51 ?_
        refine zs_aload_n hX dX13_valueOf_54 rfl rfl ?_
        refine zg_pWord hX dX13_valueOf_55 ?_
        refine zs_iload hX dX13_valueOf_58 rfl ?_
        obtain ⟨b8, h⟩ := zgd_e h
        refine zl_pWord hX dX13_valueOf_60 (zin_ok b8) ?_
        obtain ⟨b9, h⟩ := zgd_e h
        refine zl_whose hX dX13_valueOf_61 (zin_ok b9) ?_
        obtain ⟨r12, s10, e11, h⟩ := zci_e h
        refine zc_find hX dX13_valueOf_62 (Nat.le_of_ble_eq_true rfl) (hc _ _ _ _ e11) (fun r9 u9 h9 => ?_)
        cases h9
        refine zs_istore hX dX13_valueOf_65 (by decide) rfl ?_
        dsimp only [List.set]
        refine zs_aload_n hX dX13_valueOf_67 rfl rfl ?_
        refine zg_pKind hX dX13_valueOf_68 ?_
        refine zs_iload hX dX13_valueOf_71 rfl ?_
        obtain ⟨b13, h⟩ := zgd_e h
        refine zl_pKind hX dX13_valueOf_73 (zin_ok b13) ?_
        refine zs_iconst (v := 1) hX dX13_valueOf_74 (by decide) ?_
        refine zs_icmp_ne (tgt := 88) hX dX13_valueOf_75 (by decide) (fun c14 => ?_) (fun c14 => ?_)
        · rw [if_neg c14] at h
          refine zs_aload_n hX dX13_valueOf_88 rfl rfl ?_
          refine zg_pKind hX dX13_valueOf_89 ?_
          refine zs_iload hX dX13_valueOf_92 rfl ?_
          obtain ⟨b15, h⟩ := zgd_e h
          refine zl_pKind hX dX13_valueOf_94 (zin_ok b15) ?_
          refine zs_iconst (v := 2) hX dX13_valueOf_95 (by decide) ?_
          refine zs_icmp_ne (tgt := 116) hX dX13_valueOf_96 (by decide) (fun c16 => ?_) (fun c16 => ?_)
          · rw [if_neg c16] at h
            refine zs_aload_n hX dX13_valueOf_116 rfl rfl ?_
            refine zs_aload_n hX dX13_valueOf_117 rfl rfl ?_
            refine zg_slotValue hX dX13_valueOf_118 ?_
            refine zs_iload hX dX13_valueOf_121 rfl ?_
            obtain ⟨b17, h⟩ := zgd_e h
            refine zl_slotValue hX dX13_valueOf_123 (zin_ok b17) ?_
            refine zs_l2i hX dX13_valueOf_124 ?_
            obtain ⟨r20, s18, e19, h⟩ := zci_e h
            refine zc_sizeOf hX dX13_valueOf_125 (Nat.le_of_ble_eq_true rfl) (hc _ _ _ _ e19) (fun r9 u9 h9 => ?_)
            cases h9
            refine zs_i2l hX dX13_valueOf_128 ?_
            refine zs_weak hX (lw := [some (.ref h0), some (.int x1), some (.int x2), some (.long x3), none, some (.int x5), none, none, none]) ⟨rfl, rfl, rfl, rfl, rfl, trivial⟩ ?_
            exact pj_valueOf_129 hX hc hk10 h
          · rw [if_pos c16] at h
            refine zs_aload_n hX dX13_valueOf_99 rfl rfl ?_
            refine zg_yLong hX dX13_valueOf_100 ?_
            refine zs_aload_n hX dX13_valueOf_103 rfl rfl ?_
            refine zg_slotValue hX dX13_valueOf_104 ?_
            refine zs_iload hX dX13_valueOf_107 rfl ?_
            obtain ⟨b21, h⟩ := zgd_e h
            refine zl_slotValue hX dX13_valueOf_109 (zin_ok b21) ?_
            refine zs_l2i hX dX13_valueOf_110 ?_
            obtain ⟨b22, h⟩ := zgd_e h
            refine zl_yLong hX dX13_valueOf_111 (zin_ok b22) ?_
            refine zs_i2l hX dX13_valueOf_112 ?_
            refine zs_goto (tgt := 129) hX dX13_valueOf_113 (by decide) ?_
            refine zs_weak hX (lw := [some (.ref h0), some (.int x1), some (.int x2), some (.long x3), none, some (.int x5), none, none, none]) ⟨rfl, rfl, rfl, rfl, rfl, trivial⟩ ?_
            exact pj_valueOf_129 hX hc hk10 h
        · rw [if_pos c14] at h
          refine zs_aload_n hX dX13_valueOf_78 rfl rfl ?_
          refine zg_slotValue hX dX13_valueOf_79 ?_
          refine zs_iload hX dX13_valueOf_82 rfl ?_
          obtain ⟨b23, h⟩ := zgd_e h
          refine zl_slotValue hX dX13_valueOf_84 (zin_ok b23) ?_
          refine zs_goto (tgt := 129) hX dX13_valueOf_85 (by decide) ?_
          refine zs_weak hX (lw := [some (.ref h0), some (.int x1), some (.int x2), some (.long x3), none, some (.int x5), none, none, none]) ⟨rfl, rfl, rfl, rfl, rfl, trivial⟩ ?_
          exact pj_valueOf_129 hX hc hk10 h
      · rw [if_pos c7] at h
        refine zs_aload_n hX dX13_valueOf_31 rfl rfl ?_
        refine zs_aload_n hX dX13_valueOf_32 rfl rfl ?_
        refine zg_pWord hX dX13_valueOf_33 ?_
        refine zs_iload hX dX13_valueOf_36 rfl ?_
        obtain ⟨b24, h⟩ := zgd_e h
        refine zl_pWord hX dX13_valueOf_38 (zin_ok b24) ?_
        obtain ⟨r27, s25, e26, h⟩ := zci_e h
        refine zc_numberOf hX dX13_valueOf_39 (Nat.le_of_ble_eq_true rfl) (hc _ _ _ _ e26) (fun r9 u9 h9 => ?_)
        cases h9
        refine zs_i2l hX dX13_valueOf_42 ?_
        refine zs_lstore hX dX13_valueOf_43 (by decide) rfl ?_
        dsimp only [List.set]
        refine zs_goto (tgt := 131) hX dX13_valueOf_45 (by decide) ?_
        exact pj_valueOf_131 hX hc hk10 h
set_option maxHeartbeats 4000000 in
theorem pb_valueOf {h0 : Nat} {qs : List Nat} {ks : Nat → Nat} {n : Nat} {call : zCl} {kc : Nat → List Value → zSt → (Option Value → zSt → Prop) → Prop} {v : Option Value × zSt} {X : Nat → zLv → List Value → zSt → Prop} (hX : zSem cX13_valueOf 9 (some .long) h0 qs ks kc (fun r u => (r, u) = v) X) (hc : ∀ j av s w, call j av s = some w → kc j av s (fun r u => (r, u) = w)) {x1 : Int32} {x2 : Int32} {σ : zSt} (h : b_valueOf n call h0 qs ks x1 x2 σ = some v) : X 0 [some (.ref h0), some (.int x1), some (.int x2), none, none, none, none, none, none] [] σ := by
  rw [b_valueOf] at h
  refine zs_lconst (v := 0) hX dX13_valueOf_0 (by decide) ?_
  refine zs_lstore_n hX dX13_valueOf_1 rfl (by decide) rfl ?_
  dsimp only [List.set]
  refine zs_aload_n hX dX13_valueOf_2 rfl rfl ?_
  refine zg_sFrom hX dX13_valueOf_3 ?_
  refine zs_iload_n hX dX13_valueOf_6 rfl rfl ?_
  obtain ⟨b1, h⟩ := zgd_e h
  refine zl_sFrom hX dX13_valueOf_7 (zin_ok b1) ?_
  refine zs_istore hX dX13_valueOf_8 (by decide) rfl ?_
  dsimp only [List.set]
  exact pl_valueOf_10 hX hc n _ _ _ _ _ h
def j_holds_75 (n : Nat) (call : zCl) (h0 : Nat) (qs : List Nat) (ks : Nat → Nat) (σ : zSt) : zRs :=
  some (some (.int 1), σ)
def b_holds (n : Nat) (call : zCl) (h0 : Nat) (qs : List Nat) (ks : Nat → Nat) (x1 : Int32) (x2 : Int32) (σ : zSt) : zRs :=
  zgd (zin x1 2100) (
  if (σ.2.2.1 6 (x1).toNatClampNeg) = 20 then
    zgd (zin x1 2100) (
    zci (call 126 [.ref h0, .int (σ.2.2.1 9 (x1).toNatClampNeg), .int x2] σ) fun r6 s4 =>
    if r6 = 0 then
      if (s4.1 191) = 0 then
        zgd (zin x1 2100) (
        zci (call 126 [.ref h0, .int (s4.2.2.1 10 (x1).toNatClampNeg), .int x2] s4) fun r12 s10 =>
        if r12 = 0 then
          some (some (.int 0), s10)
        else
          j_holds_75 n call h0 qs ks s10)
      else
        some (some (.int 0), s4)
    else
      j_holds_75 n call h0 qs ks s4)
  else
  if (σ.2.2.1 6 (x1).toNatClampNeg) = 21 then
    zgd (zin x1 2100) (
    zci (call 126 [.ref h0, .int (σ.2.2.1 9 (x1).toNatClampNeg), .int x2] σ) fun r18 s16 =>
    if r18 = 0 then
      some (some (.int 0), s16)
    else
      if (s16.1 191) = 0 then
        zgd (zin x1 2100) (
        zci (call 126 [.ref h0, .int (s16.2.2.1 10 (x1).toNatClampNeg), .int x2] s16) fun r24 s22 =>
        if r24 = 0 then
          some (some (.int 0), s22)
        else
          some (some (.int 1), s22))
      else
        some (some (.int 0), s16))
  else
  if (σ.2.2.1 6 (x1).toNatClampNeg) = 22 then
    zgd (zin x1 2100) (
    zci (call 126 [.ref h0, .int (σ.2.2.1 9 (x1).toNatClampNeg), .int x2] σ) fun r30 s28 =>
    if r30 = 0 then
      some (some (.int 1), s28)
    else
      some (some (.int 0), s28))
  else
  if (σ.2.2.1 6 (x1).toNatClampNeg) = 23 then
    zgd (zin x1 2100) (
    if (σ.2.2.1 9 (x1).toNatClampNeg) = 1 then
      some (some (.int 1), σ)
    else
      some (some (.int 0), σ))
  else
  if (σ.2.2.1 6 (x1).toNatClampNeg) = 24 then
    zgd (zin x1 2100) (
    zgd (zin (σ.2.2.1 9 (x1).toNatClampNeg) 2010) (
    zci (call 122 [.ref h0, .int x2, .int (σ.2.2.1 32 ((σ.2.2.1 9 (x1).toNatClampNeg)).toNatClampNeg)] σ) fun r40 s38 =>
    zgd (zin r40 260000) (
    if (lg_cmp (s38.2.2.2 108 (r40).toNatClampNeg) 0) = 0 then
      some (some (.int 0), s38)
    else
      some (some (.int 1), s38))))
  else
  zgd (zin x1 2100) (
  zcl' (call 125 [.ref h0, .int (σ.2.2.1 9 (x1).toNatClampNeg), .int x2] σ) fun r46 s44 =>
  if (s44.1 191) = 0 then
    zgd (zin x1 2100) (
    zcl' (call 125 [.ref h0, .int (s44.2.2.1 10 (x1).toNatClampNeg), .int x2] s44) fun r51 s49 =>
    zgd (zin x1 2100) (
    if (s49.2.2.1 11 (x1).toNatClampNeg) = 0 then
      if (lg_cmp r46 r51) = 0 then
        some (some (.int 1), s49)
      else
        some (some (.int 0), s49)
    else
      if (s49.2.2.1 11 (x1).toNatClampNeg) = 1 then
        if 0 ≤ (lg_cmp r46 r51) then
          some (some (.int 0), s49)
        else
          some (some (.int 1), s49)
      else
        if (s49.2.2.1 11 (x1).toNatClampNeg) = 2 then
          if 0 < (lg_cmp r46 r51) then
            some (some (.int 0), s49)
          else
            some (some (.int 1), s49)
        else
          if (s49.2.2.1 11 (x1).toNatClampNeg) = 3 then
            if (lg_cmp r46 r51) ≤ 0 then
              some (some (.int 0), s49)
            else
              some (some (.int 1), s49)
          else
            if (s49.2.2.1 11 (x1).toNatClampNeg) = 4 then
              if (lg_cmp r46 r51) < 0 then
                some (some (.int 0), s49)
              else
                some (some (.int 1), s49)
            else
              if (lg_cmp r46 r51) = 0 then
                some (some (.int 0), s49)
              else
                some (some (.int 1), s49)))
  else
    some (some (.int 0), s44)))
set_option maxHeartbeats 4000000 in
theorem pj_holds_75 {h0 : Nat} {qs : List Nat} {ks : Nat → Nat} {n : Nat} {call : zCl} {kc : Nat → List Value → zSt → (Option Value → zSt → Prop) → Prop} {v : Option Value × zSt} {X : Nat → zLv → List Value → zSt → Prop} (hX : zSem cX13_holds 8 (some .boolean) h0 qs ks kc (fun r u => (r, u) = v) X) (hc : ∀ j av s w, call j av s = some w → kc j av s (fun r u => (r, u) = w)) {σ : zSt} (h : j_holds_75 n call h0 qs ks σ = some v) : X 75 [none, none, none, none, none, none, none, none] [] σ := by
  rw [j_holds_75] at h
  refine zs_iconst (v := 1) hX dX13_holds_75 (by decide) ?_
  refine zs_goto (tgt := 80) hX dX13_holds_76 (by decide) ?_
  exact zs_zret hX dX13_holds_80 rfl (by decide) (Option.some.inj h)
set_option maxHeartbeats 4000000 in
theorem pb_holds {h0 : Nat} {qs : List Nat} {ks : Nat → Nat} {n : Nat} {call : zCl} {kc : Nat → List Value → zSt → (Option Value → zSt → Prop) → Prop} {v : Option Value × zSt} {X : Nat → zLv → List Value → zSt → Prop} (hX : zSem cX13_holds 8 (some .boolean) h0 qs ks kc (fun r u => (r, u) = v) X) (hc : ∀ j av s w, call j av s = some w → kc j av s (fun r u => (r, u) = w)) {x1 : Int32} {x2 : Int32} {σ : zSt} (h : b_holds n call h0 qs ks x1 x2 σ = some v) : X 0 [some (.ref h0), some (.int x1), some (.int x2), none, none, none, none, none] [] σ := by
  rw [b_holds] at h
  refine zs_aload_n hX dX13_holds_0 rfl rfl ?_
  refine zg_kind hX dX13_holds_1 ?_
  refine zs_iload_n hX dX13_holds_4 rfl rfl ?_
  obtain ⟨b1, h⟩ := zgd_e h
  refine zl_kind hX dX13_holds_5 (zin_ok b1) ?_
  by_cases c2 : (σ.2.2.1 6 (x1).toNatClampNeg) = 20
  · rw [if_pos c2] at h
    refine zs_tableIn (tgt := 40) (off := 34) hX dX13_holds_6 (by rw [c2]; decide) (by rw [c2]; decide) (by rw [c2]; rfl) (by decide) ?_
    refine zs_aload_n hX dX13_holds_40 rfl rfl ?_
    refine zs_aload_n hX dX13_holds_41 rfl rfl ?_
    refine zg_x1 hX dX13_holds_42 ?_
    refine zs_iload_n hX dX13_holds_45 rfl rfl ?_
    obtain ⟨b3, h⟩ := zgd_e h
    refine zl_x1 hX dX13_holds_46 (zin_ok b3) ?_
    refine zs_iload_n hX dX13_holds_47 rfl rfl ?_
    obtain ⟨r6, s4, e5, h⟩ := zci_e h
    refine zc_holds hX dX13_holds_48 (Nat.le_of_ble_eq_true rfl) (hc _ _ _ _ e5) (fun r9 u9 h9 => ?_)
    cases h9
    refine zs_if_ne (tgt := 75) hX dX13_holds_51 (by decide) (fun c7 => ?_) (fun c7 => ?_)
    · rw [if_neg c7] at h
      refine zs_weak hX (lw := [none, none, none, none, none, none, none, none]) trivial ?_
      exact pj_holds_75 hX hc h
    · rw [if_pos c7] at h
      refine zs_aload_n hX dX13_holds_54 rfl rfl ?_
      refine zg_ends hX dX13_holds_55 ?_
      refine zs_if_ne (tgt := 79) hX dX13_holds_58 (by decide) (fun c8 => ?_) (fun c8 => ?_)
      · rw [if_neg c8] at h
        refine zs_iconst (v := 0) hX dX13_holds_79 (by decide) ?_
        exact zs_zret hX dX13_holds_80 rfl (by decide) (Option.some.inj h)
      · rw [if_pos c8] at h
        refine zs_aload_n hX dX13_holds_61 rfl rfl ?_
        refine zs_aload_n hX dX13_holds_62 rfl rfl ?_
        refine zg_x2 hX dX13_holds_63 ?_
        refine zs_iload_n hX dX13_holds_66 rfl rfl ?_
        obtain ⟨b9, h⟩ := zgd_e h
        refine zl_x2 hX dX13_holds_67 (zin_ok b9) ?_
        refine zs_iload_n hX dX13_holds_68 rfl rfl ?_
        obtain ⟨r12, s10, e11, h⟩ := zci_e h
        refine zc_holds hX dX13_holds_69 (Nat.le_of_ble_eq_true rfl) (hc _ _ _ _ e11) (fun r9 u9 h9 => ?_)
        cases h9
        refine zs_if_eq (tgt := 79) hX dX13_holds_72 (by decide) (fun c13 => ?_) (fun c13 => ?_)
        · rw [if_pos c13] at h
          refine zs_iconst (v := 0) hX dX13_holds_79 (by decide) ?_
          exact zs_zret hX dX13_holds_80 rfl (by decide) (Option.some.inj h)
        · rw [if_neg c13] at h
          refine zs_weak hX (lw := [none, none, none, none, none, none, none, none]) trivial ?_
          exact pj_holds_75 hX hc h
  rw [if_neg c2] at h
  by_cases c14 : (σ.2.2.1 6 (x1).toNatClampNeg) = 21
  · rw [if_pos c14] at h
    refine zs_tableIn (tgt := 81) (off := 75) hX dX13_holds_6 (by rw [c14]; decide) (by rw [c14]; decide) (by rw [c14]; rfl) (by decide) ?_
    refine zs_aload_n hX dX13_holds_81 rfl rfl ?_
    refine zs_aload_n hX dX13_holds_82 rfl rfl ?_
    refine zg_x1 hX dX13_holds_83 ?_
    refine zs_iload_n hX dX13_holds_86 rfl rfl ?_
    obtain ⟨b15, h⟩ := zgd_e h
    refine zl_x1 hX dX13_holds_87 (zin_ok b15) ?_
    refine zs_iload_n hX dX13_holds_88 rfl rfl ?_
    obtain ⟨r18, s16, e17, h⟩ := zci_e h
    refine zc_holds hX dX13_holds_89 (Nat.le_of_ble_eq_true rfl) (hc _ _ _ _ e17) (fun r9 u9 h9 => ?_)
    cases h9
    refine zs_if_eq (tgt := 120) hX dX13_holds_92 (by decide) (fun c19 => ?_) (fun c19 => ?_)
    · rw [if_pos c19] at h
      refine zs_iconst (v := 0) hX dX13_holds_120 (by decide) ?_
      exact zs_zret hX dX13_holds_121 rfl (by decide) (Option.some.inj h)
    · rw [if_neg c19] at h
      refine zs_aload_n hX dX13_holds_95 rfl rfl ?_
      refine zg_ends hX dX13_holds_96 ?_
      refine zs_if_ne (tgt := 120) hX dX13_holds_99 (by decide) (fun c20 => ?_) (fun c20 => ?_)
      · rw [if_neg c20] at h
        refine zs_iconst (v := 0) hX dX13_holds_120 (by decide) ?_
        exact zs_zret hX dX13_holds_121 rfl (by decide) (Option.some.inj h)
      · rw [if_pos c20] at h
        refine zs_aload_n hX dX13_holds_102 rfl rfl ?_
        refine zs_aload_n hX dX13_holds_103 rfl rfl ?_
        refine zg_x2 hX dX13_holds_104 ?_
        refine zs_iload_n hX dX13_holds_107 rfl rfl ?_
        obtain ⟨b21, h⟩ := zgd_e h
        refine zl_x2 hX dX13_holds_108 (zin_ok b21) ?_
        refine zs_iload_n hX dX13_holds_109 rfl rfl ?_
        obtain ⟨r24, s22, e23, h⟩ := zci_e h
        refine zc_holds hX dX13_holds_110 (Nat.le_of_ble_eq_true rfl) (hc _ _ _ _ e23) (fun r9 u9 h9 => ?_)
        cases h9
        refine zs_if_eq (tgt := 120) hX dX13_holds_113 (by decide) (fun c25 => ?_) (fun c25 => ?_)
        · rw [if_pos c25] at h
          refine zs_iconst (v := 0) hX dX13_holds_120 (by decide) ?_
          exact zs_zret hX dX13_holds_121 rfl (by decide) (Option.some.inj h)
        · rw [if_neg c25] at h
          refine zs_iconst (v := 1) hX dX13_holds_116 (by decide) ?_
          refine zs_goto (tgt := 121) hX dX13_holds_117 (by decide) ?_
          exact zs_zret hX dX13_holds_121 rfl (by decide) (Option.some.inj h)
  rw [if_neg c14] at h
  by_cases c26 : (σ.2.2.1 6 (x1).toNatClampNeg) = 22
  · rw [if_pos c26] at h
    refine zs_tableIn (tgt := 122) (off := 116) hX dX13_holds_6 (by rw [c26]; decide) (by rw [c26]; decide) (by rw [c26]; rfl) (by decide) ?_
    refine zs_aload_n hX dX13_holds_122 rfl rfl ?_
    refine zs_aload_n hX dX13_holds_123 rfl rfl ?_
    refine zg_x1 hX dX13_holds_124 ?_
    refine zs_iload_n hX dX13_holds_127 rfl rfl ?_
    obtain ⟨b27, h⟩ := zgd_e h
    refine zl_x1 hX dX13_holds_128 (zin_ok b27) ?_
    refine zs_iload_n hX dX13_holds_129 rfl rfl ?_
    obtain ⟨r30, s28, e29, h⟩ := zci_e h
    refine zc_holds hX dX13_holds_130 (Nat.le_of_ble_eq_true rfl) (hc _ _ _ _ e29) (fun r9 u9 h9 => ?_)
    cases h9
    refine zs_if_ne (tgt := 140) hX dX13_holds_133 (by decide) (fun c31 => ?_) (fun c31 => ?_)
    · rw [if_neg c31] at h
      refine zs_iconst (v := 0) hX dX13_holds_140 (by decide) ?_
      exact zs_zret hX dX13_holds_141 rfl (by decide) (Option.some.inj h)
    · rw [if_pos c31] at h
      refine zs_iconst (v := 1) hX dX13_holds_136 (by decide) ?_
      refine zs_goto (tgt := 141) hX dX13_holds_137 (by decide) ?_
      exact zs_zret hX dX13_holds_141 rfl (by decide) (Option.some.inj h)
  rw [if_neg c26] at h
  by_cases c32 : (σ.2.2.1 6 (x1).toNatClampNeg) = 23
  · rw [if_pos c32] at h
    refine zs_tableIn (tgt := 142) (off := 136) hX dX13_holds_6 (by rw [c32]; decide) (by rw [c32]; decide) (by rw [c32]; rfl) (by decide) ?_
    refine zs_aload_n hX dX13_holds_142 rfl rfl ?_
    refine zg_x1 hX dX13_holds_143 ?_
    refine zs_iload_n hX dX13_holds_146 rfl rfl ?_
    obtain ⟨b33, h⟩ := zgd_e h
    refine zl_x1 hX dX13_holds_147 (zin_ok b33) ?_
    refine zs_iconst (v := 1) hX dX13_holds_148 (by decide) ?_
    refine zs_icmp_ne (tgt := 156) hX dX13_holds_149 (by decide) (fun c34 => ?_) (fun c34 => ?_)
    · rw [if_neg c34] at h
      refine zs_iconst (v := 0) hX dX13_holds_156 (by decide) ?_
      exact zs_zret hX dX13_holds_157 rfl (by decide) (Option.some.inj h)
    · rw [if_pos c34] at h
      refine zs_iconst (v := 1) hX dX13_holds_152 (by decide) ?_
      refine zs_goto (tgt := 157) hX dX13_holds_153 (by decide) ?_
      exact zs_zret hX dX13_holds_157 rfl (by decide) (Option.some.inj h)
  rw [if_neg c32] at h
  by_cases c35 : (σ.2.2.1 6 (x1).toNatClampNeg) = 24
  · rw [if_pos c35] at h
    refine zs_tableIn (tgt := 158) (off := 152) hX dX13_holds_6 (by rw [c35]; decide) (by rw [c35]; decide) (by rw [c35]; rfl) (by decide) ?_
    refine zs_aload_n hX dX13_holds_158 rfl rfl ?_
    refine zg_slotValue hX dX13_holds_159 ?_
    refine zs_aload_n hX dX13_holds_162 rfl rfl ?_
    refine zs_iload_n hX dX13_holds_163 rfl rfl ?_
    refine zs_aload_n hX dX13_holds_164 rfl rfl ?_
    refine zg_whose hX dX13_holds_165 ?_
    refine zs_aload_n hX dX13_holds_168 rfl rfl ?_
    refine zg_x1 hX dX13_holds_169 ?_
    refine zs_iload_n hX dX13_holds_172 rfl rfl ?_
    obtain ⟨b36, h⟩ := zgd_e h
    refine zl_x1 hX dX13_holds_173 (zin_ok b36) ?_
    obtain ⟨b37, h⟩ := zgd_e h
    refine zl_whose hX dX13_holds_174 (zin_ok b37) ?_
    obtain ⟨r40, s38, e39, h⟩ := zci_e h
    refine zc_find hX dX13_holds_175 (Nat.le_of_ble_eq_true rfl) (hc _ _ _ _ e39) (fun r9 u9 h9 => ?_)
    cases h9
    obtain ⟨b41, h⟩ := zgd_e h
    refine zl_slotValue hX dX13_holds_178 (zin_ok b41) ?_
    refine zs_lconst (v := 0) hX dX13_holds_179 (by decide) ?_
    refine zs_lcmp hX dX13_holds_180 ?_
    refine zs_if_eq (tgt := 188) hX dX13_holds_181 (by decide) (fun c42 => ?_) (fun c42 => ?_)
    · rw [if_pos c42] at h
      refine zs_iconst (v := 0) hX dX13_holds_188 (by decide) ?_
      exact zs_zret hX dX13_holds_189 rfl (by decide) (Option.some.inj h)
    · rw [if_neg c42] at h
      refine zs_iconst (v := 1) hX dX13_holds_184 (by decide) ?_
      refine zs_goto (tgt := 189) hX dX13_holds_185 (by decide) ?_
      exact zs_zret hX dX13_holds_189 rfl (by decide) (Option.some.inj h)
  rw [if_neg c35] at h
  refine zs_tableOut (tgt := 190) hX dX13_holds_6 (by have := z_ne c2 (k := 20) (by decide); have := z_ne c14 (k := 21) (by decide); have := z_ne c26 (k := 22) (by decide); have := z_ne c32 (k := 23) (by decide); have := z_ne c35 (k := 24) (by decide); omega) (by decide) ?_
  refine zs_aload_n hX dX13_holds_190 rfl rfl ?_
  refine zs_aload_n hX dX13_holds_191 rfl rfl ?_
  refine zg_x1 hX dX13_holds_192 ?_
  refine zs_iload_n hX dX13_holds_195 rfl rfl ?_
  obtain ⟨b43, h⟩ := zgd_e h
  refine zl_x1 hX dX13_holds_196 (zin_ok b43) ?_
  refine zs_iload_n hX dX13_holds_197 rfl rfl ?_
  obtain ⟨r46, s44, e45, h⟩ := zcl'_e h
  refine zc_valueOf hX dX13_holds_198 (Nat.le_of_ble_eq_true rfl) (hc _ _ _ _ e45) (fun r9 u9 h9 => ?_)
  cases h9
  refine zs_lstore_n hX dX13_holds_201 rfl (by decide) rfl ?_
  dsimp only [List.set]
  refine zs_aload_n hX dX13_holds_202 rfl rfl ?_
  refine zg_ends hX dX13_holds_203 ?_
  refine zs_if_eq (tgt := 211) hX dX13_holds_206 (by decide) (fun c47 => ?_) (fun c47 => ?_)
  · rw [if_pos c47] at h
    refine zs_aload_n hX dX13_holds_211 rfl rfl ?_
    refine zs_aload_n hX dX13_holds_212 rfl rfl ?_
    refine zg_x2 hX dX13_holds_213 ?_
    refine zs_iload_n hX dX13_holds_216 rfl rfl ?_
    obtain ⟨b48, h⟩ := zgd_e h
    refine zl_x2 hX dX13_holds_217 (zin_ok b48) ?_
    refine zs_iload_n hX dX13_holds_218 rfl rfl ?_
    obtain ⟨r51, s49, e50, h⟩ := zcl'_e h
    refine zc_valueOf hX dX13_holds_219 (Nat.le_of_ble_eq_true rfl) (hc _ _ _ _ e50) (fun r9 u9 h9 => ?_)
    cases h9
    refine zs_lstore hX dX13_holds_222 (by decide) rfl ?_
    dsimp only [List.set]
    refine zs_aload_n hX dX13_holds_224 rfl rfl ?_
    refine zg_x3 hX dX13_holds_225 ?_
    refine zs_iload_n hX dX13_holds_228 rfl rfl ?_
    obtain ⟨b52, h⟩ := zgd_e h
    refine zl_x3 hX dX13_holds_229 (zin_ok b52) ?_
    refine zs_istore hX dX13_holds_230 (by decide) rfl ?_
    dsimp only [List.set]
    refine zs_iload hX dX13_holds_232 rfl ?_
    refine zs_if_ne (tgt := 252) hX dX13_holds_234 (by decide) (fun c53 => ?_) (fun c53 => ?_)
    · rw [if_neg c53] at h
      refine zs_iload hX dX13_holds_252 rfl ?_
      refine zs_iconst (v := 1) hX dX13_holds_254 (by decide) ?_
      refine zs_icmp_ne (tgt := 273) hX dX13_holds_255 (by decide) (fun c54 => ?_) (fun c54 => ?_)
      · rw [if_neg c54] at h
        refine zs_iload hX dX13_holds_273 rfl ?_
        refine zs_iconst (v := 2) hX dX13_holds_275 (by decide) ?_
        refine zs_icmp_ne (tgt := 294) hX dX13_holds_276 (by decide) (fun c55 => ?_) (fun c55 => ?_)
        · rw [if_neg c55] at h
          refine zs_iload hX dX13_holds_294 rfl ?_
          refine zs_iconst (v := 3) hX dX13_holds_296 (by decide) ?_
          refine zs_icmp_ne (tgt := 315) hX dX13_holds_297 (by decide) (fun c56 => ?_) (fun c56 => ?_)
          · rw [if_neg c56] at h
            refine zs_iload hX dX13_holds_315 rfl ?_
            refine zs_iconst (v := 4) hX dX13_holds_317 (by decide) ?_
            refine zs_icmp_ne (tgt := 336) hX dX13_holds_318 (by decide) (fun c57 => ?_) (fun c57 => ?_)
            · rw [if_neg c57] at h
              refine zs_lload_n hX dX13_holds_336 rfl rfl ?_
              refine zs_lload hX dX13_holds_337 rfl ?_
              refine zs_lcmp hX dX13_holds_339 ?_
              refine zs_if_eq (tgt := 347) hX dX13_holds_340 (by decide) (fun c58 => ?_) (fun c58 => ?_)
              · rw [if_pos c58] at h
                refine zs_iconst (v := 0) hX dX13_holds_347 (by decide) ?_
                exact zs_zret hX dX13_holds_348 rfl (by decide) (Option.some.inj h)
              · rw [if_neg c58] at h
                refine zs_iconst (v := 1) hX dX13_holds_343 (by decide) ?_
                refine zs_goto (tgt := 348) hX dX13_holds_344 (by decide) ?_
                exact zs_zret hX dX13_holds_348 rfl (by decide) (Option.some.inj h)
            · rw [if_pos c57] at h
              refine zs_lload_n hX dX13_holds_321 rfl rfl ?_
              refine zs_lload hX dX13_holds_322 rfl ?_
              refine zs_lcmp hX dX13_holds_324 ?_
              refine zs_if_lt (tgt := 332) hX dX13_holds_325 (by decide) (fun c59 => ?_) (fun c59 => ?_)
              · rw [if_pos c59] at h
                refine zs_iconst (v := 0) hX dX13_holds_332 (by decide) ?_
                refine zs_goto (tgt := 348) hX dX13_holds_333 (by decide) ?_
                exact zs_zret hX dX13_holds_348 rfl (by decide) (Option.some.inj h)
              · rw [if_neg c59] at h
                refine zs_iconst (v := 1) hX dX13_holds_328 (by decide) ?_
                refine zs_goto (tgt := 348) hX dX13_holds_329 (by decide) ?_
                exact zs_zret hX dX13_holds_348 rfl (by decide) (Option.some.inj h)
          · rw [if_pos c56] at h
            refine zs_lload_n hX dX13_holds_300 rfl rfl ?_
            refine zs_lload hX dX13_holds_301 rfl ?_
            refine zs_lcmp hX dX13_holds_303 ?_
            refine zs_if_le (tgt := 311) hX dX13_holds_304 (by decide) (fun c60 => ?_) (fun c60 => ?_)
            · rw [if_pos c60] at h
              refine zs_iconst (v := 0) hX dX13_holds_311 (by decide) ?_
              refine zs_goto (tgt := 348) hX dX13_holds_312 (by decide) ?_
              exact zs_zret hX dX13_holds_348 rfl (by decide) (Option.some.inj h)
            · rw [if_neg c60] at h
              refine zs_iconst (v := 1) hX dX13_holds_307 (by decide) ?_
              refine zs_goto (tgt := 348) hX dX13_holds_308 (by decide) ?_
              exact zs_zret hX dX13_holds_348 rfl (by decide) (Option.some.inj h)
        · rw [if_pos c55] at h
          refine zs_lload_n hX dX13_holds_279 rfl rfl ?_
          refine zs_lload hX dX13_holds_280 rfl ?_
          refine zs_lcmp hX dX13_holds_282 ?_
          refine zs_if_gt (tgt := 290) hX dX13_holds_283 (by decide) (fun c61 => ?_) (fun c61 => ?_)
          · rw [if_pos c61] at h
            refine zs_iconst (v := 0) hX dX13_holds_290 (by decide) ?_
            refine zs_goto (tgt := 348) hX dX13_holds_291 (by decide) ?_
            exact zs_zret hX dX13_holds_348 rfl (by decide) (Option.some.inj h)
          · rw [if_neg c61] at h
            refine zs_iconst (v := 1) hX dX13_holds_286 (by decide) ?_
            refine zs_goto (tgt := 348) hX dX13_holds_287 (by decide) ?_
            exact zs_zret hX dX13_holds_348 rfl (by decide) (Option.some.inj h)
      · rw [if_pos c54] at h
        refine zs_lload_n hX dX13_holds_258 rfl rfl ?_
        refine zs_lload hX dX13_holds_259 rfl ?_
        refine zs_lcmp hX dX13_holds_261 ?_
        refine zs_if_ge (tgt := 269) hX dX13_holds_262 (by decide) (fun c62 => ?_) (fun c62 => ?_)
        · rw [if_pos c62] at h
          refine zs_iconst (v := 0) hX dX13_holds_269 (by decide) ?_
          refine zs_goto (tgt := 348) hX dX13_holds_270 (by decide) ?_
          exact zs_zret hX dX13_holds_348 rfl (by decide) (Option.some.inj h)
        · rw [if_neg c62] at h
          refine zs_iconst (v := 1) hX dX13_holds_265 (by decide) ?_
          refine zs_goto (tgt := 348) hX dX13_holds_266 (by decide) ?_
          exact zs_zret hX dX13_holds_348 rfl (by decide) (Option.some.inj h)
    · rw [if_pos c53] at h
      refine zs_lload_n hX dX13_holds_237 rfl rfl ?_
      refine zs_lload hX dX13_holds_238 rfl ?_
      refine zs_lcmp hX dX13_holds_240 ?_
      refine zs_if_ne (tgt := 248) hX dX13_holds_241 (by decide) (fun c63 => ?_) (fun c63 => ?_)
      · rw [if_neg c63] at h
        refine zs_iconst (v := 0) hX dX13_holds_248 (by decide) ?_
        refine zs_goto (tgt := 348) hX dX13_holds_249 (by decide) ?_
        exact zs_zret hX dX13_holds_348 rfl (by decide) (Option.some.inj h)
      · rw [if_pos c63] at h
        refine zs_iconst (v := 1) hX dX13_holds_244 (by decide) ?_
        refine zs_goto (tgt := 348) hX dX13_holds_245 (by decide) ?_
        exact zs_zret hX dX13_holds_348 rfl (by decide) (Option.some.inj h)
  · rw [if_neg c47] at h
    refine zs_iconst (v := 0) hX dX13_holds_209 (by decide) ?_
    exact zs_zret hX dX13_holds_210 rfl (by decide) (Option.some.inj h)
def l_newArray_69 (n : Nat) (call : zCl) (h0 : Nat) (qs : List Nat) (ks : Nat → Nat) : Nat → Int64 → Int32 → zSt → zRs
  | 0, _, _, _ => none
  | f + 1, x1, x3, σ =>
    if 0 ≤ (lg_cmp ((x3).toInt64) x1) then
      zlet (zI σ 181 ((σ.1 181) + ((x1).toInt32))) fun s2 =>
      zlet (zI s2 180 ((s2.1 180) + 1)) fun s4 =>
      some (some (.int ((s4.1 180) - 1)), s4)
    else
      zgd (zin ((σ.1 181) + x3) 11000) (zlet (zG σ 115 (vp_updL (σ.2.2.2 115) (((σ.1 181) + x3)).toNatClampNeg 0)) fun s7 =>
      l_newArray_69 n call h0 qs ks f x1 (x3 + 1) s7)
def j_newArray_36 (n : Nat) (call : zCl) (h0 : Nat) (qs : List Nat) (ks : Nat → Nat) (σ : zSt) : zRs :=
  zlet (zI σ 191 2) fun s1 =>
  some (some (.int 0), s1)
def b_newArray (n : Nat) (call : zCl) (h0 : Nat) (qs : List Nat) (ks : Nat → Nat) (x1 : Int64) (σ : zSt) : zRs :=
  if 0 ≤ (lg_cmp x1 0) then
    if 0 < (lg_cmp x1 1000) then
      j_newArray_36 n call h0 qs ks σ
    else
      if (lg_cmp ((((σ.1 181)).toInt64) + x1) 10000) ≤ 0 then
        zgd (zin (σ.1 180) 21000) (zlet (zA σ 113 (upd (σ.2.2.1 113) ((σ.1 180)).toNatClampNeg (σ.1 181))) fun s5 =>
        zgd (zin (s5.1 180) 21000) (zlet (zA s5 114 (upd (s5.2.2.1 114) ((s5.1 180)).toNatClampNeg ((x1).toInt32))) fun s8 =>
        l_newArray_69 n call h0 qs ks n x1 0 s8))
      else
        j_newArray_36 n call h0 qs ks σ
  else
    zlet (zI σ 191 6) fun s10 =>
    some (some (.int 0), s10)
set_option maxHeartbeats 4000000 in
theorem pl_newArray_69 {h0 : Nat} {qs : List Nat} {ks : Nat → Nat} {n : Nat} {call : zCl} {kc : Nat → List Value → zSt → (Option Value → zSt → Prop) → Prop} {v : Option Value × zSt} {X : Nat → zLv → List Value → zSt → Prop} (hX : zSem cX13_newArray 4 (some .int) h0 qs ks kc (fun r u => (r, u) = v) X) (hc : ∀ j av s w, call j av s = some w → kc j av s (fun r u => (r, u) = w)) : ∀ (f : Nat) (x1 : Int64) (x3 : Int32) (σ : zSt), l_newArray_69 n call h0 qs ks f x1 x3 σ = some v → X 69 [some (.ref h0), some (.long x1), none, some (.int x3)] [] σ := by
  intro f
  induction f with
  | zero => intro x1 x3 σ h; cases h
  | succ f hk69 =>
    intro x1 x3 σ h
    rw [l_newArray_69] at h
    refine zs_iload_n hX dX13_newArray_69 rfl rfl ?_
    refine zs_i2l hX dX13_newArray_70 ?_
    refine zs_lload_n hX dX13_newArray_71 rfl rfl ?_
    refine zs_lcmp hX dX13_newArray_72 ?_
    refine zs_if_ge (tgt := 94) hX dX13_newArray_73 (by decide) (fun c1 => ?_) (fun c1 => ?_)
    · rw [if_pos c1] at h
      refine zs_aload_n hX dX13_newArray_94 rfl rfl ?_
      refine zs_dup hX dX13_newArray_95 rfl ?_
      refine zg_heapTop hX dX13_newArray_96 ?_
      refine zs_lload_n hX dX13_newArray_99 rfl rfl ?_
      refine zs_l2i hX dX13_newArray_100 ?_
      refine zs_iadd hX dX13_newArray_101 ?_
      obtain ⟨s2, e3, h⟩ := zlet_e h
      refine zp_heapTop hX dX13_newArray_102 ?_
      rw [← e3]
      refine zs_aload_n hX dX13_newArray_105 rfl rfl ?_
      refine zs_dup hX dX13_newArray_106 rfl ?_
      refine zg_arrays hX dX13_newArray_107 ?_
      refine zs_iconst (v := 1) hX dX13_newArray_110 (by decide) ?_
      refine zs_iadd hX dX13_newArray_111 ?_
      obtain ⟨s4, e5, h⟩ := zlet_e h
      refine zp_arrays hX dX13_newArray_112 ?_
      rw [← e5]
      refine zs_aload_n hX dX13_newArray_115 rfl rfl ?_
      refine zg_arrays hX dX13_newArray_116 ?_
      refine zs_iconst (v := 1) hX dX13_newArray_119 (by decide) ?_
      refine zs_isub hX dX13_newArray_120 ?_
      exact zs_iret hX dX13_newArray_121 rfl (Option.some.inj h)
    · rw [if_neg c1] at h
      refine zs_aload_n hX dX13_newArray_76 rfl rfl ?_
      refine zg_heap hX dX13_newArray_77 ?_
      refine zs_aload_n hX dX13_newArray_80 rfl rfl ?_
      refine zg_heapTop hX dX13_newArray_81 ?_
      refine zs_iload_n hX dX13_newArray_84 rfl rfl ?_
      refine zs_iadd hX dX13_newArray_85 ?_
      refine zs_lconst (v := 0) hX dX13_newArray_86 (by decide) ?_
      obtain ⟨b6, h⟩ := zgd_e h
      obtain ⟨s7, e8, h⟩ := zlet_e h
      refine zt_heap hX dX13_newArray_87 (zin_ok b6) ?_
      rw [← e8]
      refine zs_iinc (v := x3 + 1) hX dX13_newArray_88 rfl rfl (by decide) rfl ?_
      dsimp only [List.set]
      refine zs_goto (tgt := 69) hX dX13_newArray_91 (by decide) ?_
      exact hk69 _ _ _ h
set_option maxHeartbeats 4000000 in
theorem pj_newArray_36 {h0 : Nat} {qs : List Nat} {ks : Nat → Nat} {n : Nat} {call : zCl} {kc : Nat → List Value → zSt → (Option Value → zSt → Prop) → Prop} {v : Option Value × zSt} {X : Nat → zLv → List Value → zSt → Prop} (hX : zSem cX13_newArray 4 (some .int) h0 qs ks kc (fun r u => (r, u) = v) X) (hc : ∀ j av s w, call j av s = some w → kc j av s (fun r u => (r, u) = w)) {σ : zSt} (h : j_newArray_36 n call h0 qs ks σ = some v) : X 36 [some (.ref h0), none, none, none] [] σ := by
  rw [j_newArray_36] at h
  refine zs_aload_n hX dX13_newArray_36 rfl rfl ?_
  refine zs_iconst (v := 2) hX dX13_newArray_37 (by decide) ?_
  obtain ⟨s1, e2, h⟩ := zlet_e h
  refine zp_ends hX dX13_newArray_38 ?_
  rw [← e2]
  refine zs_iconst (v := 0) hX dX13_newArray_41 (by decide) ?_
  exact zs_iret hX dX13_newArray_42 rfl (Option.some.inj h)
set_option maxHeartbeats 4000000 in
theorem pb_newArray {h0 : Nat} {qs : List Nat} {ks : Nat → Nat} {n : Nat} {call : zCl} {kc : Nat → List Value → zSt → (Option Value → zSt → Prop) → Prop} {v : Option Value × zSt} {X : Nat → zLv → List Value → zSt → Prop} (hX : zSem cX13_newArray 4 (some .int) h0 qs ks kc (fun r u => (r, u) = v) X) (hc : ∀ j av s w, call j av s = some w → kc j av s (fun r u => (r, u) = w)) {x1 : Int64} {σ : zSt} (h : b_newArray n call h0 qs ks x1 σ = some v) : X 0 [some (.ref h0), some (.long x1), none, none] [] σ := by
  rw [b_newArray] at h
  refine zs_lload_n hX dX13_newArray_0 rfl rfl ?_
  refine zs_lconst (v := 0) hX dX13_newArray_1 (by decide) ?_
  refine zs_lcmp hX dX13_newArray_2 ?_
  refine zs_if_ge (tgt := 14) hX dX13_newArray_3 (by decide) (fun c1 => ?_) (fun c1 => ?_)
  · rw [if_pos c1] at h
    refine zs_lload_n hX dX13_newArray_14 rfl rfl ?_
    refine zs_ldc2 (v := 1000) hX dX13_newArray_15 (by decide) ?_
    refine zs_lcmp hX dX13_newArray_18 ?_
    refine zs_if_gt (tgt := 36) hX dX13_newArray_19 (by decide) (fun c2 => ?_) (fun c2 => ?_)
    · rw [if_pos c2] at h
      refine zs_weak hX (lw := [some (.ref h0), none, none, none]) ⟨rfl, trivial⟩ ?_
      exact pj_newArray_36 hX hc h
    · rw [if_neg c2] at h
      refine zs_aload_n hX dX13_newArray_22 rfl rfl ?_
      refine zg_heapTop hX dX13_newArray_23 ?_
      refine zs_i2l hX dX13_newArray_26 ?_
      refine zs_lload_n hX dX13_newArray_27 rfl rfl ?_
      refine zs_ladd hX dX13_newArray_28 ?_
      refine zs_ldc2 (v := 10000) hX dX13_newArray_29 (by decide) ?_
      refine zs_lcmp hX dX13_newArray_32 ?_
      refine zs_if_le (tgt := 43) hX dX13_newArray_33 (by decide) (fun c3 => ?_) (fun c3 => ?_)
      · rw [if_pos c3] at h
        refine zs_aload_n hX dX13_newArray_43 rfl rfl ?_
        refine zg_yFrom hX dX13_newArray_44 ?_
        refine zs_aload_n hX dX13_newArray_47 rfl rfl ?_
        refine zg_arrays hX dX13_newArray_48 ?_
        refine zs_aload_n hX dX13_newArray_51 rfl rfl ?_
        refine zg_heapTop hX dX13_newArray_52 ?_
        obtain ⟨b4, h⟩ := zgd_e h
        obtain ⟨s5, e6, h⟩ := zlet_e h
        refine zt_yFrom hX dX13_newArray_55 (zin_ok b4) ?_
        rw [← e6]
        refine zs_aload_n hX dX13_newArray_56 rfl rfl ?_
        refine zg_yLong hX dX13_newArray_57 ?_
        refine zs_aload_n hX dX13_newArray_60 rfl rfl ?_
        refine zg_arrays hX dX13_newArray_61 ?_
        refine zs_lload_n hX dX13_newArray_64 rfl rfl ?_
        refine zs_l2i hX dX13_newArray_65 ?_
        obtain ⟨b7, h⟩ := zgd_e h
        obtain ⟨s8, e9, h⟩ := zlet_e h
        refine zt_yLong hX dX13_newArray_66 (zin_ok b7) ?_
        rw [← e9]
        refine zs_iconst (v := 0) hX dX13_newArray_67 (by decide) ?_
        refine zs_istore_n hX dX13_newArray_68 rfl (by decide) rfl ?_
        dsimp only [List.set]
        exact pl_newArray_69 hX hc n _ _ _ h
      · rw [if_neg c3] at h
        refine zs_weak hX (lw := [some (.ref h0), none, none, none]) ⟨rfl, trivial⟩ ?_
        exact pj_newArray_36 hX hc h
  · rw [if_neg c1] at h
    refine zs_aload_n hX dX13_newArray_6 rfl rfl ?_
    refine zs_bipush (v := 6) hX dX13_newArray_7 (by decide) ?_
    obtain ⟨s10, e11, h⟩ := zlet_e h
    refine zp_ends hX dX13_newArray_9 ?_
    rw [← e11]
    refine zs_iconst (v := 0) hX dX13_newArray_12 (by decide) ?_
    exact zs_iret hX dX13_newArray_13 rfl (Option.some.inj h)
def b_is (n : Nat) (call : zCl) (h0 : Nat) (qs : List Nat) (ks : Nat → Nat) (x1 : Int32) (x2 : Int64) (σ : zSt) : zRs :=
  zlet (zI σ 192 x1) fun s1 =>
  zlet (zJ s1 193 x2) fun s3 =>
  some (none, s3)
set_option maxHeartbeats 4000000 in
theorem pb_is {h0 : Nat} {qs : List Nat} {ks : Nat → Nat} {n : Nat} {call : zCl} {kc : Nat → List Value → zSt → (Option Value → zSt → Prop) → Prop} {v : Option Value × zSt} {X : Nat → zLv → List Value → zSt → Prop} (hX : zSem cX13_is 4 none h0 qs ks kc (fun r u => (r, u) = v) X) (hc : ∀ j av s w, call j av s = some w → kc j av s (fun r u => (r, u) = w)) {x1 : Int32} {x2 : Int64} {σ : zSt} (h : b_is n call h0 qs ks x1 x2 σ = some v) : X 0 [some (.ref h0), some (.int x1), some (.long x2), none] [] σ := by
  rw [b_is] at h
  refine zs_aload_n hX dX13_is_0 rfl rfl ?_
  refine zs_iload_n hX dX13_is_1 rfl rfl ?_
  obtain ⟨s1, e2, h⟩ := zlet_e h
  refine zp_vKind hX dX13_is_2 ?_
  rw [← e2]
  refine zs_aload_n hX dX13_is_5 rfl rfl ?_
  refine zs_lload_n hX dX13_is_6 rfl rfl ?_
  obtain ⟨s3, e4, h⟩ := zlet_e h
  refine zp_vValue hX dX13_is_7 ?_
  rw [← e4]
  exact zs_vret hX dX13_is_10 rfl (Option.some.inj h)
def b_function (n : Nat) (call : zCl) (h0 : Nat) (qs : List Nat) (ks : Nat → Nat) (x1 : Int32) (x2 : Int32) (σ : zSt) : zRs :=
  zgd (zin (σ.1 176) 60000) (zlet (zA σ 109 (upd (σ.2.2.1 109) ((σ.1 176)).toNatClampNeg x1)) fun s2 =>
  zgd (zin (s2.1 176) 60000) (zlet (zA s2 110 (upd (s2.2.2.1 110) ((s2.1 176)).toNatClampNeg x2)) fun s5 =>
  zgd (zin (s5.1 176) 60000) (zlet (zA s5 111 (upd (s5.2.2.1 111) ((s5.1 176)).toNatClampNeg (-1))) fun s8 =>
  zgd (zin (s8.1 176) 60000) (zlet (zA s8 112 (upd (s8.2.2.1 112) ((s8.1 176)).toNatClampNeg 0)) fun s11 =>
  zlet (zI s11 176 ((s11.1 176) + 1)) fun s13 =>
  some (some (.int ((s13.1 176) - 1)), s13)))))
set_option maxHeartbeats 4000000 in
theorem pb_function {h0 : Nat} {qs : List Nat} {ks : Nat → Nat} {n : Nat} {call : zCl} {kc : Nat → List Value → zSt → (Option Value → zSt → Prop) → Prop} {v : Option Value × zSt} {X : Nat → zLv → List Value → zSt → Prop} (hX : zSem cX13_function 3 (some .int) h0 qs ks kc (fun r u => (r, u) = v) X) (hc : ∀ j av s w, call j av s = some w → kc j av s (fun r u => (r, u) = w)) {x1 : Int32} {x2 : Int32} {σ : zSt} (h : b_function n call h0 qs ks x1 x2 σ = some v) : X 0 [some (.ref h0), some (.int x1), some (.int x2)] [] σ := by
  rw [b_function] at h
  refine zs_aload_n hX dX13_function_0 rfl rfl ?_
  refine zg_fNode hX dX13_function_1 ?_
  refine zs_aload_n hX dX13_function_4 rfl rfl ?_
  refine zg_functions hX dX13_function_5 ?_
  refine zs_iload_n hX dX13_function_8 rfl rfl ?_
  obtain ⟨b1, h⟩ := zgd_e h
  obtain ⟨s2, e3, h⟩ := zlet_e h
  refine zt_fNode hX dX13_function_9 (zin_ok b1) ?_
  rw [← e3]
  refine zs_aload_n hX dX13_function_10 rfl rfl ?_
  refine zg_fSlots hX dX13_function_11 ?_
  refine zs_aload_n hX dX13_function_14 rfl rfl ?_
  refine zg_functions hX dX13_function_15 ?_
  refine zs_iload_n hX dX13_function_18 rfl rfl ?_
  obtain ⟨b4, h⟩ := zgd_e h
  obtain ⟨s5, e6, h⟩ := zlet_e h
  refine zt_fSlots hX dX13_function_19 (zin_ok b4) ?_
  rw [← e6]
  refine zs_aload_n hX dX13_function_20 rfl rfl ?_
  refine zg_fHad hX dX13_function_21 ?_
  refine zs_aload_n hX dX13_function_24 rfl rfl ?_
  refine zg_functions hX dX13_function_25 ?_
  refine zs_iconst (v := (-1)) hX dX13_function_28 (by decide) ?_
  obtain ⟨b7, h⟩ := zgd_e h
  obtain ⟨s8, e9, h⟩ := zlet_e h
  refine zt_fHad hX dX13_function_29 (zin_ok b7) ?_
  rw [← e9]
  refine zs_aload_n hX dX13_function_30 rfl rfl ?_
  refine zg_fMany hX dX13_function_31 ?_
  refine zs_aload_n hX dX13_function_34 rfl rfl ?_
  refine zg_functions hX dX13_function_35 ?_
  refine zs_iconst (v := 0) hX dX13_function_38 (by decide) ?_
  obtain ⟨b10, h⟩ := zgd_e h
  obtain ⟨s11, e12, h⟩ := zlet_e h
  refine zt_fMany hX dX13_function_39 (zin_ok b10) ?_
  rw [← e12]
  refine zs_aload_n hX dX13_function_40 rfl rfl ?_
  refine zs_dup hX dX13_function_41 rfl ?_
  refine zg_functions hX dX13_function_42 ?_
  refine zs_iconst (v := 1) hX dX13_function_45 (by decide) ?_
  refine zs_iadd hX dX13_function_46 ?_
  obtain ⟨s13, e14, h⟩ := zlet_e h
  refine zp_functions hX dX13_function_47 ?_
  rw [← e14]
  refine zs_aload_n hX dX13_function_50 rfl rfl ?_
  refine zg_functions hX dX13_function_51 ?_
  refine zs_iconst (v := 1) hX dX13_function_54 (by decide) ?_
  refine zs_isub hX dX13_function_55 ?_
  exact zs_iret hX dX13_function_56 rfl (Option.some.inj h)
def b_todo (n : Nat) (call : zCl) (h0 : Nat) (qs : List Nat) (ks : Nat → Nat) (x1 : Int32) (x2 : Int32) (x3 : Int32) (σ : zSt) : zRs :=
  zgd (zin (σ.1 189) 20000) (zlet (zA σ 116 (upd (σ.2.2.1 116) ((σ.1 189)).toNatClampNeg x1)) fun s2 =>
  zgd (zin (s2.1 189) 20000) (zlet (zA s2 117 (upd (s2.2.2.1 117) ((s2.1 189)).toNatClampNeg x2)) fun s5 =>
  zgd (zin (s5.1 189) 20000) (zlet (zA s5 118 (upd (s5.2.2.1 118) ((s5.1 189)).toNatClampNeg x3)) fun s8 =>
  zlet (zI s8 189 ((s8.1 189) + 1)) fun s10 =>
  some (none, s10))))
set_option maxHeartbeats 4000000 in
theorem pb_todo {h0 : Nat} {qs : List Nat} {ks : Nat → Nat} {n : Nat} {call : zCl} {kc : Nat → List Value → zSt → (Option Value → zSt → Prop) → Prop} {v : Option Value × zSt} {X : Nat → zLv → List Value → zSt → Prop} (hX : zSem cX13_todo 4 none h0 qs ks kc (fun r u => (r, u) = v) X) (hc : ∀ j av s w, call j av s = some w → kc j av s (fun r u => (r, u) = w)) {x1 : Int32} {x2 : Int32} {x3 : Int32} {σ : zSt} (h : b_todo n call h0 qs ks x1 x2 x3 σ = some v) : X 0 [some (.ref h0), some (.int x1), some (.int x2), some (.int x3)] [] σ := by
  rw [b_todo] at h
  refine zs_aload_n hX dX13_todo_0 rfl rfl ?_
  refine zg_doKind hX dX13_todo_1 ?_
  refine zs_aload_n hX dX13_todo_4 rfl rfl ?_
  refine zg_doing hX dX13_todo_5 ?_
  refine zs_iload_n hX dX13_todo_8 rfl rfl ?_
  obtain ⟨b1, h⟩ := zgd_e h
  obtain ⟨s2, e3, h⟩ := zlet_e h
  refine zt_doKind hX dX13_todo_9 (zin_ok b1) ?_
  rw [← e3]
  refine zs_aload_n hX dX13_todo_10 rfl rfl ?_
  refine zg_doWhat hX dX13_todo_11 ?_
  refine zs_aload_n hX dX13_todo_14 rfl rfl ?_
  refine zg_doing hX dX13_todo_15 ?_
  refine zs_iload_n hX dX13_todo_18 rfl rfl ?_
  obtain ⟨b4, h⟩ := zgd_e h
  obtain ⟨s5, e6, h⟩ := zlet_e h
  refine zt_doWhat hX dX13_todo_19 (zin_ok b4) ?_
  rw [← e6]
  refine zs_aload_n hX dX13_todo_20 rfl rfl ?_
  refine zg_doSlots hX dX13_todo_21 ?_
  refine zs_aload_n hX dX13_todo_24 rfl rfl ?_
  refine zg_doing hX dX13_todo_25 ?_
  refine zs_iload_n hX dX13_todo_28 rfl rfl ?_
  obtain ⟨b7, h⟩ := zgd_e h
  obtain ⟨s8, e9, h⟩ := zlet_e h
  refine zt_doSlots hX dX13_todo_29 (zin_ok b7) ?_
  rw [← e9]
  refine zs_aload_n hX dX13_todo_30 rfl rfl ?_
  refine zs_dup hX dX13_todo_31 rfl ?_
  refine zg_doing hX dX13_todo_32 ?_
  refine zs_iconst (v := 1) hX dX13_todo_35 (by decide) ?_
  refine zs_iadd hX dX13_todo_36 ?_
  obtain ⟨s10, e11, h⟩ := zlet_e h
  refine zp_doing hX dX13_todo_37 ?_
  rw [← e11]
  exact zs_vret hX dX13_todo_40 rfl (Option.some.inj h)
def b_then (n : Nat) (call : zCl) (h0 : Nat) (qs : List Nat) (ks : Nat → Nat) (x1 : Int32) (x2 : Int32) (σ : zSt) : zRs :=
  zlet (zI σ 194 x1) fun s1 =>
  zlet (zI s1 195 x2) fun s3 =>
  some (some (.int 1), s3)
set_option maxHeartbeats 4000000 in
theorem pb_then {h0 : Nat} {qs : List Nat} {ks : Nat → Nat} {n : Nat} {call : zCl} {kc : Nat → List Value → zSt → (Option Value → zSt → Prop) → Prop} {v : Option Value × zSt} {X : Nat → zLv → List Value → zSt → Prop} (hX : zSem cX13_then 3 (some .boolean) h0 qs ks kc (fun r u => (r, u) = v) X) (hc : ∀ j av s w, call j av s = some w → kc j av s (fun r u => (r, u) = w)) {x1 : Int32} {x2 : Int32} {σ : zSt} (h : b_then n call h0 qs ks x1 x2 σ = some v) : X 0 [some (.ref h0), some (.int x1), some (.int x2)] [] σ := by
  rw [b_then] at h
  refine zs_aload_n hX dX13_then_0 rfl rfl ?_
  refine zs_iload_n hX dX13_then_1 rfl rfl ?_
  obtain ⟨s1, e2, h⟩ := zlet_e h
  refine zp_nextNode hX dX13_then_2 ?_
  rw [← e2]
  refine zs_aload_n hX dX13_then_5 rfl rfl ?_
  refine zs_iload_n hX dX13_then_6 rfl rfl ?_
  obtain ⟨s3, e4, h⟩ := zlet_e h
  refine zp_nextSlots hX dX13_then_7 ?_
  rw [← e4]
  refine zs_iconst (v := 1) hX dX13_then_10 (by decide) ?_
  exact zs_zret hX dX13_then_11 rfl (by decide) (Option.some.inj h)
def b_sumValue (n : Nat) (call : zCl) (h0 : Nat) (qs : List Nat) (ks : Nat → Nat) (x1 : Int32) (x2 : Int32) (σ : zSt) : zRs :=
  zci (call 48 [.ref h0, .int x1] σ) fun r3 s1 =>
  if r3 = 0 then
    zcl' (call 125 [.ref h0, .int x1, .int x2] s1) fun r7 s5 =>
    zcv (call 128 [.ref h0, .int 0, .long r7] s5) fun s8 =>
    some (none, s8)
  else
    zgd (zin x1 2100) (
    zgd (zin (s1.2.2.1 13 (x1).toNatClampNeg) 2100) (
    zgd (zin (s1.2.2.1 18 ((s1.2.2.1 13 (x1).toNatClampNeg)).toNatClampNeg) 2010) (
    zci (call 122 [.ref h0, .int x2, .int (s1.2.2.1 32 ((s1.2.2.1 18 ((s1.2.2.1 13 (x1).toNatClampNeg)).toNatClampNeg)).toNatClampNeg)] s1) fun r15 s13 =>
    zgd (zin r15 260000) (
    zgd (zin r15 260000) (
    zcv (call 128 [.ref h0, .int (s13.2.2.1 106 (r15).toNatClampNeg), .long (s13.2.2.2 108 (r15).toNatClampNeg)] s13) fun s18 =>
    some (none, s18))))))
set_option maxHeartbeats 4000000 in
theorem pb_sumValue {h0 : Nat} {qs : List Nat} {ks : Nat → Nat} {n : Nat} {call : zCl} {kc : Nat → List Value → zSt → (Option Value → zSt → Prop) → Prop} {v : Option Value × zSt} {X : Nat → zLv → List Value → zSt → Prop} (hX : zSem cX13_sumValue 5 none h0 qs ks kc (fun r u => (r, u) = v) X) (hc : ∀ j av s w, call j av s = some w → kc j av s (fun r u => (r, u) = w)) {x1 : Int32} {x2 : Int32} {σ : zSt} (h : b_sumValue n call h0 qs ks x1 x2 σ = some v) : X 0 [some (.ref h0), some (.int x1), some (.int x2), none, none] [] σ := by
  rw [b_sumValue] at h
  refine zs_aload_n hX dX13_sumValue_0 rfl rfl ?_
  refine zs_iload_n hX dX13_sumValue_1 rfl rfl ?_
  obtain ⟨r3, s1, e2, h⟩ := zci_e h
  refine zc_isName hX dX13_sumValue_2 (Nat.le_of_ble_eq_true rfl) (hc _ _ _ _ e2) (fun r9 u9 h9 => ?_)
  cases h9
  refine zs_if_eq (tgt := 47) hX dX13_sumValue_5 (by decide) (fun c4 => ?_) (fun c4 => ?_)
  · rw [if_pos c4] at h
    refine zs_aload_n hX dX13_sumValue_47 rfl rfl ?_
    refine zs_iload_n hX dX13_sumValue_48 rfl rfl ?_
    refine zs_iload_n hX dX13_sumValue_49 rfl rfl ?_
    obtain ⟨r7, s5, e6, h⟩ := zcl'_e h
    refine zc_valueOf hX dX13_sumValue_50 (Nat.le_of_ble_eq_true rfl) (hc _ _ _ _ e6) (fun r9 u9 h9 => ?_)
    cases h9
    refine zs_lstore_n hX dX13_sumValue_53 rfl (by decide) rfl ?_
    dsimp only [List.set]
    refine zs_aload_n hX dX13_sumValue_54 rfl rfl ?_
    refine zs_iconst (v := 0) hX dX13_sumValue_55 (by decide) ?_
    refine zs_lload_n hX dX13_sumValue_56 rfl rfl ?_
    obtain ⟨s8, e9, h⟩ := zcv_e h
    refine zc_is hX dX13_sumValue_57 (Nat.le_of_ble_eq_true rfl) (hc _ _ _ _ e9) (fun u9 h9 => ?_)
    cases h9
    exact zs_vret hX dX13_sumValue_60 rfl (Option.some.inj h)
  · rw [if_neg c4] at h
    refine zs_aload_n hX dX13_sumValue_8 rfl rfl ?_
    refine zs_iload_n hX dX13_sumValue_9 rfl rfl ?_
    refine zs_aload_n hX dX13_sumValue_10 rfl rfl ?_
    refine zg_whose hX dX13_sumValue_11 ?_
    refine zs_aload_n hX dX13_sumValue_14 rfl rfl ?_
    refine zg_pWord hX dX13_sumValue_15 ?_
    refine zs_aload_n hX dX13_sumValue_18 rfl rfl ?_
    refine zg_sFrom hX dX13_sumValue_19 ?_
    refine zs_iload_n hX dX13_sumValue_22 rfl rfl ?_
    obtain ⟨b10, h⟩ := zgd_e h
    refine zl_sFrom hX dX13_sumValue_23 (zin_ok b10) ?_
    obtain ⟨b11, h⟩ := zgd_e h
    refine zl_pWord hX dX13_sumValue_24 (zin_ok b11) ?_
    obtain ⟨b12, h⟩ := zgd_e h
    refine zl_whose hX dX13_sumValue_25 (zin_ok b12) ?_
    obtain ⟨r15, s13, e14, h⟩ := zci_e h
    refine zc_find hX dX13_sumValue_26 (Nat.le_of_ble_eq_true rfl) (hc _ _ _ _ e14) (fun r9 u9 h9 => ?_)
    cases h9
    refine zs_istore_n hX dX13_sumValue_29 rfl (by decide) rfl ?_
    dsimp only [List.set]
    refine zs_aload_n hX dX13_sumValue_30 rfl rfl ?_
    refine zs_aload_n hX dX13_sumValue_31 rfl rfl ?_
    refine zg_slotKind hX dX13_sumValue_32 ?_
    refine zs_iload_n hX dX13_sumValue_35 rfl rfl ?_
    obtain ⟨b16, h⟩ := zgd_e h
    refine zl_slotKind hX dX13_sumValue_36 (zin_ok b16) ?_
    refine zs_aload_n hX dX13_sumValue_37 rfl rfl ?_
    refine zg_slotValue hX dX13_sumValue_38 ?_
    refine zs_iload_n hX dX13_sumValue_41 rfl rfl ?_
    obtain ⟨b17, h⟩ := zgd_e h
    refine zl_slotValue hX dX13_sumValue_42 (zin_ok b17) ?_
    obtain ⟨s18, e19, h⟩ := zcv_e h
    refine zc_is hX dX13_sumValue_43 (Nat.le_of_ble_eq_true rfl) (hc _ _ _ _ e19) (fun u9 h9 => ?_)
    cases h9
    exact zs_vret hX dX13_sumValue_46 rfl (Option.some.inj h)
def j_product_72 (n : Nat) (call : zCl) (h0 : Nat) (qs : List Nat) (ks : Nat → Nat) (x0 : Int64) (x2 : Int64) (x4 : Int64) (x6 : Int64) (t0 : Int32) (σ : zSt) : zRs :=
  zgd (decide (¬ x6 = 0)) (
  if (lg_cmp x4 (2199023255552 / x6)) ≤ 0 then
    some (some (.long (x0 * x2)), σ)
  else
    if t0 = 0 then
      some (some (.long 4398046511104), σ)
    else
      some (some (.long (-4398046511104)), σ))
def j_product_64 (n : Nat) (call : zCl) (h0 : Nat) (qs : List Nat) (ks : Nat → Nat) (x0 : Int64) (x2 : Int64) (x4 : Int64) (x6 : Int64) (t0 : Int32) (t1 : Int32) (σ : zSt) : zRs :=
  if t0 = t1 then
    j_product_72 n call h0 qs ks x0 x2 x4 x6 0 σ
  else
    j_product_72 n call h0 qs ks x0 x2 x4 x6 1 σ
def j_product_53 (n : Nat) (call : zCl) (h0 : Nat) (qs : List Nat) (ks : Nat → Nat) (x0 : Int64) (x2 : Int64) (x4 : Int64) (x6 : Int64) (t0 : Int32) (σ : zSt) : zRs :=
  if 0 ≤ (lg_cmp x2 0) then
    j_product_64 n call h0 qs ks x0 x2 x4 x6 t0 0 σ
  else
    j_product_64 n call h0 qs ks x0 x2 x4 x6 t0 1 σ
def j_product_40 (n : Nat) (call : zCl) (h0 : Nat) (qs : List Nat) (ks : Nat → Nat) (x0 : Int64) (x2 : Int64) (x4 : Int64) (t0 : Int64) (σ : zSt) : zRs :=
  if 0 ≤ (lg_cmp x0 0) then
    j_product_53 n call h0 qs ks x0 x2 x4 t0 0 σ
  else
    j_product_53 n call h0 qs ks x0 x2 x4 t0 1 σ
def j_product_26 (n : Nat) (call : zCl) (h0 : Nat) (qs : List Nat) (ks : Nat → Nat) (x0 : Int64) (x2 : Int64) (t0 : Int64) (σ : zSt) : zRs :=
  if 0 ≤ (lg_cmp x2 0) then
    j_product_40 n call h0 qs ks x0 x2 t0 x2 σ
  else
    j_product_40 n call h0 qs ks x0 x2 t0 (-x2) σ
def b_product (n : Nat) (call : zCl) (h0 : Nat) (qs : List Nat) (ks : Nat → Nat) (x0 : Int64) (x2 : Int64) (σ : zSt) : zRs :=
  if (lg_cmp x0 0) = 0 then
    some (some (.long 0), σ)
  else
    if (lg_cmp x2 0) = 0 then
      some (some (.long 0), σ)
    else
      if 0 ≤ (lg_cmp x0 0) then
        j_product_26 n call h0 qs ks x0 x2 x0 σ
      else
        j_product_26 n call h0 qs ks x0 x2 (-x0) σ
set_option maxHeartbeats 4000000 in
theorem pj_product_72 {h0 : Nat} {qs : List Nat} {ks : Nat → Nat} {n : Nat} {call : zCl} {kc : Nat → List Value → zSt → (Option Value → zSt → Prop) → Prop} {v : Option Value × zSt} {X : Nat → zLv → List Value → zSt → Prop} (hX : zSem cX13_product 9 (some .long) h0 qs ks kc (fun r u => (r, u) = v) X) (hc : ∀ j av s w, call j av s = some w → kc j av s (fun r u => (r, u) = w)) {x0 : Int64} {x2 : Int64} {x4 : Int64} {x6 : Int64} {t0 : Int32} {σ : zSt} (h : j_product_72 n call h0 qs ks x0 x2 x4 x6 t0 σ = some v) : X 72 [some (.long x0), none, some (.long x2), none, some (.long x4), none, some (.long x6), none, none] [.int t0] σ := by
  rw [j_product_72] at h
  refine zs_istore hX dX13_product_72 (by decide) rfl ?_
  dsimp only [List.set]
  refine zs_lload hX dX13_product_74 rfl ?_
  refine zs_ldc2 (v := 2199023255552) hX dX13_product_76 (by decide) ?_
  refine zs_lload hX dX13_product_79 rfl ?_
  obtain ⟨b1, h⟩ := zgd_e h
  refine zs_ldiv hX dX13_product_81 (znz_ok b1) ?_
  refine zs_lcmp hX dX13_product_82 ?_
  refine zs_if_le (tgt := 101) hX dX13_product_83 (by decide) (fun c2 => ?_) (fun c2 => ?_)
  · rw [if_pos c2] at h
    refine zs_lload_n hX dX13_product_101 rfl rfl ?_
    refine zs_lload_n hX dX13_product_102 rfl rfl ?_
    refine zs_lmul hX dX13_product_103 ?_
    exact zs_lret hX dX13_product_104 rfl (Option.some.inj h)
  · rw [if_neg c2] at h
    refine zs_iload hX dX13_product_86 rfl ?_
    refine zs_if_eq (tgt := 97) hX dX13_product_88 (by decide) (fun c3 => ?_) (fun c3 => ?_)
    · rw [if_pos c3] at h
      refine zs_ldc2 (v := 4398046511104) hX dX13_product_97 (by decide) ?_
      exact zs_lret hX dX13_product_100 rfl (Option.some.inj h)
    · rw [if_neg c3] at h
      refine zs_ldc2 (v := (-4398046511104)) hX dX13_product_91 (by decide) ?_
      refine zs_goto (tgt := 100) hX dX13_product_94 (by decide) ?_
      exact zs_lret hX dX13_product_100 rfl (Option.some.inj h)
set_option maxHeartbeats 4000000 in
theorem pj_product_64 {h0 : Nat} {qs : List Nat} {ks : Nat → Nat} {n : Nat} {call : zCl} {kc : Nat → List Value → zSt → (Option Value → zSt → Prop) → Prop} {v : Option Value × zSt} {X : Nat → zLv → List Value → zSt → Prop} (hX : zSem cX13_product 9 (some .long) h0 qs ks kc (fun r u => (r, u) = v) X) (hc : ∀ j av s w, call j av s = some w → kc j av s (fun r u => (r, u) = w)) {x0 : Int64} {x2 : Int64} {x4 : Int64} {x6 : Int64} {t0 : Int32} {t1 : Int32} {σ : zSt} (h : j_product_64 n call h0 qs ks x0 x2 x4 x6 t0 t1 σ = some v) : X 64 [some (.long x0), none, some (.long x2), none, some (.long x4), none, some (.long x6), none, none] [.int t1, .int t0] σ := by
  rw [j_product_64] at h
  refine zs_icmp_eq (tgt := 71) hX dX13_product_64 (by decide) (fun c1 => ?_) (fun c1 => ?_)
  · rw [if_pos c1] at h
    refine zs_iconst (v := 0) hX dX13_product_71 (by decide) ?_
    exact pj_product_72 hX hc h
  · rw [if_neg c1] at h
    refine zs_iconst (v := 1) hX dX13_product_67 (by decide) ?_
    refine zs_goto (tgt := 72) hX dX13_product_68 (by decide) ?_
    exact pj_product_72 hX hc h
set_option maxHeartbeats 4000000 in
theorem pj_product_53 {h0 : Nat} {qs : List Nat} {ks : Nat → Nat} {n : Nat} {call : zCl} {kc : Nat → List Value → zSt → (Option Value → zSt → Prop) → Prop} {v : Option Value × zSt} {X : Nat → zLv → List Value → zSt → Prop} (hX : zSem cX13_product 9 (some .long) h0 qs ks kc (fun r u => (r, u) = v) X) (hc : ∀ j av s w, call j av s = some w → kc j av s (fun r u => (r, u) = w)) {x0 : Int64} {x2 : Int64} {x4 : Int64} {x6 : Int64} {t0 : Int32} {σ : zSt} (h : j_product_53 n call h0 qs ks x0 x2 x4 x6 t0 σ = some v) : X 53 [some (.long x0), none, some (.long x2), none, some (.long x4), none, some (.long x6), none, none] [.int t0] σ := by
  rw [j_product_53] at h
  refine zs_lload_n hX dX13_product_53 rfl rfl ?_
  refine zs_lconst (v := 0) hX dX13_product_54 (by decide) ?_
  refine zs_lcmp hX dX13_product_55 ?_
  refine zs_if_ge (tgt := 63) hX dX13_product_56 (by decide) (fun c1 => ?_) (fun c1 => ?_)
  · rw [if_pos c1] at h
    refine zs_iconst (v := 0) hX dX13_product_63 (by decide) ?_
    exact pj_product_64 hX hc h
  · rw [if_neg c1] at h
    refine zs_iconst (v := 1) hX dX13_product_59 (by decide) ?_
    refine zs_goto (tgt := 64) hX dX13_product_60 (by decide) ?_
    exact pj_product_64 hX hc h
set_option maxHeartbeats 4000000 in
theorem pj_product_40 {h0 : Nat} {qs : List Nat} {ks : Nat → Nat} {n : Nat} {call : zCl} {kc : Nat → List Value → zSt → (Option Value → zSt → Prop) → Prop} {v : Option Value × zSt} {X : Nat → zLv → List Value → zSt → Prop} (hX : zSem cX13_product 9 (some .long) h0 qs ks kc (fun r u => (r, u) = v) X) (hc : ∀ j av s w, call j av s = some w → kc j av s (fun r u => (r, u) = w)) {x0 : Int64} {x2 : Int64} {x4 : Int64} {t0 : Int64} {σ : zSt} (h : j_product_40 n call h0 qs ks x0 x2 x4 t0 σ = some v) : X 40 [some (.long x0), none, some (.long x2), none, some (.long x4), none, none, none, none] [.long t0] σ := by
  rw [j_product_40] at h
  refine zs_lstore hX dX13_product_40 (by decide) rfl ?_
  dsimp only [List.set]
  refine zs_lload_n hX dX13_product_42 rfl rfl ?_
  refine zs_lconst (v := 0) hX dX13_product_43 (by decide) ?_
  refine zs_lcmp hX dX13_product_44 ?_
  refine zs_if_ge (tgt := 52) hX dX13_product_45 (by decide) (fun c1 => ?_) (fun c1 => ?_)
  · rw [if_pos c1] at h
    refine zs_iconst (v := 0) hX dX13_product_52 (by decide) ?_
    exact pj_product_53 hX hc h
  · rw [if_neg c1] at h
    refine zs_iconst (v := 1) hX dX13_product_48 (by decide) ?_
    refine zs_goto (tgt := 53) hX dX13_product_49 (by decide) ?_
    exact pj_product_53 hX hc h
set_option maxHeartbeats 4000000 in
theorem pj_product_26 {h0 : Nat} {qs : List Nat} {ks : Nat → Nat} {n : Nat} {call : zCl} {kc : Nat → List Value → zSt → (Option Value → zSt → Prop) → Prop} {v : Option Value × zSt} {X : Nat → zLv → List Value → zSt → Prop} (hX : zSem cX13_product 9 (some .long) h0 qs ks kc (fun r u => (r, u) = v) X) (hc : ∀ j av s w, call j av s = some w → kc j av s (fun r u => (r, u) = w)) {x0 : Int64} {x2 : Int64} {t0 : Int64} {σ : zSt} (h : j_product_26 n call h0 qs ks x0 x2 t0 σ = some v) : X 26 [some (.long x0), none, some (.long x2), none, none, none, none, none, none] [.long t0] σ := by
  rw [j_product_26] at h
  refine zs_lstore hX dX13_product_26 (by decide) rfl ?_
  dsimp only [List.set]
  refine zs_lload_n hX dX13_product_28 rfl rfl ?_
  refine zs_lconst (v := 0) hX dX13_product_29 (by decide) ?_
  refine zs_lcmp hX dX13_product_30 ?_
  refine zs_if_ge (tgt := 39) hX dX13_product_31 (by decide) (fun c1 => ?_) (fun c1 => ?_)
  · rw [if_pos c1] at h
    refine zs_lload_n hX dX13_product_39 rfl rfl ?_
    exact pj_product_40 hX hc h
  · rw [if_neg c1] at h
    refine zs_lload_n hX dX13_product_34 rfl rfl ?_
    refine zs_lneg hX dX13_product_35 ?_
    refine zs_goto (tgt := 40) hX dX13_product_36 (by decide) ?_
    exact pj_product_40 hX hc h
set_option maxHeartbeats 4000000 in
theorem pb_product {h0 : Nat} {qs : List Nat} {ks : Nat → Nat} {n : Nat} {call : zCl} {kc : Nat → List Value → zSt → (Option Value → zSt → Prop) → Prop} {v : Option Value × zSt} {X : Nat → zLv → List Value → zSt → Prop} (hX : zSem cX13_product 9 (some .long) h0 qs ks kc (fun r u => (r, u) = v) X) (hc : ∀ j av s w, call j av s = some w → kc j av s (fun r u => (r, u) = w)) {x0 : Int64} {x2 : Int64} {σ : zSt} (h : b_product n call h0 qs ks x0 x2 σ = some v) : X 0 [some (.long x0), none, some (.long x2), none, none, none, none, none, none] [] σ := by
  rw [b_product] at h
  refine zs_lload_n hX dX13_product_0 rfl rfl ?_
  refine zs_lconst (v := 0) hX dX13_product_1 (by decide) ?_
  refine zs_lcmp hX dX13_product_2 ?_
  refine zs_if_eq (tgt := 12) hX dX13_product_3 (by decide) (fun c1 => ?_) (fun c1 => ?_)
  · rw [if_pos c1] at h
    refine zs_lconst (v := 0) hX dX13_product_12 (by decide) ?_
    exact zs_lret hX dX13_product_13 rfl (Option.some.inj h)
  · rw [if_neg c1] at h
    refine zs_lload_n hX dX13_product_6 rfl rfl ?_
    refine zs_lconst (v := 0) hX dX13_product_7 (by decide) ?_
    refine zs_lcmp hX dX13_product_8 ?_
    refine zs_if_ne (tgt := 14) hX dX13_product_9 (by decide) (fun c2 => ?_) (fun c2 => ?_)
    · rw [if_neg c2] at h
      refine zs_lload_n hX dX13_product_14 rfl rfl ?_
      refine zs_lconst (v := 0) hX dX13_product_15 (by decide) ?_
      refine zs_lcmp hX dX13_product_16 ?_
      refine zs_if_ge (tgt := 25) hX dX13_product_17 (by decide) (fun c3 => ?_) (fun c3 => ?_)
      · rw [if_pos c3] at h
        refine zs_lload_n hX dX13_product_25 rfl rfl ?_
        exact pj_product_26 hX hc h
      · rw [if_neg c3] at h
        refine zs_lload_n hX dX13_product_20 rfl rfl ?_
        refine zs_lneg hX dX13_product_21 ?_
        refine zs_goto (tgt := 26) hX dX13_product_22 (by decide) ?_
        exact pj_product_26 hX hc h
    · rw [if_pos c2] at h
      refine zs_lconst (v := 0) hX dX13_product_12 (by decide) ?_
      exact zs_lret hX dX13_product_13 rfl (Option.some.inj h)
def j_applies_262 (n : Nat) (call : zCl) (h0 : Nat) (qs : List Nat) (ks : Nat → Nat) (k219 : Int32 → Int32 → Int32 → Int32 → zSt → zRs) (x3 : Int32) (x8 : Int32) (x9 : Int32) (x10 : Int32) (t0 : Int32) (σ : zSt) : zRs :=
  zgd (zin x10 260000) (
  zgd (zin x10 260000) (
  zci (call 121 [.ref h0, .int x8, .int t0, .int (σ.2.2.1 106 (x10).toNatClampNeg), .long (σ.2.2.2 108 (x10).toNatClampNeg)] σ) fun r5 s3 =>
  zgd (zin x10 260000) (
  k219 x3 r5 (x9 + (-1)) (s3.2.2.1 107 (x10).toNatClampNeg) s3)))
def l_applies_219 (n : Nat) (call : zCl) (h0 : Nat) (qs : List Nat) (ks : Nat → Nat) : Nat → Int32 → Int32 → Int32 → Int32 → zSt → zRs
  | 0, _, _, _, _, _ => none
  | f + 1, x3, x8, x9, x10, σ =>
    if x10 < 0 then
      zgd (zin x3 2100) (
      zci (call 131 [.ref h0, .int (σ.2.2.1 11 (x3).toNatClampNeg), .int x8] σ) fun r5 s3 =>
      zgd (zbo r5) (some (some (.int r5), s3)))
    else
      zgd (zin x3 2100) (
      if (σ.2.2.1 6 (x3).toNatClampNeg) = 3 then
        zgd (zin x3 2100) (
        zgd (zin (σ.2.2.1 9 (x3).toNatClampNeg) 2010) (
        j_applies_262 n call h0 qs ks (l_applies_219 n call h0 qs ks f) x3 x8 x9 x10 (σ.2.2.1 32 ((σ.2.2.1 9 (x3).toNatClampNeg)).toNatClampNeg) σ))
      else
        zgd (zin x3 2100) (
        zgd (zin ((σ.2.2.1 10 (x3).toNatClampNeg) + x9) 2010) (
        j_applies_262 n call h0 qs ks (l_applies_219 n call h0 qs ks f) x3 x8 x9 x10 (σ.2.2.1 32 (((σ.2.2.1 10 (x3).toNatClampNeg) + x9)).toNatClampNeg) σ)))
def j_applies_184 (n : Nat) (call : zCl) (h0 : Nat) (qs : List Nat) (ks : Nat → Nat) (x2 : Int32) (x3 : Int32) (x4 : Int32) (x6 : Int32) (σ : zSt) : zRs :=
  zlet (zI σ 190 ((σ.1 190) + 1)) fun s1 =>
  zcv (call 130 [.ref h0, .int 1, .int (-1), .int (-1)] s1) fun s3 =>
  zgd (zin x2 60000) (
  l_applies_219 n call h0 qs ks n x3 (s3.2.2.1 110 (x2).toNatClampNeg) (x4 - 1) x6 s3)
def j_applies_107 (n : Nat) (call : zCl) (h0 : Nat) (qs : List Nat) (ks : Nat → Nat) (x2 : Int32) (x3 : Int32) (x4 : Int32) (x5 : Int32) (x6 : Int32) (x7 : Int32) (σ : zSt) : zRs :=
  if x4 ≤ x7 then
    if (σ.1 190) = 50 then
      zlet (zI σ 191 2) fun s6 =>
      some (some (.int 0), s6)
    else
      if x5 < 0 then
        j_applies_184 n call h0 qs ks x2 x3 x4 x6 σ
      else
        zcv (call 130 [.ref h0, .int 2, .int x5, .int (-1)] σ) fun s4 =>
        j_applies_184 n call h0 qs ks x2 x3 x4 x6 s4
  else
    zgd (zin x2 60000) (
    zci (call 129 [.ref h0, .int x3, .int (σ.2.2.1 110 (x2).toNatClampNeg)] σ) fun r11 s9 =>
    zgd (zin r11 60000) (zlet (zA s9 111 (upd (s9.2.2.1 111) (r11).toNatClampNeg x6)) fun s13 =>
    zgd (zin r11 60000) (zlet (zA s13 112 (upd (s13.2.2.1 112) (r11).toNatClampNeg x7)) fun s16 =>
    zcv (call 128 [.ref h0, .int 3, .long ((r11).toInt64)] s16) fun s18 =>
    some (some (.int 0), s18))))
def l_applies_53 (n : Nat) (call : zCl) (h0 : Nat) (qs : List Nat) (ks : Nat → Nat) : Nat → Int32 → Int32 → Int32 → Int32 → Int32 → Int32 → zSt → zRs
  | 0, _, _, _, _, _, _, _ => none
  | f + 1, x2, x3, x4, x5, x6, x7, σ =>
    if x5 < 0 then
      j_applies_107 n call h0 qs ks x2 x3 x4 x5 x6 x7 σ
    else
      if x4 ≤ x7 then
        j_applies_107 n call h0 qs ks x2 x3 x4 x5 x6 x7 σ
      else
        zgd (zin x5 260000) (
        zgd (zin x5 260000) (
        zgd (zin x5 260000) (
        zci (call 121 [.ref h0, .int x6, .int (-1), .int (σ.2.2.1 106 (x5).toNatClampNeg), .long (σ.2.2.2 108 (x5).toNatClampNeg)] σ) fun r8 s6 =>
        l_applies_53 n call h0 qs ks f x2 x3 x4 (σ.2.2.1 107 (x5).toNatClampNeg) r8 (x7 + 1) s6)))
def j_applies_32 (n : Nat) (call : zCl) (h0 : Nat) (qs : List Nat) (ks : Nat → Nat) (x1 : Int32) (x2 : Int32) (x3 : Int32) (t0 : Int32) (σ : zSt) : zRs :=
  zgd (zin x2 60000) (
  zgd (zin x2 60000) (
  l_applies_53 n call h0 qs ks n x2 x3 t0 x1 (σ.2.2.1 111 (x2).toNatClampNeg) (σ.2.2.1 112 (x2).toNatClampNeg) σ))
def b_applies (n : Nat) (call : zCl) (h0 : Nat) (qs : List Nat) (ks : Nat → Nat) (x1 : Int32) (σ : zSt) : zRs :=
  zgd (zin (((σ.2.1 193)).toInt32) 60000) (
  zgd (zin (σ.2.2.1 109 (((σ.2.1 193)).toInt32).toNatClampNeg) 2100) (
  if (σ.2.2.1 6 ((σ.2.2.1 109 (((σ.2.1 193)).toInt32).toNatClampNeg)).toNatClampNeg) = 3 then
    j_applies_32 n call h0 qs ks x1 (((σ.2.1 193)).toInt32) (σ.2.2.1 109 (((σ.2.1 193)).toInt32).toNatClampNeg) 1 σ
  else
    zci (call 38 [.ref h0, .int (σ.2.2.1 109 (((σ.2.1 193)).toInt32).toNatClampNeg)] σ) fun r6 s4 =>
    j_applies_32 n call h0 qs ks x1 (((σ.2.1 193)).toInt32) (σ.2.2.1 109 (((σ.2.1 193)).toInt32).toNatClampNeg) r6 s4))
set_option maxHeartbeats 4000000 in
theorem pj_applies_262 {h0 : Nat} {qs : List Nat} {ks : Nat → Nat} {n : Nat} {call : zCl} {kc : Nat → List Value → zSt → (Option Value → zSt → Prop) → Prop} {v : Option Value × zSt} {X : Nat → zLv → List Value → zSt → Prop} (hX : zSem cX13_applies 12 (some .boolean) h0 qs ks kc (fun r u => (r, u) = v) X) (hc : ∀ j av s w, call j av s = some w → kc j av s (fun r u => (r, u) = w)) {k219 : Int32 → Int32 → Int32 → Int32 → zSt → zRs} (hk219 : ∀ (x3 : Int32) (x8 : Int32) (x9 : Int32) (x10 : Int32) (s : zSt), k219 x3 x8 x9 x10 s = some v → X 219 [some (.ref h0), none, none, some (.int x3), none, none, none, none, some (.int x8), some (.int x9), some (.int x10), none] [] s) {x3 : Int32} {x8 : Int32} {x9 : Int32} {x10 : Int32} {t0 : Int32} {σ : zSt} (h : j_applies_262 n call h0 qs ks k219 x3 x8 x9 x10 t0 σ = some v) : X 262 [some (.ref h0), none, none, some (.int x3), none, none, none, none, some (.int x8), some (.int x9), some (.int x10), none] [.int t0] σ := by
  rw [j_applies_262] at h
  refine zs_istore hX dX13_applies_262 (by decide) rfl ?_
  dsimp only [List.set]
  refine zs_aload_n hX dX13_applies_264 rfl rfl ?_
  refine zs_iload hX dX13_applies_265 rfl ?_
  refine zs_iload hX dX13_applies_267 rfl ?_
  refine zs_aload_n hX dX13_applies_269 rfl rfl ?_
  refine zg_slotKind hX dX13_applies_270 ?_
  refine zs_iload hX dX13_applies_273 rfl ?_
  obtain ⟨b1, h⟩ := zgd_e h
  refine zl_slotKind hX dX13_applies_275 (zin_ok b1) ?_
  refine zs_aload_n hX dX13_applies_276 rfl rfl ?_
  refine zg_slotValue hX dX13_applies_277 ?_
  refine zs_iload hX dX13_applies_280 rfl ?_
  obtain ⟨b2, h⟩ := zgd_e h
  refine zl_slotValue hX dX13_applies_282 (zin_ok b2) ?_
  obtain ⟨r5, s3, e4, h⟩ := zci_e h
  refine zc_slot hX dX13_applies_283 (Nat.le_of_ble_eq_true rfl) (hc _ _ _ _ e4) (fun r9 u9 h9 => ?_)
  cases h9
  refine zs_istore hX dX13_applies_286 (by decide) rfl ?_
  dsimp only [List.set]
  refine zs_iinc (v := x9 + (-1)) hX dX13_applies_288 rfl rfl (by decide) rfl ?_
  dsimp only [List.set]
  refine zs_aload_n hX dX13_applies_291 rfl rfl ?_
  refine zg_slotBefore hX dX13_applies_292 ?_
  refine zs_iload hX dX13_applies_295 rfl ?_
  obtain ⟨b6, h⟩ := zgd_e h
  refine zl_slotBefore hX dX13_applies_297 (zin_ok b6) ?_
  refine zs_istore hX dX13_applies_298 (by decide) rfl ?_
  dsimp only [List.set]
  refine zs_goto (tgt := 219) hX dX13_applies_300 (by decide) ?_
  refine zs_weak hX (lw := [some (.ref h0), none, none, some (.int x3), none, none, none, none, some (.int r5), some (.int (x9 + (-1))), some (.int (s3.2.2.1 107 (x10).toNatClampNeg)), none]) ⟨rfl, rfl, rfl, rfl, rfl, trivial⟩ ?_
  exact hk219 _ _ _ _ _ h
set_option maxHeartbeats 4000000 in
theorem pl_applies_219 {h0 : Nat} {qs : List Nat} {ks : Nat → Nat} {n : Nat} {call : zCl} {kc : Nat → List Value → zSt → (Option Value → zSt → Prop) → Prop} {v : Option Value × zSt} {X : Nat → zLv → List Value → zSt → Prop} (hX : zSem cX13_applies 12 (some .boolean) h0 qs ks kc (fun r u => (r, u) = v) X) (hc : ∀ j av s w, call j av s = some w → kc j av s (fun r u => (r, u) = w)) : ∀ (f : Nat) (x3 : Int32) (x8 : Int32) (x9 : Int32) (x10 : Int32) (σ : zSt), l_applies_219 n call h0 qs ks f x3 x8 x9 x10 σ = some v → X 219 [some (.ref h0), none, none, some (.int x3), none, none, none, none, some (.int x8), some (.int x9), some (.int x10), none] [] σ := by
  intro f
  induction f with
  | zero => intro x3 x8 x9 x10 σ h; cases h
  | succ f hk219 =>
    intro x3 x8 x9 x10 σ h
    rw [l_applies_219] at h
    refine zs_iload hX dX13_applies_219 rfl ?_
    refine zs_if_lt (tgt := 303) hX dX13_applies_221 (by decide) (fun c1 => ?_) (fun c1 => ?_)
    · rw [if_pos c1] at h
      refine zs_aload_n hX dX13_applies_303 rfl rfl ?_
      refine zs_aload_n hX dX13_applies_304 rfl rfl ?_
      refine zg_x3 hX dX13_applies_305 ?_
      refine zs_iload_n hX dX13_applies_308 rfl rfl ?_
      obtain ⟨b2, h⟩ := zgd_e h
      refine zl_x3 hX dX13_applies_309 (zin_ok b2) ?_
      refine zs_iload hX dX13_applies_310 rfl ?_
      obtain ⟨r5, s3, e4, h⟩ := zci_e h
      refine zc_then hX dX13_applies_312 (Nat.le_of_ble_eq_true rfl) (hc _ _ _ _ e4) (fun r9 u9 h9 => ?_)
      cases h9
      obtain ⟨b6, h⟩ := zgd_e h
      exact zs_zret hX dX13_applies_315 rfl (zbo_n b6) (Option.some.inj h)
    · rw [if_neg c1] at h
      refine zs_aload_n hX dX13_applies_224 rfl rfl ?_
      refine zg_kind hX dX13_applies_225 ?_
      refine zs_iload_n hX dX13_applies_228 rfl rfl ?_
      obtain ⟨b7, h⟩ := zgd_e h
      refine zl_kind hX dX13_applies_229 (zin_ok b7) ?_
      refine zs_iconst (v := 3) hX dX13_applies_230 (by decide) ?_
      refine zs_icmp_ne (tgt := 248) hX dX13_applies_231 (by decide) (fun c8 => ?_) (fun c8 => ?_)
      · rw [if_neg c8] at h
        refine zs_aload_n hX dX13_applies_248 rfl rfl ?_
        refine zg_whose hX dX13_applies_249 ?_
        refine zs_aload_n hX dX13_applies_252 rfl rfl ?_
        refine zg_x2 hX dX13_applies_253 ?_
        refine zs_iload_n hX dX13_applies_256 rfl rfl ?_
        obtain ⟨b9, h⟩ := zgd_e h
        refine zl_x2 hX dX13_applies_257 (zin_ok b9) ?_
        refine zs_iload hX dX13_applies_258 rfl ?_
        refine zs_iadd hX dX13_applies_260 ?_
        obtain ⟨b10, h⟩ := zgd_e h
        refine zl_whose hX dX13_applies_261 (zin_ok b10) ?_
        exact pj_applies_262 hX hc hk219 h
      · rw [if_pos c8] at h
        refine zs_aload_n hX dX13_applies_234 rfl rfl ?_
        refine zg_whose hX dX13_applies_235 ?_
        refine zs_aload_n hX dX13_applies_238 rfl rfl ?_
        refine zg_x1 hX dX13_applies_239 ?_
        refine zs_iload_n hX dX13_applies_242 rfl rfl ?_
        obtain ⟨b11, h⟩ := zgd_e h
        refine zl_x1 hX dX13_applies_243 (zin_ok b11) ?_
        obtain ⟨b12, h⟩ := zgd_e h
        refine zl_whose hX dX13_applies_244 (zin_ok b12) ?_
        refine zs_goto (tgt := 262) hX dX13_applies_245 (by decide) ?_
        exact pj_applies_262 hX hc hk219 h
set_option maxHeartbeats 4000000 in
theorem pj_applies_184 {h0 : Nat} {qs : List Nat} {ks : Nat → Nat} {n : Nat} {call : zCl} {kc : Nat → List Value → zSt → (Option Value → zSt → Prop) → Prop} {v : Option Value × zSt} {X : Nat → zLv → List Value → zSt → Prop} (hX : zSem cX13_applies 12 (some .boolean) h0 qs ks kc (fun r u => (r, u) = v) X) (hc : ∀ j av s w, call j av s = some w → kc j av s (fun r u => (r, u) = w)) {x2 : Int32} {x3 : Int32} {x4 : Int32} {x6 : Int32} {σ : zSt} (h : j_applies_184 n call h0 qs ks x2 x3 x4 x6 σ = some v) : X 184 [some (.ref h0), none, some (.int x2), some (.int x3), some (.int x4), none, some (.int x6), none, none, none, none, none] [] σ := by
  rw [j_applies_184] at h
  refine zs_aload_n hX dX13_applies_184 rfl rfl ?_
  refine zs_dup hX dX13_applies_185 rfl ?_
  refine zg_calls hX dX13_applies_186 ?_
  refine zs_iconst (v := 1) hX dX13_applies_189 (by decide) ?_
  refine zs_iadd hX dX13_applies_190 ?_
  obtain ⟨s1, e2, h⟩ := zlet_e h
  refine zp_calls hX dX13_applies_191 ?_
  rw [← e2]
  refine zs_aload_n hX dX13_applies_194 rfl rfl ?_
  refine zs_iconst (v := 1) hX dX13_applies_195 (by decide) ?_
  refine zs_iconst (v := (-1)) hX dX13_applies_196 (by decide) ?_
  refine zs_iconst (v := (-1)) hX dX13_applies_197 (by decide) ?_
  obtain ⟨s3, e4, h⟩ := zcv_e h
  refine zc_todo hX dX13_applies_198 (Nat.le_of_ble_eq_true rfl) (hc _ _ _ _ e4) (fun u9 h9 => ?_)
  cases h9
  refine zs_aload_n hX dX13_applies_201 rfl rfl ?_
  refine zg_fSlots hX dX13_applies_202 ?_
  refine zs_iload_n hX dX13_applies_205 rfl rfl ?_
  obtain ⟨b5, h⟩ := zgd_e h
  refine zl_fSlots hX dX13_applies_206 (zin_ok b5) ?_
  refine zs_istore hX dX13_applies_207 (by decide) rfl ?_
  dsimp only [List.set]
  refine zs_iload hX dX13_applies_209 rfl ?_
  refine zs_iconst (v := 1) hX dX13_applies_211 (by decide) ?_
  refine zs_isub hX dX13_applies_212 ?_
  refine zs_istore hX dX13_applies_213 (by decide) rfl ?_
  dsimp only [List.set]
  refine zs_iload hX dX13_applies_215 rfl ?_
  refine zs_istore hX dX13_applies_217 (by decide) rfl ?_
  dsimp only [List.set]
  refine zs_weak hX (lw := [some (.ref h0), none, none, some (.int x3), none, none, none, none, some (.int (s3.2.2.1 110 (x2).toNatClampNeg)), some (.int (x4 - 1)), some (.int x6), none]) ⟨rfl, rfl, rfl, rfl, rfl, trivial⟩ ?_
  exact pl_applies_219 hX hc n _ _ _ _ _ h
set_option maxHeartbeats 4000000 in
theorem pj_applies_107 {h0 : Nat} {qs : List Nat} {ks : Nat → Nat} {n : Nat} {call : zCl} {kc : Nat → List Value → zSt → (Option Value → zSt → Prop) → Prop} {v : Option Value × zSt} {X : Nat → zLv → List Value → zSt → Prop} (hX : zSem cX13_applies 12 (some .boolean) h0 qs ks kc (fun r u => (r, u) = v) X) (hc : ∀ j av s w, call j av s = some w → kc j av s (fun r u => (r, u) = w)) {x2 : Int32} {x3 : Int32} {x4 : Int32} {x5 : Int32} {x6 : Int32} {x7 : Int32} {σ : zSt} (h : j_applies_107 n call h0 qs ks x2 x3 x4 x5 x6 x7 σ = some v) : X 107 [some (.ref h0), none, some (.int x2), some (.int x3), some (.int x4), some (.int x5), some (.int x6), some (.int x7), none, none, none, none] [] σ := by
  rw [j_applies_107] at h
  refine zs_iload hX dX13_applies_107 rfl ?_
  refine zs_iload hX dX13_applies_109 rfl ?_
  refine zs_icmp_ge (tgt := 155) hX dX13_applies_111 (by decide) (fun c1 => ?_) (fun c1 => ?_)
  · rw [if_pos c1] at h
    refine zs_aload_n hX dX13_applies_155 rfl rfl ?_
    refine zg_calls hX dX13_applies_156 ?_
    refine zs_bipush (v := 50) hX dX13_applies_159 (by decide) ?_
    refine zs_icmp_ne (tgt := 171) hX dX13_applies_161 (by decide) (fun c2 => ?_) (fun c2 => ?_)
    · rw [if_neg c2] at h
      refine zs_iload hX dX13_applies_171 rfl ?_
      refine zs_if_lt (tgt := 184) hX dX13_applies_173 (by decide) (fun c3 => ?_) (fun c3 => ?_)
      · rw [if_pos c3] at h
        refine zs_weak hX (lw := [some (.ref h0), none, some (.int x2), some (.int x3), some (.int x4), none, some (.int x6), none, none, none, none, none]) ⟨rfl, rfl, rfl, rfl, rfl, trivial⟩ ?_
        exact pj_applies_184 hX hc h
      · rw [if_neg c3] at h
        refine zs_aload_n hX dX13_applies_176 rfl rfl ?_
        refine zs_iconst (v := 2) hX dX13_applies_177 (by decide) ?_
        refine zs_iload hX dX13_applies_178 rfl ?_
        refine zs_iconst (v := (-1)) hX dX13_applies_180 (by decide) ?_
        obtain ⟨s4, e5, h⟩ := zcv_e h
        refine zc_todo hX dX13_applies_181 (Nat.le_of_ble_eq_true rfl) (hc _ _ _ _ e5) (fun u9 h9 => ?_)
        cases h9
        refine zs_weak hX (lw := [some (.ref h0), none, some (.int x2), some (.int x3), some (.int x4), none, some (.int x6), none, none, none, none, none]) ⟨rfl, rfl, rfl, rfl, rfl, trivial⟩ ?_
        exact pj_applies_184 hX hc h
    · rw [if_pos c2] at h
      refine zs_aload_n hX dX13_applies_164 rfl rfl ?_
      refine zs_iconst (v := 2) hX dX13_applies_165 (by decide) ?_
      obtain ⟨s6, e7, h⟩ := zlet_e h
      refine zp_ends hX dX13_applies_166 ?_
      rw [← e7]
      refine zs_iconst (v := 0) hX dX13_applies_169 (by decide) ?_
      exact zs_zret hX dX13_applies_170 rfl (by decide) (Option.some.inj h)
  · rw [if_neg c1] at h
    refine zs_aload_n hX dX13_applies_114 rfl rfl ?_
    refine zs_iload_n hX dX13_applies_115 rfl rfl ?_
    refine zs_aload_n hX dX13_applies_116 rfl rfl ?_
    refine zg_fSlots hX dX13_applies_117 ?_
    refine zs_iload_n hX dX13_applies_120 rfl rfl ?_
    obtain ⟨b8, h⟩ := zgd_e h
    refine zl_fSlots hX dX13_applies_121 (zin_ok b8) ?_
    obtain ⟨r11, s9, e10, h⟩ := zci_e h
    refine zc_function hX dX13_applies_122 (Nat.le_of_ble_eq_true rfl) (hc _ _ _ _ e10) (fun r9 u9 h9 => ?_)
    cases h9
    refine zs_istore hX dX13_applies_125 (by decide) rfl ?_
    dsimp only [List.set]
    refine zs_aload_n hX dX13_applies_127 rfl rfl ?_
    refine zg_fHad hX dX13_applies_128 ?_
    refine zs_iload hX dX13_applies_131 rfl ?_
    refine zs_iload hX dX13_applies_133 rfl ?_
    obtain ⟨b12, h⟩ := zgd_e h
    obtain ⟨s13, e14, h⟩ := zlet_e h
    refine zt_fHad hX dX13_applies_135 (zin_ok b12) ?_
    rw [← e14]
    refine zs_aload_n hX dX13_applies_136 rfl rfl ?_
    refine zg_fMany hX dX13_applies_137 ?_
    refine zs_iload hX dX13_applies_140 rfl ?_
    refine zs_iload hX dX13_applies_142 rfl ?_
    obtain ⟨b15, h⟩ := zgd_e h
    obtain ⟨s16, e17, h⟩ := zlet_e h
    refine zt_fMany hX dX13_applies_144 (zin_ok b15) ?_
    rw [← e17]
    refine zs_aload_n hX dX13_applies_145 rfl rfl ?_
    refine zs_iconst (v := 3) hX dX13_applies_146 (by decide) ?_
    refine zs_iload hX dX13_applies_147 rfl ?_
    refine zs_i2l hX dX13_applies_149 ?_
    obtain ⟨s18, e19, h⟩ := zcv_e h
    refine zc_is hX dX13_applies_150 (Nat.le_of_ble_eq_true rfl) (hc _ _ _ _ e19) (fun u9 h9 => ?_)
    cases h9
    refine zs_iconst (v := 0) hX dX13_applies_153 (by decide) ?_
    exact zs_zret hX dX13_applies_154 rfl (by decide) (Option.some.inj h)
set_option maxHeartbeats 4000000 in
theorem pl_applies_53 {h0 : Nat} {qs : List Nat} {ks : Nat → Nat} {n : Nat} {call : zCl} {kc : Nat → List Value → zSt → (Option Value → zSt → Prop) → Prop} {v : Option Value × zSt} {X : Nat → zLv → List Value → zSt → Prop} (hX : zSem cX13_applies 12 (some .boolean) h0 qs ks kc (fun r u => (r, u) = v) X) (hc : ∀ j av s w, call j av s = some w → kc j av s (fun r u => (r, u) = w)) : ∀ (f : Nat) (x2 : Int32) (x3 : Int32) (x4 : Int32) (x5 : Int32) (x6 : Int32) (x7 : Int32) (σ : zSt), l_applies_53 n call h0 qs ks f x2 x3 x4 x5 x6 x7 σ = some v → X 53 [some (.ref h0), none, some (.int x2), some (.int x3), some (.int x4), some (.int x5), some (.int x6), some (.int x7), none, none, none, none] [] σ := by
  intro f
  induction f with
  | zero => intro x2 x3 x4 x5 x6 x7 σ h; cases h
  | succ f hk53 =>
    intro x2 x3 x4 x5 x6 x7 σ h
    rw [l_applies_53] at h
    refine zs_iload hX dX13_applies_53 rfl ?_
    refine zs_if_lt (tgt := 107) hX dX13_applies_55 (by decide) (fun c1 => ?_) (fun c1 => ?_)
    · rw [if_pos c1] at h
      exact pj_applies_107 hX hc h
    · rw [if_neg c1] at h
      refine zs_iload hX dX13_applies_58 rfl ?_
      refine zs_iload hX dX13_applies_60 rfl ?_
      refine zs_icmp_ge (tgt := 107) hX dX13_applies_62 (by decide) (fun c2 => ?_) (fun c2 => ?_)
      · rw [if_pos c2] at h
        exact pj_applies_107 hX hc h
      · rw [if_neg c2] at h
        refine zs_aload_n hX dX13_applies_65 rfl rfl ?_
        refine zg_slotBefore hX dX13_applies_66 ?_
        refine zs_iload hX dX13_applies_69 rfl ?_
        obtain ⟨b3, h⟩ := zgd_e h
        refine zl_slotBefore hX dX13_applies_71 (zin_ok b3) ?_
        refine zs_istore hX dX13_applies_72 (by decide) rfl ?_
        dsimp only [List.set]
        refine zs_aload_n hX dX13_applies_74 rfl rfl ?_
        refine zs_iload hX dX13_applies_75 rfl ?_
        refine zs_iconst (v := (-1)) hX dX13_applies_77 (by decide) ?_
        refine zs_aload_n hX dX13_applies_78 rfl rfl ?_
        refine zg_slotKind hX dX13_applies_79 ?_
        refine zs_iload hX dX13_applies_82 rfl ?_
        obtain ⟨b4, h⟩ := zgd_e h
        refine zl_slotKind hX dX13_applies_84 (zin_ok b4) ?_
        refine zs_aload_n hX dX13_applies_85 rfl rfl ?_
        refine zg_slotValue hX dX13_applies_86 ?_
        refine zs_iload hX dX13_applies_89 rfl ?_
        obtain ⟨b5, h⟩ := zgd_e h
        refine zl_slotValue hX dX13_applies_91 (zin_ok b5) ?_
        obtain ⟨r8, s6, e7, h⟩ := zci_e h
        refine zc_slot hX dX13_applies_92 (Nat.le_of_ble_eq_true rfl) (hc _ _ _ _ e7) (fun r9 u9 h9 => ?_)
        cases h9
        refine zs_istore hX dX13_applies_95 (by decide) rfl ?_
        dsimp only [List.set]
        refine zs_iinc (v := x7 + 1) hX dX13_applies_97 rfl rfl (by decide) rfl ?_
        dsimp only [List.set]
        refine zs_iload hX dX13_applies_100 rfl ?_
        refine zs_istore hX dX13_applies_102 (by decide) rfl ?_
        dsimp only [List.set]
        refine zs_goto (tgt := 53) hX dX13_applies_104 (by decide) ?_
        refine zs_weak hX (lw := [some (.ref h0), none, some (.int x2), some (.int x3), some (.int x4), some (.int (σ.2.2.1 107 (x5).toNatClampNeg)), some (.int r8), some (.int (x7 + 1)), none, none, none, none]) ⟨rfl, rfl, rfl, rfl, rfl, rfl, rfl, trivial⟩ ?_
        exact hk53 _ _ _ _ _ _ _ h
set_option maxHeartbeats 4000000 in
theorem pj_applies_32 {h0 : Nat} {qs : List Nat} {ks : Nat → Nat} {n : Nat} {call : zCl} {kc : Nat → List Value → zSt → (Option Value → zSt → Prop) → Prop} {v : Option Value × zSt} {X : Nat → zLv → List Value → zSt → Prop} (hX : zSem cX13_applies 12 (some .boolean) h0 qs ks kc (fun r u => (r, u) = v) X) (hc : ∀ j av s w, call j av s = some w → kc j av s (fun r u => (r, u) = w)) {x1 : Int32} {x2 : Int32} {x3 : Int32} {t0 : Int32} {σ : zSt} (h : j_applies_32 n call h0 qs ks x1 x2 x3 t0 σ = some v) : X 32 [some (.ref h0), some (.int x1), some (.int x2), some (.int x3), none, none, none, none, none, none, none, none] [.int t0] σ := by
  rw [j_applies_32] at h
  refine zs_istore hX dX13_applies_32 (by decide) rfl ?_
  dsimp only [List.set]
  refine zs_iload_n hX dX13_applies_34 rfl rfl ?_
  refine zs_istore hX dX13_applies_35 (by decide) rfl ?_
  dsimp only [List.set]
  refine zs_aload_n hX dX13_applies_37 rfl rfl ?_
  refine zg_fHad hX dX13_applies_38 ?_
  refine zs_iload_n hX dX13_applies_41 rfl rfl ?_
  obtain ⟨b1, h⟩ := zgd_e h
  refine zl_fHad hX dX13_applies_42 (zin_ok b1) ?_
  refine zs_istore hX dX13_applies_43 (by decide) rfl ?_
  dsimp only [List.set]
  refine zs_aload_n hX dX13_applies_45 rfl rfl ?_
  refine zg_fMany hX dX13_applies_46 ?_
  refine zs_iload_n hX dX13_applies_49 rfl rfl ?_
  obtain ⟨b2, h⟩ := zgd_e h
  refine zl_fMany hX dX13_applies_50 (zin_ok b2) ?_
  refine zs_istore hX dX13_applies_51 (by decide) rfl ?_
  dsimp only [List.set]
  refine zs_weak hX (lw := [some (.ref h0), none, some (.int x2), some (.int x3), some (.int t0), some (.int x1), some (.int (σ.2.2.1 111 (x2).toNatClampNeg)), some (.int (σ.2.2.1 112 (x2).toNatClampNeg)), none, none, none, none]) ⟨rfl, rfl, rfl, rfl, rfl, rfl, rfl, trivial⟩ ?_
  exact pl_applies_53 hX hc n _ _ _ _ _ _ _ h
set_option maxHeartbeats 4000000 in
theorem pb_applies {h0 : Nat} {qs : List Nat} {ks : Nat → Nat} {n : Nat} {call : zCl} {kc : Nat → List Value → zSt → (Option Value → zSt → Prop) → Prop} {v : Option Value × zSt} {X : Nat → zLv → List Value → zSt → Prop} (hX : zSem cX13_applies 12 (some .boolean) h0 qs ks kc (fun r u => (r, u) = v) X) (hc : ∀ j av s w, call j av s = some w → kc j av s (fun r u => (r, u) = w)) {x1 : Int32} {σ : zSt} (h : b_applies n call h0 qs ks x1 σ = some v) : X 0 [some (.ref h0), some (.int x1), none, none, none, none, none, none, none, none, none, none] [] σ := by
  rw [b_applies] at h
  refine zs_aload_n hX dX13_applies_0 rfl rfl ?_
  refine zg_vValue hX dX13_applies_1 ?_
  refine zs_l2i hX dX13_applies_4 ?_
  refine zs_istore_n hX dX13_applies_5 rfl (by decide) rfl ?_
  dsimp only [List.set]
  refine zs_aload_n hX dX13_applies_6 rfl rfl ?_
  refine zg_fNode hX dX13_applies_7 ?_
  refine zs_iload_n hX dX13_applies_10 rfl rfl ?_
  obtain ⟨b1, h⟩ := zgd_e h
  refine zl_fNode hX dX13_applies_11 (zin_ok b1) ?_
  refine zs_istore_n hX dX13_applies_12 rfl (by decide) rfl ?_
  dsimp only [List.set]
  refine zs_aload_n hX dX13_applies_13 rfl rfl ?_
  refine zg_kind hX dX13_applies_14 ?_
  refine zs_iload_n hX dX13_applies_17 rfl rfl ?_
  obtain ⟨b2, h⟩ := zgd_e h
  refine zl_kind hX dX13_applies_18 (zin_ok b2) ?_
  refine zs_iconst (v := 3) hX dX13_applies_19 (by decide) ?_
  refine zs_icmp_ne (tgt := 27) hX dX13_applies_20 (by decide) (fun c3 => ?_) (fun c3 => ?_)
  · rw [if_neg c3] at h
    refine zs_aload_n hX dX13_applies_27 rfl rfl ?_
    refine zs_iload_n hX dX13_applies_28 rfl rfl ?_
    obtain ⟨r6, s4, e5, h⟩ := zci_e h
    refine zc_parameters hX dX13_applies_29 (Nat.le_of_ble_eq_true rfl) (hc _ _ _ _ e5) (fun r9 u9 h9 => ?_)
    cases h9
    exact pj_applies_32 hX hc h
  · rw [if_pos c3] at h
    refine zs_iconst (v := 1) hX dX13_applies_23 (by decide) ?_
    refine zs_goto (tgt := 32) hX dX13_applies_24 (by decide) ?_
    exact pj_applies_32 hX hc h
def j_called_183 (n : Nat) (call : zCl) (h0 : Nat) (qs : List Nat) (ks : Nat → Nat) (k8 : Int32 → Int32 → Int32 → Int32 → Int32 → zSt → zRs) (x1 : Int32) (x2 : Int32) (x3 : Int32) (x5 : Int32) (x7 : Int32) (σ : zSt) : zRs :=
  k8 x1 x2 x3 x7 (x5 + 1) σ
def j_called_147 (n : Nat) (call : zCl) (h0 : Nat) (qs : List Nat) (ks : Nat → Nat) (k8 : Int32 → Int32 → Int32 → Int32 → Int32 → zSt → zRs) (x1 : Int32) (x2 : Int32) (x3 : Int32) (x4 : Int32) (x5 : Int32) (σ : zSt) : zRs :=
  zci (call 121 [.ref h0, .int (-1), .int (-1), .int (σ.1 192), .long (σ.2.1 193)] σ) fun r3 s1 =>
  if x4 < 0 then
    j_called_183 n call h0 qs ks k8 x1 x2 r3 x5 r3 s1
  else
    zgd (zin x4 260000) (zlet (zA s1 107 (upd (s1.2.2.1 107) (x4).toNatClampNeg r3)) fun s6 =>
    j_called_183 n call h0 qs ks k8 x1 x2 x3 x5 r3 s6)
def j_called_120 (n : Nat) (call : zCl) (h0 : Nat) (qs : List Nat) (ks : Nat → Nat) (k8 : Int32 → Int32 → Int32 → Int32 → Int32 → zSt → zRs) (x1 : Int32) (x2 : Int32) (x3 : Int32) (x4 : Int32) (x5 : Int32) (t1 : Int32) (t2 : Int64) (σ : zSt) : zRs :=
  zcv (call 128 [.ref h0, .int t1, .long t2] σ) fun s1 =>
  j_called_147 n call h0 qs ks k8 x1 x2 x3 x4 x5 s1
def l_called_8 (n : Nat) (call : zCl) (h0 : Nat) (qs : List Nat) (ks : Nat → Nat) : Nat → Int32 → Int32 → Int32 → Int32 → Int32 → zSt → zRs
  | 0, _, _, _, _, _, _ => none
  | f + 1, x1, x2, x3, x4, x5, σ =>
    zgd (zin x1 2100) (
    if (σ.2.2.1 11 (x1).toNatClampNeg) ≤ x5 then
      zgd (zin x1 2100) (
      zgd (zin (σ.2.2.1 9 (x1).toNatClampNeg) 2010) (
      zci (call 122 [.ref h0, .int x2, .int (σ.2.2.1 32 ((σ.2.2.1 9 (x1).toNatClampNeg)).toNatClampNeg)] σ) fun r7 s5 =>
      zgd (zin r7 260000) (
      zcv (call 128 [.ref h0, .int 3, .long (s5.2.2.2 108 (r7).toNatClampNeg)] s5) fun s9 =>
      zci (call 134 [.ref h0, .int x3] s9) fun r13 s11 =>
      zgd (zbo r13) (some (some (.int r13), s11)))))
    else
      zgd (zin x1 2100) (
      zgd (zin ((σ.2.2.1 10 (x1).toNatClampNeg) + x5) 2100) (
      if (σ.2.2.1 19 (((σ.2.2.1 10 (x1).toNatClampNeg) + x5)).toNatClampNeg) = 1 then
        if (σ.1 164) = 0 then
          zlet (zI σ 191 1) fun s35 =>
          some (some (.int 0), s35)
        else
          zlet (zI σ 164 ((σ.1 164) - 1)) fun s27 =>
          zcv (call 128 [.ref h0, .int 3, .long (((s27.1 176)).toInt64)] s27) fun s29 =>
          zgd (zin ((σ.2.2.1 10 (x1).toNatClampNeg) + x5) 2100) (
          zci (call 129 [.ref h0, .int (s29.2.2.1 20 (((σ.2.2.1 10 (x1).toNatClampNeg) + x5)).toNatClampNeg), .int x2] s29) fun r34 s32 =>
          j_called_147 n call h0 qs ks (l_called_8 n call h0 qs ks f) x1 x2 x3 x4 x5 s32)
      else
        zgd (zin ((σ.2.2.1 10 (x1).toNatClampNeg) + x5) 2100) (
        if (σ.2.2.1 19 (((σ.2.2.1 10 (x1).toNatClampNeg) + x5)).toNatClampNeg) ≤ 1 then
          zgd (zin ((σ.2.2.1 10 (x1).toNatClampNeg) + x5) 2100) (
          zcv (call 132 [.ref h0, .int (σ.2.2.1 20 (((σ.2.2.1 10 (x1).toNatClampNeg) + x5)).toNatClampNeg), .int x2] σ) fun s21 =>
          if (s21.1 191) = 0 then
            j_called_147 n call h0 qs ks (l_called_8 n call h0 qs ks f) x1 x2 x3 x4 x5 s21
          else
            some (some (.int 0), s21))
        else
          zgd (zin ((σ.2.2.1 10 (x1).toNatClampNeg) + x5) 2100) (
          if (σ.2.2.1 19 (((σ.2.2.1 10 (x1).toNatClampNeg) + x5)).toNatClampNeg) = 2 then
            j_called_120 n call h0 qs ks (l_called_8 n call h0 qs ks f) x1 x2 x3 x4 x5 1 1 σ
          else
            j_called_120 n call h0 qs ks (l_called_8 n call h0 qs ks f) x1 x2 x3 x4 x5 1 0 σ)))))
def b_called (n : Nat) (call : zCl) (h0 : Nat) (qs : List Nat) (ks : Nat → Nat) (x1 : Int32) (x2 : Int32) (σ : zSt) : zRs :=
  l_called_8 n call h0 qs ks n x1 x2 (-1) (-1) 0 σ
set_option maxHeartbeats 4000000 in
theorem pj_called_183 {h0 : Nat} {qs : List Nat} {ks : Nat → Nat} {n : Nat} {call : zCl} {kc : Nat → List Value → zSt → (Option Value → zSt → Prop) → Prop} {v : Option Value × zSt} {X : Nat → zLv → List Value → zSt → Prop} (hX : zSem cX13_called 8 (some .boolean) h0 qs ks kc (fun r u => (r, u) = v) X) (hc : ∀ j av s w, call j av s = some w → kc j av s (fun r u => (r, u) = w)) {k8 : Int32 → Int32 → Int32 → Int32 → Int32 → zSt → zRs} (hk8 : ∀ (x1 : Int32) (x2 : Int32) (x3 : Int32) (x4 : Int32) (x5 : Int32) (s : zSt), k8 x1 x2 x3 x4 x5 s = some v → X 8 [some (.ref h0), some (.int x1), some (.int x2), some (.int x3), some (.int x4), some (.int x5), none, none] [] s) {x1 : Int32} {x2 : Int32} {x3 : Int32} {x5 : Int32} {x7 : Int32} {σ : zSt} (h : j_called_183 n call h0 qs ks k8 x1 x2 x3 x5 x7 σ = some v) : X 183 [some (.ref h0), some (.int x1), some (.int x2), some (.int x3), none, some (.int x5), none, some (.int x7)] [] σ := by
  rw [j_called_183] at h
  refine zs_iload hX dX13_called_183 rfl ?_
  refine zs_istore hX dX13_called_185 (by decide) rfl ?_
  dsimp only [List.set]
  refine zs_iinc (v := x5 + 1) hX dX13_called_187 rfl rfl (by decide) rfl ?_
  dsimp only [List.set]
  refine zs_goto (tgt := 8) hX dX13_called_190 (by decide) ?_
  refine zs_weak hX (lw := [some (.ref h0), some (.int x1), some (.int x2), some (.int x3), some (.int x7), some (.int (x5 + 1)), none, none]) ⟨rfl, rfl, rfl, rfl, rfl, rfl, trivial⟩ ?_
  exact hk8 _ _ _ _ _ _ h
set_option maxHeartbeats 4000000 in
theorem pj_called_147 {h0 : Nat} {qs : List Nat} {ks : Nat → Nat} {n : Nat} {call : zCl} {kc : Nat → List Value → zSt → (Option Value → zSt → Prop) → Prop} {v : Option Value × zSt} {X : Nat → zLv → List Value → zSt → Prop} (hX : zSem cX13_called 8 (some .boolean) h0 qs ks kc (fun r u => (r, u) = v) X) (hc : ∀ j av s w, call j av s = some w → kc j av s (fun r u => (r, u) = w)) {k8 : Int32 → Int32 → Int32 → Int32 → Int32 → zSt → zRs} (hk8 : ∀ (x1 : Int32) (x2 : Int32) (x3 : Int32) (x4 : Int32) (x5 : Int32) (s : zSt), k8 x1 x2 x3 x4 x5 s = some v → X 8 [some (.ref h0), some (.int x1), some (.int x2), some (.int x3), some (.int x4), some (.int x5), none, none] [] s) {x1 : Int32} {x2 : Int32} {x3 : Int32} {x4 : Int32} {x5 : Int32} {σ : zSt} (h : j_called_147 n call h0 qs ks k8 x1 x2 x3 x4 x5 σ = some v) : X 147 [some (.ref h0), some (.int x1), some (.int x2), some (.int x3), some (.int x4), some (.int x5), none, none] [] σ := by
  rw [j_called_147] at h
  refine zs_aload_n hX dX13_called_147 rfl rfl ?_
  refine zs_iconst (v := (-1)) hX dX13_called_148 (by decide) ?_
  refine zs_iconst (v := (-1)) hX dX13_called_149 (by decide) ?_
  refine zs_aload_n hX dX13_called_150 rfl rfl ?_
  refine zg_vKind hX dX13_called_151 ?_
  refine zs_aload_n hX dX13_called_154 rfl rfl ?_
  refine zg_vValue hX dX13_called_155 ?_
  obtain ⟨r3, s1, e2, h⟩ := zci_e h
  refine zc_slot hX dX13_called_158 (Nat.le_of_ble_eq_true rfl) (hc _ _ _ _ e2) (fun r9 u9 h9 => ?_)
  cases h9
  refine zs_istore hX dX13_called_161 (by decide) rfl ?_
  dsimp only [List.set]
  refine zs_iload hX dX13_called_163 rfl ?_
  refine zs_if_lt (tgt := 180) hX dX13_called_165 (by decide) (fun c4 => ?_) (fun c4 => ?_)
  · rw [if_pos c4] at h
    refine zs_iload hX dX13_called_180 rfl ?_
    refine zs_istore_n hX dX13_called_182 rfl (by decide) rfl ?_
    dsimp only [List.set]
    refine zs_weak hX (lw := [some (.ref h0), some (.int x1), some (.int x2), some (.int r3), none, some (.int x5), none, some (.int r3)]) ⟨rfl, rfl, rfl, rfl, rfl, rfl, trivial⟩ ?_
    exact pj_called_183 hX hc hk8 h
  · rw [if_neg c4] at h
    refine zs_aload_n hX dX13_called_168 rfl rfl ?_
    refine zg_slotBefore hX dX13_called_169 ?_
    refine zs_iload hX dX13_called_172 rfl ?_
    refine zs_iload hX dX13_called_174 rfl ?_
    obtain ⟨b5, h⟩ := zgd_e h
    obtain ⟨s6, e7, h⟩ := zlet_e h
    refine zt_slotBefore hX dX13_called_176 (zin_ok b5) ?_
    rw [← e7]
    refine zs_goto (tgt := 183) hX dX13_called_177 (by decide) ?_
    refine zs_weak hX (lw := [some (.ref h0), some (.int x1), some (.int x2), some (.int x3), none, some (.int x5), none, some (.int r3)]) ⟨rfl, rfl, rfl, rfl, rfl, rfl, trivial⟩ ?_
    exact pj_called_183 hX hc hk8 h
set_option maxHeartbeats 4000000 in
theorem pj_called_120 {h0 : Nat} {qs : List Nat} {ks : Nat → Nat} {n : Nat} {call : zCl} {kc : Nat → List Value → zSt → (Option Value → zSt → Prop) → Prop} {v : Option Value × zSt} {X : Nat → zLv → List Value → zSt → Prop} (hX : zSem cX13_called 8 (some .boolean) h0 qs ks kc (fun r u => (r, u) = v) X) (hc : ∀ j av s w, call j av s = some w → kc j av s (fun r u => (r, u) = w)) {k8 : Int32 → Int32 → Int32 → Int32 → Int32 → zSt → zRs} (hk8 : ∀ (x1 : Int32) (x2 : Int32) (x3 : Int32) (x4 : Int32) (x5 : Int32) (s : zSt), k8 x1 x2 x3 x4 x5 s = some v → X 8 [some (.ref h0), some (.int x1), some (.int x2), some (.int x3), some (.int x4), some (.int x5), none, none] [] s) {x1 : Int32} {x2 : Int32} {x3 : Int32} {x4 : Int32} {x5 : Int32} {t1 : Int32} {t2 : Int64} {σ : zSt} (h : j_called_120 n call h0 qs ks k8 x1 x2 x3 x4 x5 t1 t2 σ = some v) : X 120 [some (.ref h0), some (.int x1), some (.int x2), some (.int x3), some (.int x4), some (.int x5), none, none] [.long t2, .int t1, .ref h0] σ := by
  rw [j_called_120] at h
  obtain ⟨s1, e2, h⟩ := zcv_e h
  refine zc_is hX dX13_called_120 (Nat.le_of_ble_eq_true rfl) (hc _ _ _ _ e2) (fun u9 h9 => ?_)
  cases h9
  refine zs_goto (tgt := 147) hX dX13_called_123 (by decide) ?_
  exact pj_called_147 hX hc hk8 h
set_option maxHeartbeats 4000000 in
theorem pl_called_8 {h0 : Nat} {qs : List Nat} {ks : Nat → Nat} {n : Nat} {call : zCl} {kc : Nat → List Value → zSt → (Option Value → zSt → Prop) → Prop} {v : Option Value × zSt} {X : Nat → zLv → List Value → zSt → Prop} (hX : zSem cX13_called 8 (some .boolean) h0 qs ks kc (fun r u => (r, u) = v) X) (hc : ∀ j av s w, call j av s = some w → kc j av s (fun r u => (r, u) = w)) : ∀ (f : Nat) (x1 : Int32) (x2 : Int32) (x3 : Int32) (x4 : Int32) (x5 : Int32) (σ : zSt), l_called_8 n call h0 qs ks f x1 x2 x3 x4 x5 σ = some v → X 8 [some (.ref h0), some (.int x1), some (.int x2), some (.int x3), some (.int x4), some (.int x5), none, none] [] σ := by
  intro f
  induction f with
  | zero => intro x1 x2 x3 x4 x5 σ h; cases h
  | succ f hk8 =>
    intro x1 x2 x3 x4 x5 σ h
    rw [l_called_8] at h
    refine zs_iload hX dX13_called_8 rfl ?_
    refine zs_aload_n hX dX13_called_10 rfl rfl ?_
    refine zg_x3 hX dX13_called_11 ?_
    refine zs_iload_n hX dX13_called_14 rfl rfl ?_
    obtain ⟨b1, h⟩ := zgd_e h
    refine zl_x3 hX dX13_called_15 (zin_ok b1) ?_
    refine zs_icmp_ge (tgt := 193) hX dX13_called_16 (by decide) (fun c2 => ?_) (fun c2 => ?_)
    · rw [if_pos c2] at h
      refine zs_aload_n hX dX13_called_193 rfl rfl ?_
      refine zs_iload_n hX dX13_called_194 rfl rfl ?_
      refine zs_aload_n hX dX13_called_195 rfl rfl ?_
      refine zg_whose hX dX13_called_196 ?_
      refine zs_aload_n hX dX13_called_199 rfl rfl ?_
      refine zg_x1 hX dX13_called_200 ?_
      refine zs_iload_n hX dX13_called_203 rfl rfl ?_
      obtain ⟨b3, h⟩ := zgd_e h
      refine zl_x1 hX dX13_called_204 (zin_ok b3) ?_
      obtain ⟨b4, h⟩ := zgd_e h
      refine zl_whose hX dX13_called_205 (zin_ok b4) ?_
      obtain ⟨r7, s5, e6, h⟩ := zci_e h
      refine zc_find hX dX13_called_206 (Nat.le_of_ble_eq_true rfl) (hc _ _ _ _ e6) (fun r9 u9 h9 => ?_)
      cases h9
      refine zs_istore hX dX13_called_209 (by decide) rfl ?_
      dsimp only [List.set]
      refine zs_aload_n hX dX13_called_211 rfl rfl ?_
      refine zs_iconst (v := 3) hX dX13_called_212 (by decide) ?_
      refine zs_aload_n hX dX13_called_213 rfl rfl ?_
      refine zg_slotValue hX dX13_called_214 ?_
      refine zs_iload hX dX13_called_217 rfl ?_
      obtain ⟨b8, h⟩ := zgd_e h
      refine zl_slotValue hX dX13_called_219 (zin_ok b8) ?_
      obtain ⟨s9, e10, h⟩ := zcv_e h
      refine zc_is hX dX13_called_220 (Nat.le_of_ble_eq_true rfl) (hc _ _ _ _ e10) (fun u9 h9 => ?_)
      cases h9
      refine zs_aload_n hX dX13_called_223 rfl rfl ?_
      refine zs_iload_n hX dX13_called_224 rfl rfl ?_
      obtain ⟨r13, s11, e12, h⟩ := zci_e h
      refine zc_applies hX dX13_called_225 (Nat.le_of_ble_eq_true rfl) (hc _ _ _ _ e12) (fun r9 u9 h9 => ?_)
      cases h9
      obtain ⟨b14, h⟩ := zgd_e h
      exact zs_zret hX dX13_called_228 rfl (zbo_n b14) (Option.some.inj h)
    · rw [if_neg c2] at h
      refine zs_aload_n hX dX13_called_19 rfl rfl ?_
      refine zg_x2 hX dX13_called_20 ?_
      refine zs_iload_n hX dX13_called_23 rfl rfl ?_
      obtain ⟨b15, h⟩ := zgd_e h
      refine zl_x2 hX dX13_called_24 (zin_ok b15) ?_
      refine zs_iload hX dX13_called_25 rfl ?_
      refine zs_iadd hX dX13_called_27 ?_
      refine zs_istore hX dX13_called_28 (by decide) rfl ?_
      dsimp only [List.set]
      refine zs_aload_n hX dX13_called_30 rfl rfl ?_
      refine zg_aKind hX dX13_called_31 ?_
      refine zs_iload hX dX13_called_34 rfl ?_
      obtain ⟨b16, h⟩ := zgd_e h
      refine zl_aKind hX dX13_called_36 (zin_ok b16) ?_
      refine zs_iconst (v := 1) hX dX13_called_37 (by decide) ?_
      refine zs_icmp_ne (tgt := 91) hX dX13_called_38 (by decide) (fun c17 => ?_) (fun c17 => ?_)
      · rw [if_neg c17] at h
        refine zs_aload_n hX dX13_called_91 rfl rfl ?_
        refine zg_aKind hX dX13_called_92 ?_
        refine zs_iload hX dX13_called_95 rfl ?_
        obtain ⟨b18, h⟩ := zgd_e h
        refine zl_aKind hX dX13_called_97 (zin_ok b18) ?_
        refine zs_iconst (v := 1) hX dX13_called_98 (by decide) ?_
        refine zs_icmp_le (tgt := 126) hX dX13_called_99 (by decide) (fun c19 => ?_) (fun c19 => ?_)
        · rw [if_pos c19] at h
          refine zs_aload_n hX dX13_called_126 rfl rfl ?_
          refine zs_aload_n hX dX13_called_127 rfl rfl ?_
          refine zg_aWhat hX dX13_called_128 ?_
          refine zs_iload hX dX13_called_131 rfl ?_
          obtain ⟨b20, h⟩ := zgd_e h
          refine zl_aWhat hX dX13_called_133 (zin_ok b20) ?_
          refine zs_iload_n hX dX13_called_134 rfl rfl ?_
          obtain ⟨s21, e22, h⟩ := zcv_e h
          refine zc_sumValue hX dX13_called_135 (Nat.le_of_ble_eq_true rfl) (hc _ _ _ _ e22) (fun u9 h9 => ?_)
          cases h9
          refine zs_aload_n hX dX13_called_138 rfl rfl ?_
          refine zg_ends hX dX13_called_139 ?_
          refine zs_if_eq (tgt := 147) hX dX13_called_142 (by decide) (fun c23 => ?_) (fun c23 => ?_)
          · rw [if_pos c23] at h
            refine zs_weak hX (lw := [some (.ref h0), some (.int x1), some (.int x2), some (.int x3), some (.int x4), some (.int x5), none, none]) ⟨rfl, rfl, rfl, rfl, rfl, rfl, trivial⟩ ?_
            exact pj_called_147 hX hc hk8 h
          · rw [if_neg c23] at h
            refine zs_iconst (v := 0) hX dX13_called_145 (by decide) ?_
            exact zs_zret hX dX13_called_146 rfl (by decide) (Option.some.inj h)
        · rw [if_neg c19] at h
          refine zs_aload_n hX dX13_called_102 rfl rfl ?_
          refine zs_iconst (v := 1) hX dX13_called_103 (by decide) ?_
          refine zs_aload_n hX dX13_called_104 rfl rfl ?_
          refine zg_aKind hX dX13_called_105 ?_
          refine zs_iload hX dX13_called_108 rfl ?_
          obtain ⟨b24, h⟩ := zgd_e h
          refine zl_aKind hX dX13_called_110 (zin_ok b24) ?_
          refine zs_iconst (v := 2) hX dX13_called_111 (by decide) ?_
          refine zs_icmp_ne (tgt := 119) hX dX13_called_112 (by decide) (fun c25 => ?_) (fun c25 => ?_)
          · rw [if_neg c25] at h
            refine zs_lconst (v := 0) hX dX13_called_119 (by decide) ?_
            refine zs_weak hX (lw := [some (.ref h0), some (.int x1), some (.int x2), some (.int x3), some (.int x4), some (.int x5), none, none]) ⟨rfl, rfl, rfl, rfl, rfl, rfl, trivial⟩ ?_
            exact pj_called_120 hX hc hk8 h
          · rw [if_pos c25] at h
            refine zs_lconst (v := 1) hX dX13_called_115 (by decide) ?_
            refine zs_goto (tgt := 120) hX dX13_called_116 (by decide) ?_
            refine zs_weak hX (lw := [some (.ref h0), some (.int x1), some (.int x2), some (.int x3), some (.int x4), some (.int x5), none, none]) ⟨rfl, rfl, rfl, rfl, rfl, rfl, trivial⟩ ?_
            exact pj_called_120 hX hc hk8 h
      · rw [if_pos c17] at h
        refine zs_aload_n hX dX13_called_41 rfl rfl ?_
        refine zg_left hX dX13_called_42 ?_
        refine zs_if_ne (tgt := 55) hX dX13_called_45 (by decide) (fun c26 => ?_) (fun c26 => ?_)
        · rw [if_neg c26] at h
          refine zs_aload_n hX dX13_called_55 rfl rfl ?_
          refine zs_dup hX dX13_called_56 rfl ?_
          refine zg_left hX dX13_called_57 ?_
          refine zs_iconst (v := 1) hX dX13_called_60 (by decide) ?_
          refine zs_isub hX dX13_called_61 ?_
          obtain ⟨s27, e28, h⟩ := zlet_e h
          refine zp_left hX dX13_called_62 ?_
          rw [← e28]
          refine zs_aload_n hX dX13_called_65 rfl rfl ?_
          refine zs_iconst (v := 3) hX dX13_called_66 (by decide) ?_
          refine zs_aload_n hX dX13_called_67 rfl rfl ?_
          refine zg_functions hX dX13_called_68 ?_
          refine zs_i2l hX dX13_called_71 ?_
          obtain ⟨s29, e30, h⟩ := zcv_e h
          refine zc_is hX dX13_called_72 (Nat.le_of_ble_eq_true rfl) (hc _ _ _ _ e30) (fun u9 h9 => ?_)
          cases h9
          refine zs_aload_n hX dX13_called_75 rfl rfl ?_
          refine zs_aload_n hX dX13_called_76 rfl rfl ?_
          refine zg_aWhat hX dX13_called_77 ?_
          refine zs_iload hX dX13_called_80 rfl ?_
          obtain ⟨b31, h⟩ := zgd_e h
          refine zl_aWhat hX dX13_called_82 (zin_ok b31) ?_
          refine zs_iload_n hX dX13_called_83 rfl rfl ?_
          obtain ⟨r34, s32, e33, h⟩ := zci_e h
          refine zc_function hX dX13_called_84 (Nat.le_of_ble_eq_true rfl) (hc _ _ _ _ e33) (fun r9 u9 h9 => ?_)
          cases h9
          refine zs_pop hX dX13_called_87 rfl ?_
          refine zs_goto (tgt := 147) hX dX13_called_88 (by decide) ?_
          refine zs_weak hX (lw := [some (.ref h0), some (.int x1), some (.int x2), some (.int x3), some (.int x4), some (.int x5), none, none]) ⟨rfl, rfl, rfl, rfl, rfl, rfl, trivial⟩ ?_
          exact pj_called_147 hX hc hk8 h
        · rw [if_pos c26] at h
          refine zs_aload_n hX dX13_called_48 rfl rfl ?_
          refine zs_iconst (v := 1) hX dX13_called_49 (by decide) ?_
          obtain ⟨s35, e36, h⟩ := zlet_e h
          refine zp_ends hX dX13_called_50 ?_
          rw [← e36]
          refine zs_iconst (v := 0) hX dX13_called_53 (by decide) ?_
          exact zs_zret hX dX13_called_54 rfl (by decide) (Option.some.inj h)
set_option maxHeartbeats 4000000 in
theorem pb_called {h0 : Nat} {qs : List Nat} {ks : Nat → Nat} {n : Nat} {call : zCl} {kc : Nat → List Value → zSt → (Option Value → zSt → Prop) → Prop} {v : Option Value × zSt} {X : Nat → zLv → List Value → zSt → Prop} (hX : zSem cX13_called 8 (some .boolean) h0 qs ks kc (fun r u => (r, u) = v) X) (hc : ∀ j av s w, call j av s = some w → kc j av s (fun r u => (r, u) = w)) {x1 : Int32} {x2 : Int32} {σ : zSt} (h : b_called n call h0 qs ks x1 x2 σ = some v) : X 0 [some (.ref h0), some (.int x1), some (.int x2), none, none, none, none, none] [] σ := by
  rw [b_called] at h
  refine zs_iconst (v := (-1)) hX dX13_called_0 (by decide) ?_
  refine zs_istore_n hX dX13_called_1 rfl (by decide) rfl ?_
  dsimp only [List.set]
  refine zs_iconst (v := (-1)) hX dX13_called_2 (by decide) ?_
  refine zs_istore hX dX13_called_3 (by decide) rfl ?_
  dsimp only [List.set]
  refine zs_iconst (v := 0) hX dX13_called_5 (by decide) ?_
  refine zs_istore hX dX13_called_6 (by decide) rfl ?_
  dsimp only [List.set]
  exact pl_called_8 hX hc n _ _ _ _ _ _ h
def j_begun_682 (n : Nat) (call : zCl) (h0 : Nat) (qs : List Nat) (ks : Nat → Nat) (σ : zSt) : zRs :=
  zlet (zI σ 191 5) fun s1 =>
  some (some (.int 0), s1)
def j_begun_610 (n : Nat) (call : zCl) (h0 : Nat) (qs : List Nat) (ks : Nat → Nat) (t1 : Int32) (t3 : Int64) (σ : zSt) : zRs :=
  zcl' (call 123 [.ref h0, .long t3] σ) fun r3 s1 =>
  zcv (call 128 [.ref h0, .int t1, .long r3] s1) fun s4 =>
  some (some (.int 0), s4)
def j_begun_562 (n : Nat) (call : zCl) (h0 : Nat) (qs : List Nat) (ks : Nat → Nat) (x1 : Int32) (x3 : Int64) (x5 : Int64) (t0 : Int64) (σ : zSt) : zRs :=
  zgd (zin x1 2100) (
  if (σ.2.2.1 6 (x1).toNatClampNeg) = 11 then
    zcl' (call 133 [.long x3, .long x5] σ) fun r7 s5 =>
    j_begun_610 n call h0 qs ks 0 r7 s5
  else
    zgd (zin x1 2100) (
    if (σ.2.2.1 6 (x1).toNatClampNeg) = 12 then
      j_begun_610 n call h0 qs ks 0 t0 σ
    else
      j_begun_610 n call h0 qs ks 0 (x3 - (x5 * t0)) σ))
def j_begun_541 (n : Nat) (call : zCl) (h0 : Nat) (qs : List Nat) (ks : Nat → Nat) (x1 : Int32) (x3 : Int64) (x5 : Int64) (σ : zSt) : zRs :=
  zgd (zin x1 2100) (
  if (σ.2.2.1 6 (x1).toNatClampNeg) = 11 then
    j_begun_562 n call h0 qs ks x1 x3 x5 0 σ
  else
    zcl' (call 86 [.long x3, .long x5] σ) fun r5 s3 =>
    j_begun_562 n call h0 qs ks x1 x3 x5 r5 s3)
def j_begun_455 (n : Nat) (call : zCl) (h0 : Nat) (qs : List Nat) (ks : Nat → Nat) (t1 : Int32) (t2 : Int64) (σ : zSt) : zRs :=
  zcv (call 128 [.ref h0, .int t1, .long t2] σ) fun s1 =>
  some (some (.int 0), s1)
def j_begun_347 (n : Nat) (call : zCl) (h0 : Nat) (qs : List Nat) (ks : Nat → Nat) (σ : zSt) : zRs :=
  zlet (zI σ 191 5) fun s1 =>
  some (some (.int 0), s1)
def j_begun_256 (n : Nat) (call : zCl) (h0 : Nat) (qs : List Nat) (ks : Nat → Nat) (x1 : Int32) (x2 : Int32) (σ : zSt) : zRs :=
  if (σ.1 191) = 0 then
    zgd (zin x1 2100) (
    zci (call 131 [.ref h0, .int (σ.2.2.1 11 (x1).toNatClampNeg), .int x2] σ) fun r5 s3 =>
    if r5 = 0 then
      some (some (.int 0), s3)
    else
      some (some (.int 1), s3))
  else
    some (some (.int 0), σ)
def j_begun_215 (n : Nat) (call : zCl) (h0 : Nat) (qs : List Nat) (ks : Nat → Nat) (x2 : Int32) (t1 : Int32) (σ : zSt) : zRs :=
  zci (call 131 [.ref h0, .int t1, .int x2] σ) fun r3 s1 =>
  if r3 = 0 then
    some (some (.int 0), s1)
  else
    some (some (.int 1), s1)
def b_begun (n : Nat) (call : zCl) (h0 : Nat) (qs : List Nat) (ks : Nat → Nat) (x1 : Int32) (x2 : Int32) (σ : zSt) : zRs :=
  zgd (zin x1 2100) (
  if (σ.2.2.1 6 (x1).toNatClampNeg) = 1 then
    zcv (call 130 [.ref h0, .int 0, .int x1, .int x2] σ) fun s3 =>
    zgd (zin x1 2100) (
    zci (call 131 [.ref h0, .int (s3.2.2.1 11 (x1).toNatClampNeg), .int x2] s3) fun r8 s6 =>
    zgd (zbo r8) (some (some (.int r8), s6)))
  else
  if (σ.2.2.1 6 (x1).toNatClampNeg) = 2 then
    zgd (zin x1 2100) (
    zgd (zin (σ.2.2.1 9 (x1).toNatClampNeg) 2010) (
    zci (call 121 [.ref h0, .int x2, .int (σ.2.2.1 32 ((σ.2.2.1 9 (x1).toNatClampNeg)).toNatClampNeg), .int 3, .long (((σ.1 176)).toInt64)] σ) fun r15 s13 =>
    zci (call 129 [.ref h0, .int x1, .int r15] s13) fun r18 s16 =>
    zgd (zin x1 2100) (
    zci (call 131 [.ref h0, .int (s16.2.2.1 12 (x1).toNatClampNeg), .int r15] s16) fun r22 s20 =>
    zgd (zbo r22) (some (some (.int r22), s20)))))
  else
  if (σ.2.2.1 6 (x1).toNatClampNeg) = 3 then
    zcv (call 128 [.ref h0, .int 3, .long (((σ.1 176)).toInt64)] σ) fun s25 =>
    zci (call 129 [.ref h0, .int x1, .int x2] s25) fun r29 s27 =>
    some (some (.int 0), s27)
  else
  if (σ.2.2.1 6 (x1).toNatClampNeg) = 4 then
    zgd (zin x1 2100) (
    zci (call 126 [.ref h0, .int (σ.2.2.1 9 (x1).toNatClampNeg), .int x2] σ) fun r34 s32 =>
    if (s32.1 191) = 0 then
      if r34 = 0 then
        zgd (zin x1 2100) (
        j_begun_215 n call h0 qs ks x2 (s32.2.2.1 12 (x1).toNatClampNeg) s32)
      else
        zgd (zin x1 2100) (
        j_begun_215 n call h0 qs ks x2 (s32.2.2.1 11 (x1).toNatClampNeg) s32)
    else
      some (some (.int 0), s32))
  else
  if (σ.2.2.1 6 (x1).toNatClampNeg) = 5 then
    zgd (zin x1 2100) (
    zci (call 126 [.ref h0, .int (σ.2.2.1 9 (x1).toNatClampNeg), .int x2] σ) fun r43 s41 =>
    if (s41.1 191) = 0 then
      if r43 = 0 then
        zlet (zI s41 191 3) fun s46 =>
        j_begun_256 n call h0 qs ks x1 x2 s46
      else
        j_begun_256 n call h0 qs ks x1 x2 s41
    else
      j_begun_256 n call h0 qs ks x1 x2 s41)
  else
  if (σ.2.2.1 6 (x1).toNatClampNeg) = 6 then
    zgd (zin x1 2100) (
    zcl' (call 125 [.ref h0, .int (σ.2.2.1 10 (x1).toNatClampNeg), .int x2] σ) fun r52 s50 =>
    if (s50.1 191) = 0 then
      zgd (zin x1 2100) (
      zgd (zin (s50.2.2.1 9 (x1).toNatClampNeg) 2010) (
      zci (call 122 [.ref h0, .int x2, .int (s50.2.2.1 32 ((s50.2.2.1 9 (x1).toNatClampNeg)).toNatClampNeg)] s50) fun r58 s56 =>
      zgd (zin r58 260000) (
      if (lg_cmp r52 0) < 0 then
        j_begun_347 n call h0 qs ks s56
      else
        zgd (zin (((s56.2.2.2 108 (r58).toNatClampNeg)).toInt32) 21000) (
        if (lg_cmp r52 (((s56.2.2.1 114 (((s56.2.2.2 108 (r58).toNatClampNeg)).toInt32).toNatClampNeg)).toInt64)) < 0 then
          zgd (zin x1 2100) (
          zcl' (call 125 [.ref h0, .int (s56.2.2.1 11 (x1).toNatClampNeg), .int x2] s56) fun r66 s64 =>
          if (s64.1 191) = 0 then
            zgd (zin (((s56.2.2.2 108 (r58).toNatClampNeg)).toInt32) 21000) (
            zgd (zin ((s64.2.2.1 113 (((s56.2.2.2 108 (r58).toNatClampNeg)).toInt32).toNatClampNeg) + ((r52).toInt32)) 11000) (zlet (zG s64 115 (vp_updL (s64.2.2.2 115) (((s64.2.2.1 113 (((s56.2.2.2 108 (r58).toNatClampNeg)).toInt32).toNatClampNeg) + ((r52).toInt32))).toNatClampNeg r66)) fun s70 =>
            zgd (zin x1 2100) (
            zci (call 131 [.ref h0, .int (s70.2.2.1 12 (x1).toNatClampNeg), .int x2] s70) fun r75 s73 =>
            zgd (zbo r75) (some (some (.int r75), s73)))))
          else
            some (some (.int 0), s64))
        else
          j_begun_347 n call h0 qs ks s56))))
    else
      some (some (.int 0), s50))
  else
  if (σ.2.2.1 6 (x1).toNatClampNeg) = 7 then
    zgd (zin x1 2100) (
    zcl' (call 125 [.ref h0, .int (σ.2.2.1 10 (x1).toNatClampNeg), .int x2] σ) fun r81 s79 =>
    if (s79.1 191) = 0 then
      zci (call 127 [.ref h0, .long r81] s79) fun r85 s83 =>
      zcv (call 128 [.ref h0, .int 2, .long ((r85).toInt64)] s83) fun s86 =>
      some (some (.int 0), s86)
    else
      some (some (.int 0), s79))
  else
  if (σ.2.2.1 6 (x1).toNatClampNeg) = 8 then
    zgd (zin x1 2100) (
    if (σ.2.2.1 6 (x1).toNatClampNeg) = 8 then
      j_begun_455 n call h0 qs ks 1 1 σ
    else
      j_begun_455 n call h0 qs ks 1 0 σ)
  else
  if (σ.2.2.1 6 (x1).toNatClampNeg) = 9 then
    zgd (zin x1 2100) (
    if (σ.2.2.1 6 (x1).toNatClampNeg) = 8 then
      j_begun_455 n call h0 qs ks 1 1 σ
    else
      j_begun_455 n call h0 qs ks 1 0 σ)
  else
  if (σ.2.2.1 6 (x1).toNatClampNeg) = 10 then
    zgd (zin x1 2100) (
    zcv (call 132 [.ref h0, .int (σ.2.2.1 10 (x1).toNatClampNeg), .int x2] σ) fun s96 =>
    some (some (.int 0), s96))
  else
  if (σ.2.2.1 6 (x1).toNatClampNeg) = 11 then
    zgd (zin x1 2100) (
    zcl' (call 125 [.ref h0, .int (σ.2.2.1 10 (x1).toNatClampNeg), .int x2] σ) fun r102 s100 =>
    if (s100.1 191) = 0 then
      zgd (zin x1 2100) (
      zcl' (call 125 [.ref h0, .int (s100.2.2.1 11 (x1).toNatClampNeg), .int x2] s100) fun r107 s105 =>
      if (s105.1 191) = 0 then
        zgd (zin x1 2100) (
        if (s105.2.2.1 6 (x1).toNatClampNeg) = 11 then
          j_begun_541 n call h0 qs ks x1 r102 r107 s105
        else
          if (lg_cmp r107 0) = 0 then
            zlet (zI s105 191 4) fun s112 =>
            some (some (.int 0), s112)
          else
            j_begun_541 n call h0 qs ks x1 r102 r107 s105)
      else
        some (some (.int 0), s105))
    else
      some (some (.int 0), s100))
  else
  if (σ.2.2.1 6 (x1).toNatClampNeg) = 12 then
    zgd (zin x1 2100) (
    zcl' (call 125 [.ref h0, .int (σ.2.2.1 10 (x1).toNatClampNeg), .int x2] σ) fun r118 s116 =>
    if (s116.1 191) = 0 then
      zgd (zin x1 2100) (
      zcl' (call 125 [.ref h0, .int (s116.2.2.1 11 (x1).toNatClampNeg), .int x2] s116) fun r123 s121 =>
      if (s121.1 191) = 0 then
        zgd (zin x1 2100) (
        if (s121.2.2.1 6 (x1).toNatClampNeg) = 11 then
          j_begun_541 n call h0 qs ks x1 r118 r123 s121
        else
          if (lg_cmp r123 0) = 0 then
            zlet (zI s121 191 4) fun s128 =>
            some (some (.int 0), s128)
          else
            j_begun_541 n call h0 qs ks x1 r118 r123 s121)
      else
        some (some (.int 0), s121))
    else
      some (some (.int 0), s116))
  else
  if (σ.2.2.1 6 (x1).toNatClampNeg) = 13 then
    zgd (zin x1 2100) (
    zcl' (call 125 [.ref h0, .int (σ.2.2.1 10 (x1).toNatClampNeg), .int x2] σ) fun r134 s132 =>
    if (s132.1 191) = 0 then
      zgd (zin x1 2100) (
      zcl' (call 125 [.ref h0, .int (s132.2.2.1 11 (x1).toNatClampNeg), .int x2] s132) fun r139 s137 =>
      if (s137.1 191) = 0 then
        zgd (zin x1 2100) (
        if (s137.2.2.1 6 (x1).toNatClampNeg) = 11 then
          j_begun_541 n call h0 qs ks x1 r134 r139 s137
        else
          if (lg_cmp r139 0) = 0 then
            zlet (zI s137 191 4) fun s144 =>
            some (some (.int 0), s144)
          else
            j_begun_541 n call h0 qs ks x1 r134 r139 s137)
      else
        some (some (.int 0), s137))
    else
      some (some (.int 0), s132))
  else
  if (σ.2.2.1 6 (x1).toNatClampNeg) = 14 then
    zgd (zin x1 2100) (
    zcl' (call 125 [.ref h0, .int (σ.2.2.1 10 (x1).toNatClampNeg), .int x2] σ) fun r150 s148 =>
    if (s148.1 191) = 0 then
      zgd (zin x1 2100) (
      zgd (zin (s148.2.2.1 9 (x1).toNatClampNeg) 2010) (
      zci (call 122 [.ref h0, .int x2, .int (s148.2.2.1 32 ((s148.2.2.1 9 (x1).toNatClampNeg)).toNatClampNeg)] s148) fun r156 s154 =>
      zgd (zin r156 260000) (
      if (lg_cmp r150 0) < 0 then
        j_begun_682 n call h0 qs ks s154
      else
        zgd (zin (((s154.2.2.2 108 (r156).toNatClampNeg)).toInt32) 21000) (
        if (lg_cmp r150 (((s154.2.2.1 114 (((s154.2.2.2 108 (r156).toNatClampNeg)).toInt32).toNatClampNeg)).toInt64)) < 0 then
          zgd (zin (((s154.2.2.2 108 (r156).toNatClampNeg)).toInt32) 21000) (
          zgd (zin ((s154.2.2.1 113 (((s154.2.2.2 108 (r156).toNatClampNeg)).toInt32).toNatClampNeg) + ((r150).toInt32)) 11000) (
          zcv (call 128 [.ref h0, .int 0, .long (s154.2.2.2 115 (((s154.2.2.1 113 (((s154.2.2.2 108 (r156).toNatClampNeg)).toInt32).toNatClampNeg) + ((r150).toInt32))).toNatClampNeg)] s154) fun s163 =>
          some (some (.int 0), s163)))
        else
          j_begun_682 n call h0 qs ks s154))))
    else
      some (some (.int 0), s148))
  else
  if (σ.2.2.1 6 (x1).toNatClampNeg) = 15 then
    zci (call 135 [.ref h0, .int x1, .int x2] σ) fun r168 s166 =>
    zgd (zbo r168) (some (some (.int r168), s166))
  else
  if (σ.2.2.1 6 (x1).toNatClampNeg) = 16 then
    zgd (zin x1 2100) (
    zci (call 131 [.ref h0, .int (σ.2.2.1 11 (x1).toNatClampNeg), .int x2] σ) fun r174 s172 =>
    zgd (zbo r174) (some (some (.int r174), s172)))
  else
  if (σ.2.2.1 6 (x1).toNatClampNeg) = 17 then
    zcv (call 128 [.ref h0, .int 4, .long (-1)] σ) fun s177 =>
    some (some (.int 0), s177)
  else
  if (σ.2.2.1 6 (x1).toNatClampNeg) = 18 then
    zgd (zin x1 2100) (
    zcl' (call 125 [.ref h0, .int (σ.2.2.1 10 (x1).toNatClampNeg), .int x2] σ) fun r183 s181 =>
    if (s181.1 191) = 0 then
      zgd (zin x1 2100) (
      zgd (zin (s181.2.2.1 9 (x1).toNatClampNeg) 2010) (
      zci (call 122 [.ref h0, .int x2, .int (s181.2.2.1 32 ((s181.2.2.1 9 (x1).toNatClampNeg)).toNatClampNeg)] s181) fun r189 s187 =>
      zgd (zin r189 260000) (
      zgd (zin (s187.1 188) 20001) (zlet (zG s187 119 (vp_updL (s187.2.2.2 119) ((s187.1 188)).toNatClampNeg r183)) fun s192 =>
      zgd (zin (s192.1 188) 20001) (zlet (zA s192 120 (upd (s192.2.2.1 120) ((s192.1 188)).toNatClampNeg (((s187.2.2.2 108 (r189).toNatClampNeg)).toInt32))) fun s195 =>
      zci (call 124 [.ref h0, .int (((s187.2.2.2 108 (r189).toNatClampNeg)).toInt32)] s195) fun r199 s197 =>
      zgd (zin (s195.1 188) 20001) (zlet (zA s197 121 (upd (s197.2.2.1 121) ((s195.1 188)).toNatClampNeg (r199 + 1))) fun s201 =>
      zcv (call 128 [.ref h0, .int 4, .long (((s201.1 188)).toInt64)] s201) fun s203 =>
      zlet (zI s203 188 ((s203.1 188) + 1)) fun s205 =>
      some (some (.int 0), s205)))))))
    else
      some (some (.int 0), s181))
  else
  if (σ.2.2.1 6 (x1).toNatClampNeg) = 19 then
    zgd (zin x1 2100) (
    zgd (zin (σ.2.2.1 9 (x1).toNatClampNeg) 2010) (
    zci (call 122 [.ref h0, .int x2, .int (σ.2.2.1 32 ((σ.2.2.1 9 (x1).toNatClampNeg)).toNatClampNeg)] σ) fun r212 s210 =>
    zgd (zin r212 260000) (
    if 0 ≤ ((s210.2.2.2 108 (r212).toNatClampNeg)).toInt32 then
      zgd (zin x1 2100) (
      zgd (zin (s210.2.2.1 10 (x1).toNatClampNeg) 2010) (
      zgd (zin (((s210.2.2.2 108 (r212).toNatClampNeg)).toInt32) 20001) (
      zci (call 121 [.ref h0, .int x2, .int (s210.2.2.1 32 ((s210.2.2.1 10 (x1).toNatClampNeg)).toNatClampNeg), .int 0, .long (s210.2.2.2 119 (((s210.2.2.2 108 (r212).toNatClampNeg)).toInt32).toNatClampNeg)] s210) fun r220 s218 =>
      zgd (zin x1 2100) (
      zgd (zin x1 2100) (
      zgd (zin ((s218.2.2.1 10 (x1).toNatClampNeg) + 1) 2010) (
      zgd (zin (((s210.2.2.2 108 (r212).toNatClampNeg)).toInt32) 20001) (
      zci (call 121 [.ref h0, .int r220, .int (s218.2.2.1 32 (((s218.2.2.1 10 (x1).toNatClampNeg) + 1)).toNatClampNeg), .int 4, .long (((s218.2.2.1 120 (((s210.2.2.2 108 (r212).toNatClampNeg)).toInt32).toNatClampNeg)).toInt64)] s218) fun r227 s225 =>
      zci (call 131 [.ref h0, .int (s218.2.2.1 12 (x1).toNatClampNeg), .int r227] s225) fun r230 s228 =>
      zgd (zbo r230) (some (some (.int r230), s228)))))))))
    else
      zgd (zin x1 2100) (
      zci (call 131 [.ref h0, .int (s210.2.2.1 11 (x1).toNatClampNeg), .int x2] s210) fun r235 s233 =>
      zgd (zbo r235) (some (some (.int r235), s233))))))
  else
  zgd (zin x1 2100) (
  zci (call 131 [.ref h0, .int (σ.2.2.1 11 (x1).toNatClampNeg), .int x2] σ) fun r240 s238 =>
  zgd (zbo r240) (some (some (.int r240), s238))))
set_option maxHeartbeats 4000000 in
theorem pj_begun_682 {h0 : Nat} {qs : List Nat} {ks : Nat → Nat} {n : Nat} {call : zCl} {kc : Nat → List Value → zSt → (Option Value → zSt → Prop) → Prop} {v : Option Value × zSt} {X : Nat → zLv → List Value → zSt → Prop} (hX : zSem cX13_begun 9 (some .boolean) h0 qs ks kc (fun r u => (r, u) = v) X) (hc : ∀ j av s w, call j av s = some w → kc j av s (fun r u => (r, u) = w)) {σ : zSt} (h : j_begun_682 n call h0 qs ks σ = some v) : X 682 [some (.ref h0), none, none, none, none, none, none, none, none] [] σ := by
  rw [j_begun_682] at h
  refine zs_aload_n hX dX13_begun_682 rfl rfl ?_
  refine zs_iconst (v := 5) hX dX13_begun_683 (by decide) ?_
  obtain ⟨s1, e2, h⟩ := zlet_e h
  refine zp_ends hX dX13_begun_684 ?_
  rw [← e2]
  refine zs_goto (tgt := 710) hX dX13_begun_687 (by decide) ?_
  refine zs_iconst (v := 0) hX dX13_begun_710 (by decide) ?_
  exact zs_zret hX dX13_begun_711 rfl (by decide) (Option.some.inj h)
set_option maxHeartbeats 4000000 in
theorem pj_begun_610 {h0 : Nat} {qs : List Nat} {ks : Nat → Nat} {n : Nat} {call : zCl} {kc : Nat → List Value → zSt → (Option Value → zSt → Prop) → Prop} {v : Option Value × zSt} {X : Nat → zLv → List Value → zSt → Prop} (hX : zSem cX13_begun 9 (some .boolean) h0 qs ks kc (fun r u => (r, u) = v) X) (hc : ∀ j av s w, call j av s = some w → kc j av s (fun r u => (r, u) = w)) {t1 : Int32} {t3 : Int64} {σ : zSt} (h : j_begun_610 n call h0 qs ks t1 t3 σ = some v) : X 610 [none, none, none, none, none, none, none, none, none] [.long t3, .ref h0, .int t1, .ref h0] σ := by
  rw [j_begun_610] at h
  obtain ⟨r3, s1, e2, h⟩ := zcl'_e h
  refine zc_bounded hX dX13_begun_610 (Nat.le_of_ble_eq_true rfl) (hc _ _ _ _ e2) (fun r9 u9 h9 => ?_)
  cases h9
  obtain ⟨s4, e5, h⟩ := zcv_e h
  refine zc_is hX dX13_begun_613 (Nat.le_of_ble_eq_true rfl) (hc _ _ _ _ e5) (fun u9 h9 => ?_)
  cases h9
  refine zs_iconst (v := 0) hX dX13_begun_616 (by decide) ?_
  exact zs_zret hX dX13_begun_617 rfl (by decide) (Option.some.inj h)
set_option maxHeartbeats 4000000 in
theorem pj_begun_562 {h0 : Nat} {qs : List Nat} {ks : Nat → Nat} {n : Nat} {call : zCl} {kc : Nat → List Value → zSt → (Option Value → zSt → Prop) → Prop} {v : Option Value × zSt} {X : Nat → zLv → List Value → zSt → Prop} (hX : zSem cX13_begun 9 (some .boolean) h0 qs ks kc (fun r u => (r, u) = v) X) (hc : ∀ j av s w, call j av s = some w → kc j av s (fun r u => (r, u) = w)) {x1 : Int32} {x3 : Int64} {x5 : Int64} {t0 : Int64} {σ : zSt} (h : j_begun_562 n call h0 qs ks x1 x3 x5 t0 σ = some v) : X 562 [some (.ref h0), some (.int x1), none, some (.long x3), none, some (.long x5), none, none, none] [.long t0] σ := by
  rw [j_begun_562] at h
  refine zs_lstore hX dX13_begun_562 (by decide) rfl ?_
  dsimp only [List.set]
  refine zs_aload_n hX dX13_begun_564 rfl rfl ?_
  refine zs_iconst (v := 0) hX dX13_begun_565 (by decide) ?_
  refine zs_aload_n hX dX13_begun_566 rfl rfl ?_
  refine zs_aload_n hX dX13_begun_567 rfl rfl ?_
  refine zg_kind hX dX13_begun_568 ?_
  refine zs_iload_n hX dX13_begun_571 rfl rfl ?_
  obtain ⟨b1, h⟩ := zgd_e h
  refine zl_kind hX dX13_begun_572 (zin_ok b1) ?_
  refine zs_bipush (v := 11) hX dX13_begun_573 (by decide) ?_
  refine zs_icmp_ne (tgt := 587) hX dX13_begun_575 (by decide) (fun c2 => ?_) (fun c2 => ?_)
  · rw [if_neg c2] at h
    refine zs_aload_n hX dX13_begun_587 rfl rfl ?_
    refine zg_kind hX dX13_begun_588 ?_
    refine zs_iload_n hX dX13_begun_591 rfl rfl ?_
    obtain ⟨b3, h⟩ := zgd_e h
    refine zl_kind hX dX13_begun_592 (zin_ok b3) ?_
    refine zs_bipush (v := 12) hX dX13_begun_593 (by decide) ?_
    refine zs_icmp_ne (tgt := 603) hX dX13_begun_595 (by decide) (fun c4 => ?_) (fun c4 => ?_)
    · rw [if_neg c4] at h
      refine zs_lload_n hX dX13_begun_603 rfl rfl ?_
      refine zs_lload hX dX13_begun_604 rfl ?_
      refine zs_lload hX dX13_begun_606 rfl ?_
      refine zs_lmul hX dX13_begun_608 ?_
      refine zs_lsub hX dX13_begun_609 ?_
      refine zs_weak hX (lw := [none, none, none, none, none, none, none, none, none]) trivial ?_
      exact pj_begun_610 hX hc h
    · rw [if_pos c4] at h
      refine zs_lload hX dX13_begun_598 rfl ?_
      refine zs_goto (tgt := 610) hX dX13_begun_600 (by decide) ?_
      refine zs_weak hX (lw := [none, none, none, none, none, none, none, none, none]) trivial ?_
      exact pj_begun_610 hX hc h
  · rw [if_pos c2] at h
    refine zs_lload_n hX dX13_begun_578 rfl rfl ?_
    refine zs_lload hX dX13_begun_579 rfl ?_
    obtain ⟨r7, s5, e6, h⟩ := zcl'_e h
    refine zc_product hX dX13_begun_581 (Nat.le_of_ble_eq_true rfl) (hc _ _ _ _ e6) (fun r9 u9 h9 => ?_)
    cases h9
    refine zs_goto (tgt := 610) hX dX13_begun_584 (by decide) ?_
    refine zs_weak hX (lw := [none, none, none, none, none, none, none, none, none]) trivial ?_
    exact pj_begun_610 hX hc h
set_option maxHeartbeats 4000000 in
theorem pj_begun_541 {h0 : Nat} {qs : List Nat} {ks : Nat → Nat} {n : Nat} {call : zCl} {kc : Nat → List Value → zSt → (Option Value → zSt → Prop) → Prop} {v : Option Value × zSt} {X : Nat → zLv → List Value → zSt → Prop} (hX : zSem cX13_begun 9 (some .boolean) h0 qs ks kc (fun r u => (r, u) = v) X) (hc : ∀ j av s w, call j av s = some w → kc j av s (fun r u => (r, u) = w)) {x1 : Int32} {x3 : Int64} {x5 : Int64} {σ : zSt} (h : j_begun_541 n call h0 qs ks x1 x3 x5 σ = some v) : X 541 [some (.ref h0), some (.int x1), none, some (.long x3), none, some (.long x5), none, none, none] [] σ := by
  rw [j_begun_541] at h
  refine zs_aload_n hX dX13_begun_541 rfl rfl ?_
  refine zg_kind hX dX13_begun_542 ?_
  refine zs_iload_n hX dX13_begun_545 rfl rfl ?_
  obtain ⟨b1, h⟩ := zgd_e h
  refine zl_kind hX dX13_begun_546 (zin_ok b1) ?_
  refine zs_bipush (v := 11) hX dX13_begun_547 (by decide) ?_
  refine zs_icmp_ne (tgt := 556) hX dX13_begun_549 (by decide) (fun c2 => ?_) (fun c2 => ?_)
  · rw [if_neg c2] at h
    refine zs_lload_n hX dX13_begun_556 rfl rfl ?_
    refine zs_lload hX dX13_begun_557 rfl ?_
    obtain ⟨r5, s3, e4, h⟩ := zcl'_e h
    refine zc_downwards hX dX13_begun_559 (Nat.le_of_ble_eq_true rfl) (hc _ _ _ _ e4) (fun r9 u9 h9 => ?_)
    cases h9
    exact pj_begun_562 hX hc h
  · rw [if_pos c2] at h
    refine zs_lconst (v := 0) hX dX13_begun_552 (by decide) ?_
    refine zs_goto (tgt := 562) hX dX13_begun_553 (by decide) ?_
    exact pj_begun_562 hX hc h
set_option maxHeartbeats 4000000 in
theorem pj_begun_455 {h0 : Nat} {qs : List Nat} {ks : Nat → Nat} {n : Nat} {call : zCl} {kc : Nat → List Value → zSt → (Option Value → zSt → Prop) → Prop} {v : Option Value × zSt} {X : Nat → zLv → List Value → zSt → Prop} (hX : zSem cX13_begun 9 (some .boolean) h0 qs ks kc (fun r u => (r, u) = v) X) (hc : ∀ j av s w, call j av s = some w → kc j av s (fun r u => (r, u) = w)) {t1 : Int32} {t2 : Int64} {σ : zSt} (h : j_begun_455 n call h0 qs ks t1 t2 σ = some v) : X 455 [none, none, none, none, none, none, none, none, none] [.long t2, .int t1, .ref h0] σ := by
  rw [j_begun_455] at h
  obtain ⟨s1, e2, h⟩ := zcv_e h
  refine zc_is hX dX13_begun_455 (Nat.le_of_ble_eq_true rfl) (hc _ _ _ _ e2) (fun u9 h9 => ?_)
  cases h9
  refine zs_iconst (v := 0) hX dX13_begun_458 (by decide) ?_
  exact zs_zret hX dX13_begun_459 rfl (by decide) (Option.some.inj h)
set_option maxHeartbeats 4000000 in
theorem pj_begun_347 {h0 : Nat} {qs : List Nat} {ks : Nat → Nat} {n : Nat} {call : zCl} {kc : Nat → List Value → zSt → (Option Value → zSt → Prop) → Prop} {v : Option Value × zSt} {X : Nat → zLv → List Value → zSt → Prop} (hX : zSem cX13_begun 9 (some .boolean) h0 qs ks kc (fun r u => (r, u) = v) X) (hc : ∀ j av s w, call j av s = some w → kc j av s (fun r u => (r, u) = w)) {σ : zSt} (h : j_begun_347 n call h0 qs ks σ = some v) : X 347 [some (.ref h0), none, none, none, none, none, none, none, none] [] σ := by
  rw [j_begun_347] at h
  refine zs_aload_n hX dX13_begun_347 rfl rfl ?_
  refine zs_iconst (v := 5) hX dX13_begun_348 (by decide) ?_
  obtain ⟨s1, e2, h⟩ := zlet_e h
  refine zp_ends hX dX13_begun_349 ?_
  rw [← e2]
  refine zs_iconst (v := 0) hX dX13_begun_352 (by decide) ?_
  exact zs_zret hX dX13_begun_353 rfl (by decide) (Option.some.inj h)
set_option maxHeartbeats 4000000 in
theorem pj_begun_256 {h0 : Nat} {qs : List Nat} {ks : Nat → Nat} {n : Nat} {call : zCl} {kc : Nat → List Value → zSt → (Option Value → zSt → Prop) → Prop} {v : Option Value × zSt} {X : Nat → zLv → List Value → zSt → Prop} (hX : zSem cX13_begun 9 (some .boolean) h0 qs ks kc (fun r u => (r, u) = v) X) (hc : ∀ j av s w, call j av s = some w → kc j av s (fun r u => (r, u) = w)) {x1 : Int32} {x2 : Int32} {σ : zSt} (h : j_begun_256 n call h0 qs ks x1 x2 σ = some v) : X 256 [some (.ref h0), some (.int x1), some (.int x2), none, none, none, none, none, none] [] σ := by
  rw [j_begun_256] at h
  refine zs_aload_n hX dX13_begun_256 rfl rfl ?_
  refine zg_ends hX dX13_begun_257 ?_
  refine zs_if_ne (tgt := 281) hX dX13_begun_260 (by decide) (fun c1 => ?_) (fun c1 => ?_)
  · rw [if_neg c1] at h
    refine zs_iconst (v := 0) hX dX13_begun_281 (by decide) ?_
    exact zs_zret hX dX13_begun_282 rfl (by decide) (Option.some.inj h)
  · rw [if_pos c1] at h
    refine zs_aload_n hX dX13_begun_263 rfl rfl ?_
    refine zs_aload_n hX dX13_begun_264 rfl rfl ?_
    refine zg_x3 hX dX13_begun_265 ?_
    refine zs_iload_n hX dX13_begun_268 rfl rfl ?_
    obtain ⟨b2, h⟩ := zgd_e h
    refine zl_x3 hX dX13_begun_269 (zin_ok b2) ?_
    refine zs_iload_n hX dX13_begun_270 rfl rfl ?_
    obtain ⟨r5, s3, e4, h⟩ := zci_e h
    refine zc_then hX dX13_begun_271 (Nat.le_of_ble_eq_true rfl) (hc _ _ _ _ e4) (fun r9 u9 h9 => ?_)
    cases h9
    refine zs_if_eq (tgt := 281) hX dX13_begun_274 (by decide) (fun c6 => ?_) (fun c6 => ?_)
    · rw [if_pos c6] at h
      refine zs_iconst (v := 0) hX dX13_begun_281 (by decide) ?_
      exact zs_zret hX dX13_begun_282 rfl (by decide) (Option.some.inj h)
    · rw [if_neg c6] at h
      refine zs_iconst (v := 1) hX dX13_begun_277 (by decide) ?_
      refine zs_goto (tgt := 282) hX dX13_begun_278 (by decide) ?_
      exact zs_zret hX dX13_begun_282 rfl (by decide) (Option.some.inj h)
set_option maxHeartbeats 4000000 in
theorem pj_begun_215 {h0 : Nat} {qs : List Nat} {ks : Nat → Nat} {n : Nat} {call : zCl} {kc : Nat → List Value → zSt → (Option Value → zSt → Prop) → Prop} {v : Option Value × zSt} {X : Nat → zLv → List Value → zSt → Prop} (hX : zSem cX13_begun 9 (some .boolean) h0 qs ks kc (fun r u => (r, u) = v) X) (hc : ∀ j av s w, call j av s = some w → kc j av s (fun r u => (r, u) = w)) {x2 : Int32} {t1 : Int32} {σ : zSt} (h : j_begun_215 n call h0 qs ks x2 t1 σ = some v) : X 215 [none, none, some (.int x2), none, none, none, none, none, none] [.int t1, .ref h0] σ := by
  rw [j_begun_215] at h
  refine zs_iload_n hX dX13_begun_215 rfl rfl ?_
  obtain ⟨r3, s1, e2, h⟩ := zci_e h
  refine zc_then hX dX13_begun_216 (Nat.le_of_ble_eq_true rfl) (hc _ _ _ _ e2) (fun r9 u9 h9 => ?_)
  cases h9
  refine zs_if_eq (tgt := 226) hX dX13_begun_219 (by decide) (fun c4 => ?_) (fun c4 => ?_)
  · rw [if_pos c4] at h
    refine zs_iconst (v := 0) hX dX13_begun_226 (by decide) ?_
    exact zs_zret hX dX13_begun_227 rfl (by decide) (Option.some.inj h)
  · rw [if_neg c4] at h
    refine zs_iconst (v := 1) hX dX13_begun_222 (by decide) ?_
    refine zs_goto (tgt := 227) hX dX13_begun_223 (by decide) ?_
    exact zs_zret hX dX13_begun_227 rfl (by decide) (Option.some.inj h)
set_option maxHeartbeats 4000000 in
theorem pb_begun {h0 : Nat} {qs : List Nat} {ks : Nat → Nat} {n : Nat} {call : zCl} {kc : Nat → List Value → zSt → (Option Value → zSt → Prop) → Prop} {v : Option Value × zSt} {X : Nat → zLv → List Value → zSt → Prop} (hX : zSem cX13_begun 9 (some .boolean) h0 qs ks kc (fun r u => (r, u) = v) X) (hc : ∀ j av s w, call j av s = some w → kc j av s (fun r u => (r, u) = w)) {x1 : Int32} {x2 : Int32} {σ : zSt} (h : b_begun n call h0 qs ks x1 x2 σ = some v) : X 0 [some (.ref h0), some (.int x1), some (.int x2), none, none, none, none, none, none] [] σ := by
  rw [b_begun] at h
  refine zs_aload_n hX dX13_begun_0 rfl rfl ?_
  refine zg_kind hX dX13_begun_1 ?_
  refine zs_iload_n hX dX13_begun_4 rfl rfl ?_
  obtain ⟨b1, h⟩ := zgd_e h
  refine zl_kind hX dX13_begun_5 (zin_ok b1) ?_
  by_cases c2 : (σ.2.2.1 6 (x1).toNatClampNeg) = 1
  · rw [if_pos c2] at h
    refine zs_tableIn (tgt := 96) (off := 90) hX dX13_begun_6 (by rw [c2]; decide) (by rw [c2]; decide) (by rw [c2]; rfl) (by decide) ?_
    refine zs_aload_n hX dX13_begun_96 rfl rfl ?_
    refine zs_iconst (v := 0) hX dX13_begun_97 (by decide) ?_
    refine zs_iload_n hX dX13_begun_98 rfl rfl ?_
    refine zs_iload_n hX dX13_begun_99 rfl rfl ?_
    obtain ⟨s3, e4, h⟩ := zcv_e h
    refine zc_todo hX dX13_begun_100 (Nat.le_of_ble_eq_true rfl) (hc _ _ _ _ e4) (fun u9 h9 => ?_)
    cases h9
    refine zs_aload_n hX dX13_begun_103 rfl rfl ?_
    refine zs_aload_n hX dX13_begun_104 rfl rfl ?_
    refine zg_x3 hX dX13_begun_105 ?_
    refine zs_iload_n hX dX13_begun_108 rfl rfl ?_
    obtain ⟨b5, h⟩ := zgd_e h
    refine zl_x3 hX dX13_begun_109 (zin_ok b5) ?_
    refine zs_iload_n hX dX13_begun_110 rfl rfl ?_
    obtain ⟨r8, s6, e7, h⟩ := zci_e h
    refine zc_then hX dX13_begun_111 (Nat.le_of_ble_eq_true rfl) (hc _ _ _ _ e7) (fun r9 u9 h9 => ?_)
    cases h9
    obtain ⟨b9, h⟩ := zgd_e h
    exact zs_zret hX dX13_begun_114 rfl (zbo_n b9) (Option.some.inj h)
  rw [if_neg c2] at h
  by_cases c10 : (σ.2.2.1 6 (x1).toNatClampNeg) = 2
  · rw [if_pos c10] at h
    refine zs_tableIn (tgt := 115) (off := 109) hX dX13_begun_6 (by rw [c10]; decide) (by rw [c10]; decide) (by rw [c10]; rfl) (by decide) ?_
    refine zs_aload_n hX dX13_begun_115 rfl rfl ?_
    refine zs_iload_n hX dX13_begun_116 rfl rfl ?_
    refine zs_aload_n hX dX13_begun_117 rfl rfl ?_
    refine zg_whose hX dX13_begun_118 ?_
    refine zs_aload_n hX dX13_begun_121 rfl rfl ?_
    refine zg_x1 hX dX13_begun_122 ?_
    refine zs_iload_n hX dX13_begun_125 rfl rfl ?_
    obtain ⟨b11, h⟩ := zgd_e h
    refine zl_x1 hX dX13_begun_126 (zin_ok b11) ?_
    obtain ⟨b12, h⟩ := zgd_e h
    refine zl_whose hX dX13_begun_127 (zin_ok b12) ?_
    refine zs_iconst (v := 3) hX dX13_begun_128 (by decide) ?_
    refine zs_aload_n hX dX13_begun_129 rfl rfl ?_
    refine zg_functions hX dX13_begun_130 ?_
    refine zs_i2l hX dX13_begun_133 ?_
    obtain ⟨r15, s13, e14, h⟩ := zci_e h
    refine zc_slot hX dX13_begun_134 (Nat.le_of_ble_eq_true rfl) (hc _ _ _ _ e14) (fun r9 u9 h9 => ?_)
    cases h9
    refine zs_istore_n hX dX13_begun_137 rfl (by decide) rfl ?_
    dsimp only [List.set]
    refine zs_aload_n hX dX13_begun_138 rfl rfl ?_
    refine zs_iload_n hX dX13_begun_139 rfl rfl ?_
    refine zs_iload_n hX dX13_begun_140 rfl rfl ?_
    obtain ⟨r18, s16, e17, h⟩ := zci_e h
    refine zc_function hX dX13_begun_141 (Nat.le_of_ble_eq_true rfl) (hc _ _ _ _ e17) (fun r9 u9 h9 => ?_)
    cases h9
    refine zs_pop hX dX13_begun_144 rfl ?_
    refine zs_aload_n hX dX13_begun_145 rfl rfl ?_
    refine zs_aload_n hX dX13_begun_146 rfl rfl ?_
    refine zg_x4 hX dX13_begun_147 ?_
    refine zs_iload_n hX dX13_begun_150 rfl rfl ?_
    obtain ⟨b19, h⟩ := zgd_e h
    refine zl_x4 hX dX13_begun_151 (zin_ok b19) ?_
    refine zs_iload_n hX dX13_begun_152 rfl rfl ?_
    obtain ⟨r22, s20, e21, h⟩ := zci_e h
    refine zc_then hX dX13_begun_153 (Nat.le_of_ble_eq_true rfl) (hc _ _ _ _ e21) (fun r9 u9 h9 => ?_)
    cases h9
    obtain ⟨b23, h⟩ := zgd_e h
    exact zs_zret hX dX13_begun_156 rfl (zbo_n b23) (Option.some.inj h)
  rw [if_neg c10] at h
  by_cases c24 : (σ.2.2.1 6 (x1).toNatClampNeg) = 3
  · rw [if_pos c24] at h
    refine zs_tableIn (tgt := 157) (off := 151) hX dX13_begun_6 (by rw [c24]; decide) (by rw [c24]; decide) (by rw [c24]; rfl) (by decide) ?_
    refine zs_aload_n hX dX13_begun_157 rfl rfl ?_
    refine zs_iconst (v := 3) hX dX13_begun_158 (by decide) ?_
    refine zs_aload_n hX dX13_begun_159 rfl rfl ?_
    refine zg_functions hX dX13_begun_160 ?_
    refine zs_i2l hX dX13_begun_163 ?_
    obtain ⟨s25, e26, h⟩ := zcv_e h
    refine zc_is hX dX13_begun_164 (Nat.le_of_ble_eq_true rfl) (hc _ _ _ _ e26) (fun u9 h9 => ?_)
    cases h9
    refine zs_aload_n hX dX13_begun_167 rfl rfl ?_
    refine zs_iload_n hX dX13_begun_168 rfl rfl ?_
    refine zs_iload_n hX dX13_begun_169 rfl rfl ?_
    obtain ⟨r29, s27, e28, h⟩ := zci_e h
    refine zc_function hX dX13_begun_170 (Nat.le_of_ble_eq_true rfl) (hc _ _ _ _ e28) (fun r9 u9 h9 => ?_)
    cases h9
    refine zs_pop hX dX13_begun_173 rfl ?_
    refine zs_iconst (v := 0) hX dX13_begun_174 (by decide) ?_
    exact zs_zret hX dX13_begun_175 rfl (by decide) (Option.some.inj h)
  rw [if_neg c24] at h
  by_cases c30 : (σ.2.2.1 6 (x1).toNatClampNeg) = 4
  · rw [if_pos c30] at h
    refine zs_tableIn (tgt := 176) (off := 170) hX dX13_begun_6 (by rw [c30]; decide) (by rw [c30]; decide) (by rw [c30]; rfl) (by decide) ?_
    refine zs_aload_n hX dX13_begun_176 rfl rfl ?_
    refine zs_aload_n hX dX13_begun_177 rfl rfl ?_
    refine zg_x1 hX dX13_begun_178 ?_
    refine zs_iload_n hX dX13_begun_181 rfl rfl ?_
    obtain ⟨b31, h⟩ := zgd_e h
    refine zl_x1 hX dX13_begun_182 (zin_ok b31) ?_
    refine zs_iload_n hX dX13_begun_183 rfl rfl ?_
    obtain ⟨r34, s32, e33, h⟩ := zci_e h
    refine zc_holds hX dX13_begun_184 (Nat.le_of_ble_eq_true rfl) (hc _ _ _ _ e33) (fun r9 u9 h9 => ?_)
    cases h9
    refine zs_istore_n hX dX13_begun_187 rfl (by decide) rfl ?_
    dsimp only [List.set]
    refine zs_aload_n hX dX13_begun_188 rfl rfl ?_
    refine zg_ends hX dX13_begun_189 ?_
    refine zs_if_ne (tgt := 226) hX dX13_begun_192 (by decide) (fun c35 => ?_) (fun c35 => ?_)
    · rw [if_neg c35] at h
      refine zs_iconst (v := 0) hX dX13_begun_226 (by decide) ?_
      exact zs_zret hX dX13_begun_227 rfl (by decide) (Option.some.inj h)
    · rw [if_pos c35] at h
      refine zs_aload_n hX dX13_begun_195 rfl rfl ?_
      refine zs_iload_n hX dX13_begun_196 rfl rfl ?_
      refine zs_if_eq (tgt := 209) hX dX13_begun_197 (by decide) (fun c36 => ?_) (fun c36 => ?_)
      · rw [if_pos c36] at h
        refine zs_aload_n hX dX13_begun_209 rfl rfl ?_
        refine zg_x4 hX dX13_begun_210 ?_
        refine zs_iload_n hX dX13_begun_213 rfl rfl ?_
        obtain ⟨b37, h⟩ := zgd_e h
        refine zl_x4 hX dX13_begun_214 (zin_ok b37) ?_
        refine zs_weak hX (lw := [none, none, some (.int x2), none, none, none, none, none, none]) ⟨rfl, trivial⟩ ?_
        exact pj_begun_215 hX hc h
      · rw [if_neg c36] at h
        refine zs_aload_n hX dX13_begun_200 rfl rfl ?_
        refine zg_x3 hX dX13_begun_201 ?_
        refine zs_iload_n hX dX13_begun_204 rfl rfl ?_
        obtain ⟨b38, h⟩ := zgd_e h
        refine zl_x3 hX dX13_begun_205 (zin_ok b38) ?_
        refine zs_goto (tgt := 215) hX dX13_begun_206 (by decide) ?_
        refine zs_weak hX (lw := [none, none, some (.int x2), none, none, none, none, none, none]) ⟨rfl, trivial⟩ ?_
        exact pj_begun_215 hX hc h
  rw [if_neg c30] at h
  by_cases c39 : (σ.2.2.1 6 (x1).toNatClampNeg) = 5
  · rw [if_pos c39] at h
    refine zs_tableIn (tgt := 228) (off := 222) hX dX13_begun_6 (by rw [c39]; decide) (by rw [c39]; decide) (by rw [c39]; rfl) (by decide) ?_
    refine zs_aload_n hX dX13_begun_228 rfl rfl ?_
    refine zs_aload_n hX dX13_begun_229 rfl rfl ?_
    refine zg_x1 hX dX13_begun_230 ?_
    refine zs_iload_n hX dX13_begun_233 rfl rfl ?_
    obtain ⟨b40, h⟩ := zgd_e h
    refine zl_x1 hX dX13_begun_234 (zin_ok b40) ?_
    refine zs_iload_n hX dX13_begun_235 rfl rfl ?_
    obtain ⟨r43, s41, e42, h⟩ := zci_e h
    refine zc_holds hX dX13_begun_236 (Nat.le_of_ble_eq_true rfl) (hc _ _ _ _ e42) (fun r9 u9 h9 => ?_)
    cases h9
    refine zs_istore_n hX dX13_begun_239 rfl (by decide) rfl ?_
    dsimp only [List.set]
    refine zs_aload_n hX dX13_begun_240 rfl rfl ?_
    refine zg_ends hX dX13_begun_241 ?_
    refine zs_if_ne (tgt := 256) hX dX13_begun_244 (by decide) (fun c44 => ?_) (fun c44 => ?_)
    · rw [if_neg c44] at h
      refine zs_weak hX (lw := [some (.ref h0), some (.int x1), some (.int x2), none, none, none, none, none, none]) ⟨rfl, rfl, rfl, trivial⟩ ?_
      exact pj_begun_256 hX hc h
    · rw [if_pos c44] at h
      refine zs_iload_n hX dX13_begun_247 rfl rfl ?_
      refine zs_if_ne (tgt := 256) hX dX13_begun_248 (by decide) (fun c45 => ?_) (fun c45 => ?_)
      · rw [if_neg c45] at h
        refine zs_weak hX (lw := [some (.ref h0), some (.int x1), some (.int x2), none, none, none, none, none, none]) ⟨rfl, rfl, rfl, trivial⟩ ?_
        exact pj_begun_256 hX hc h
      · rw [if_pos c45] at h
        refine zs_aload_n hX dX13_begun_251 rfl rfl ?_
        refine zs_iconst (v := 3) hX dX13_begun_252 (by decide) ?_
        obtain ⟨s46, e47, h⟩ := zlet_e h
        refine zp_ends hX dX13_begun_253 ?_
        rw [← e47]
        refine zs_weak hX (lw := [some (.ref h0), some (.int x1), some (.int x2), none, none, none, none, none, none]) ⟨rfl, rfl, rfl, trivial⟩ ?_
        exact pj_begun_256 hX hc h
  rw [if_neg c39] at h
  by_cases c48 : (σ.2.2.1 6 (x1).toNatClampNeg) = 6
  · rw [if_pos c48] at h
    refine zs_tableIn (tgt := 283) (off := 277) hX dX13_begun_6 (by rw [c48]; decide) (by rw [c48]; decide) (by rw [c48]; rfl) (by decide) ?_
    refine zs_aload_n hX dX13_begun_283 rfl rfl ?_
    refine zs_aload_n hX dX13_begun_284 rfl rfl ?_
    refine zg_x2 hX dX13_begun_285 ?_
    refine zs_iload_n hX dX13_begun_288 rfl rfl ?_
    obtain ⟨b49, h⟩ := zgd_e h
    refine zl_x2 hX dX13_begun_289 (zin_ok b49) ?_
    refine zs_iload_n hX dX13_begun_290 rfl rfl ?_
    obtain ⟨r52, s50, e51, h⟩ := zcl'_e h
    refine zc_valueOf hX dX13_begun_291 (Nat.le_of_ble_eq_true rfl) (hc _ _ _ _ e51) (fun r9 u9 h9 => ?_)
    cases h9
    refine zs_lstore_n hX dX13_begun_294 rfl (by decide) rfl ?_
    dsimp only [List.set]
    refine zs_aload_n hX dX13_begun_295 rfl rfl ?_
    refine zg_ends hX dX13_begun_296 ?_
    refine zs_if_eq (tgt := 304) hX dX13_begun_299 (by decide) (fun c53 => ?_) (fun c53 => ?_)
    · rw [if_pos c53] at h
      refine zs_aload_n hX dX13_begun_304 rfl rfl ?_
      refine zg_slotValue hX dX13_begun_305 ?_
      refine zs_aload_n hX dX13_begun_308 rfl rfl ?_
      refine zs_iload_n hX dX13_begun_309 rfl rfl ?_
      refine zs_aload_n hX dX13_begun_310 rfl rfl ?_
      refine zg_whose hX dX13_begun_311 ?_
      refine zs_aload_n hX dX13_begun_314 rfl rfl ?_
      refine zg_x1 hX dX13_begun_315 ?_
      refine zs_iload_n hX dX13_begun_318 rfl rfl ?_
      obtain ⟨b54, h⟩ := zgd_e h
      refine zl_x1 hX dX13_begun_319 (zin_ok b54) ?_
      obtain ⟨b55, h⟩ := zgd_e h
      refine zl_whose hX dX13_begun_320 (zin_ok b55) ?_
      obtain ⟨r58, s56, e57, h⟩ := zci_e h
      refine zc_find hX dX13_begun_321 (Nat.le_of_ble_eq_true rfl) (hc _ _ _ _ e57) (fun r9 u9 h9 => ?_)
      cases h9
      obtain ⟨b59, h⟩ := zgd_e h
      refine zl_slotValue hX dX13_begun_324 (zin_ok b59) ?_
      refine zs_l2i hX dX13_begun_325 ?_
      refine zs_istore hX dX13_begun_326 (by decide) rfl ?_
      dsimp only [List.set]
      refine zs_lload_n hX dX13_begun_328 rfl rfl ?_
      refine zs_lconst (v := 0) hX dX13_begun_329 (by decide) ?_
      refine zs_lcmp hX dX13_begun_330 ?_
      refine zs_if_lt (tgt := 347) hX dX13_begun_331 (by decide) (fun c60 => ?_) (fun c60 => ?_)
      · rw [if_pos c60] at h
        refine zs_weak hX (lw := [some (.ref h0), none, none, none, none, none, none, none, none]) ⟨rfl, trivial⟩ ?_
        exact pj_begun_347 hX hc h
      · rw [if_neg c60] at h
        refine zs_lload_n hX dX13_begun_334 rfl rfl ?_
        refine zs_aload_n hX dX13_begun_335 rfl rfl ?_
        refine zg_yLong hX dX13_begun_336 ?_
        refine zs_iload hX dX13_begun_339 rfl ?_
        obtain ⟨b61, h⟩ := zgd_e h
        refine zl_yLong hX dX13_begun_341 (zin_ok b61) ?_
        refine zs_i2l hX dX13_begun_342 ?_
        refine zs_lcmp hX dX13_begun_343 ?_
        refine zs_if_lt (tgt := 354) hX dX13_begun_344 (by decide) (fun c62 => ?_) (fun c62 => ?_)
        · rw [if_pos c62] at h
          refine zs_aload_n hX dX13_begun_354 rfl rfl ?_
          refine zs_aload_n hX dX13_begun_355 rfl rfl ?_
          refine zg_x3 hX dX13_begun_356 ?_
          refine zs_iload_n hX dX13_begun_359 rfl rfl ?_
          obtain ⟨b63, h⟩ := zgd_e h
          refine zl_x3 hX dX13_begun_360 (zin_ok b63) ?_
          refine zs_iload_n hX dX13_begun_361 rfl rfl ?_
          obtain ⟨r66, s64, e65, h⟩ := zcl'_e h
          refine zc_valueOf hX dX13_begun_362 (Nat.le_of_ble_eq_true rfl) (hc _ _ _ _ e65) (fun r9 u9 h9 => ?_)
          cases h9
          refine zs_lstore hX dX13_begun_365 (by decide) rfl ?_
          dsimp only [List.set]
          refine zs_aload_n hX dX13_begun_367 rfl rfl ?_
          refine zg_ends hX dX13_begun_368 ?_
          refine zs_if_eq (tgt := 376) hX dX13_begun_371 (by decide) (fun c67 => ?_) (fun c67 => ?_)
          · rw [if_pos c67] at h
            refine zs_aload_n hX dX13_begun_376 rfl rfl ?_
            refine zg_heap hX dX13_begun_377 ?_
            refine zs_aload_n hX dX13_begun_380 rfl rfl ?_
            refine zg_yFrom hX dX13_begun_381 ?_
            refine zs_iload hX dX13_begun_384 rfl ?_
            obtain ⟨b68, h⟩ := zgd_e h
            refine zl_yFrom hX dX13_begun_386 (zin_ok b68) ?_
            refine zs_lload_n hX dX13_begun_387 rfl rfl ?_
            refine zs_l2i hX dX13_begun_388 ?_
            refine zs_iadd hX dX13_begun_389 ?_
            refine zs_lload hX dX13_begun_390 rfl ?_
            obtain ⟨b69, h⟩ := zgd_e h
            obtain ⟨s70, e71, h⟩ := zlet_e h
            refine zt_heap hX dX13_begun_392 (zin_ok b69) ?_
            rw [← e71]
            refine zs_aload_n hX dX13_begun_393 rfl rfl ?_
            refine zs_aload_n hX dX13_begun_394 rfl rfl ?_
            refine zg_x4 hX dX13_begun_395 ?_
            refine zs_iload_n hX dX13_begun_398 rfl rfl ?_
            obtain ⟨b72, h⟩ := zgd_e h
            refine zl_x4 hX dX13_begun_399 (zin_ok b72) ?_
            refine zs_iload_n hX dX13_begun_400 rfl rfl ?_
            obtain ⟨r75, s73, e74, h⟩ := zci_e h
            refine zc_then hX dX13_begun_401 (Nat.le_of_ble_eq_true rfl) (hc _ _ _ _ e74) (fun r9 u9 h9 => ?_)
            cases h9
            obtain ⟨b76, h⟩ := zgd_e h
            exact zs_zret hX dX13_begun_404 rfl (zbo_n b76) (Option.some.inj h)
          · rw [if_neg c67] at h
            refine zs_iconst (v := 0) hX dX13_begun_374 (by decide) ?_
            exact zs_zret hX dX13_begun_375 rfl (by decide) (Option.some.inj h)
        · rw [if_neg c62] at h
          refine zs_weak hX (lw := [some (.ref h0), none, none, none, none, none, none, none, none]) ⟨rfl, trivial⟩ ?_
          exact pj_begun_347 hX hc h
    · rw [if_neg c53] at h
      refine zs_iconst (v := 0) hX dX13_begun_302 (by decide) ?_
      exact zs_zret hX dX13_begun_303 rfl (by decide) (Option.some.inj h)
  rw [if_neg c48] at h
  by_cases c77 : (σ.2.2.1 6 (x1).toNatClampNeg) = 7
  · rw [if_pos c77] at h
    refine zs_tableIn (tgt := 405) (off := 399) hX dX13_begun_6 (by rw [c77]; decide) (by rw [c77]; decide) (by rw [c77]; rfl) (by decide) ?_
    refine zs_aload_n hX dX13_begun_405 rfl rfl ?_
    refine zs_aload_n hX dX13_begun_406 rfl rfl ?_
    refine zg_x2 hX dX13_begun_407 ?_
    refine zs_iload_n hX dX13_begun_410 rfl rfl ?_
    obtain ⟨b78, h⟩ := zgd_e h
    refine zl_x2 hX dX13_begun_411 (zin_ok b78) ?_
    refine zs_iload_n hX dX13_begun_412 rfl rfl ?_
    obtain ⟨r81, s79, e80, h⟩ := zcl'_e h
    refine zc_valueOf hX dX13_begun_413 (Nat.le_of_ble_eq_true rfl) (hc _ _ _ _ e80) (fun r9 u9 h9 => ?_)
    cases h9
    refine zs_lstore_n hX dX13_begun_416 rfl (by decide) rfl ?_
    dsimp only [List.set]
    refine zs_aload_n hX dX13_begun_417 rfl rfl ?_
    refine zg_ends hX dX13_begun_418 ?_
    refine zs_if_ne (tgt := 435) hX dX13_begun_421 (by decide) (fun c82 => ?_) (fun c82 => ?_)
    · rw [if_neg c82] at h
      refine zs_iconst (v := 0) hX dX13_begun_435 (by decide) ?_
      exact zs_zret hX dX13_begun_436 rfl (by decide) (Option.some.inj h)
    · rw [if_pos c82] at h
      refine zs_aload_n hX dX13_begun_424 rfl rfl ?_
      refine zs_iconst (v := 2) hX dX13_begun_425 (by decide) ?_
      refine zs_aload_n hX dX13_begun_426 rfl rfl ?_
      refine zs_lload_n hX dX13_begun_427 rfl rfl ?_
      obtain ⟨r85, s83, e84, h⟩ := zci_e h
      refine zc_newArray hX dX13_begun_428 (Nat.le_of_ble_eq_true rfl) (hc _ _ _ _ e84) (fun r9 u9 h9 => ?_)
      cases h9
      refine zs_i2l hX dX13_begun_431 ?_
      obtain ⟨s86, e87, h⟩ := zcv_e h
      refine zc_is hX dX13_begun_432 (Nat.le_of_ble_eq_true rfl) (hc _ _ _ _ e87) (fun u9 h9 => ?_)
      cases h9
      refine zs_iconst (v := 0) hX dX13_begun_435 (by decide) ?_
      exact zs_zret hX dX13_begun_436 rfl (by decide) (Option.some.inj h)
  rw [if_neg c77] at h
  by_cases c88 : (σ.2.2.1 6 (x1).toNatClampNeg) = 8
  · rw [if_pos c88] at h
    refine zs_tableIn (tgt := 437) (off := 431) hX dX13_begun_6 (by rw [c88]; decide) (by rw [c88]; decide) (by rw [c88]; rfl) (by decide) ?_
    refine zs_aload_n hX dX13_begun_437 rfl rfl ?_
    refine zs_iconst (v := 1) hX dX13_begun_438 (by decide) ?_
    refine zs_aload_n hX dX13_begun_439 rfl rfl ?_
    refine zg_kind hX dX13_begun_440 ?_
    refine zs_iload_n hX dX13_begun_443 rfl rfl ?_
    obtain ⟨b89, h⟩ := zgd_e h
    refine zl_kind hX dX13_begun_444 (zin_ok b89) ?_
    refine zs_bipush (v := 8) hX dX13_begun_445 (by decide) ?_
    refine zs_icmp_ne (tgt := 454) hX dX13_begun_447 (by decide) (fun c90 => ?_) (fun c90 => ?_)
    · rw [if_neg c90] at h
      refine zs_lconst (v := 0) hX dX13_begun_454 (by decide) ?_
      refine zs_weak hX (lw := [none, none, none, none, none, none, none, none, none]) trivial ?_
      exact pj_begun_455 hX hc h
    · rw [if_pos c90] at h
      refine zs_lconst (v := 1) hX dX13_begun_450 (by decide) ?_
      refine zs_goto (tgt := 455) hX dX13_begun_451 (by decide) ?_
      refine zs_weak hX (lw := [none, none, none, none, none, none, none, none, none]) trivial ?_
      exact pj_begun_455 hX hc h
  rw [if_neg c88] at h
  by_cases c91 : (σ.2.2.1 6 (x1).toNatClampNeg) = 9
  · rw [if_pos c91] at h
    refine zs_tableIn (tgt := 437) (off := 431) hX dX13_begun_6 (by rw [c91]; decide) (by rw [c91]; decide) (by rw [c91]; rfl) (by decide) ?_
    refine zs_aload_n hX dX13_begun_437 rfl rfl ?_
    refine zs_iconst (v := 1) hX dX13_begun_438 (by decide) ?_
    refine zs_aload_n hX dX13_begun_439 rfl rfl ?_
    refine zg_kind hX dX13_begun_440 ?_
    refine zs_iload_n hX dX13_begun_443 rfl rfl ?_
    obtain ⟨b92, h⟩ := zgd_e h
    refine zl_kind hX dX13_begun_444 (zin_ok b92) ?_
    refine zs_bipush (v := 8) hX dX13_begun_445 (by decide) ?_
    refine zs_icmp_ne (tgt := 454) hX dX13_begun_447 (by decide) (fun c93 => ?_) (fun c93 => ?_)
    · rw [if_neg c93] at h
      refine zs_lconst (v := 0) hX dX13_begun_454 (by decide) ?_
      refine zs_weak hX (lw := [none, none, none, none, none, none, none, none, none]) trivial ?_
      exact pj_begun_455 hX hc h
    · rw [if_pos c93] at h
      refine zs_lconst (v := 1) hX dX13_begun_450 (by decide) ?_
      refine zs_goto (tgt := 455) hX dX13_begun_451 (by decide) ?_
      refine zs_weak hX (lw := [none, none, none, none, none, none, none, none, none]) trivial ?_
      exact pj_begun_455 hX hc h
  rw [if_neg c91] at h
  by_cases c94 : (σ.2.2.1 6 (x1).toNatClampNeg) = 10
  · rw [if_pos c94] at h
    refine zs_tableIn (tgt := 460) (off := 454) hX dX13_begun_6 (by rw [c94]; decide) (by rw [c94]; decide) (by rw [c94]; rfl) (by decide) ?_
    refine zs_aload_n hX dX13_begun_460 rfl rfl ?_
    refine zs_aload_n hX dX13_begun_461 rfl rfl ?_
    refine zg_x2 hX dX13_begun_462 ?_
    refine zs_iload_n hX dX13_begun_465 rfl rfl ?_
    obtain ⟨b95, h⟩ := zgd_e h
    refine zl_x2 hX dX13_begun_466 (zin_ok b95) ?_
    refine zs_iload_n hX dX13_begun_467 rfl rfl ?_
    obtain ⟨s96, e97, h⟩ := zcv_e h
    refine zc_sumValue hX dX13_begun_468 (Nat.le_of_ble_eq_true rfl) (hc _ _ _ _ e97) (fun u9 h9 => ?_)
    cases h9
    refine zs_iconst (v := 0) hX dX13_begun_471 (by decide) ?_
    exact zs_zret hX dX13_begun_472 rfl (by decide) (Option.some.inj h)
  rw [if_neg c94] at h
  by_cases c98 : (σ.2.2.1 6 (x1).toNatClampNeg) = 11
  · rw [if_pos c98] at h
    refine zs_tableIn (tgt := 473) (off := 467) hX dX13_begun_6 (by rw [c98]; decide) (by rw [c98]; decide) (by rw [c98]; rfl) (by decide) ?_
    refine zs_aload_n hX dX13_begun_473 rfl rfl ?_
    refine zs_aload_n hX dX13_begun_474 rfl rfl ?_
    refine zg_x2 hX dX13_begun_475 ?_
    refine zs_iload_n hX dX13_begun_478 rfl rfl ?_
    obtain ⟨b99, h⟩ := zgd_e h
    refine zl_x2 hX dX13_begun_479 (zin_ok b99) ?_
    refine zs_iload_n hX dX13_begun_480 rfl rfl ?_
    obtain ⟨r102, s100, e101, h⟩ := zcl'_e h
    refine zc_valueOf hX dX13_begun_481 (Nat.le_of_ble_eq_true rfl) (hc _ _ _ _ e101) (fun r9 u9 h9 => ?_)
    cases h9
    refine zs_lstore_n hX dX13_begun_484 rfl (by decide) rfl ?_
    dsimp only [List.set]
    refine zs_aload_n hX dX13_begun_485 rfl rfl ?_
    refine zg_ends hX dX13_begun_486 ?_
    refine zs_if_eq (tgt := 494) hX dX13_begun_489 (by decide) (fun c103 => ?_) (fun c103 => ?_)
    · rw [if_pos c103] at h
      refine zs_aload_n hX dX13_begun_494 rfl rfl ?_
      refine zs_aload_n hX dX13_begun_495 rfl rfl ?_
      refine zg_x3 hX dX13_begun_496 ?_
      refine zs_iload_n hX dX13_begun_499 rfl rfl ?_
      obtain ⟨b104, h⟩ := zgd_e h
      refine zl_x3 hX dX13_begun_500 (zin_ok b104) ?_
      refine zs_iload_n hX dX13_begun_501 rfl rfl ?_
      obtain ⟨r107, s105, e106, h⟩ := zcl'_e h
      refine zc_valueOf hX dX13_begun_502 (Nat.le_of_ble_eq_true rfl) (hc _ _ _ _ e106) (fun r9 u9 h9 => ?_)
      cases h9
      refine zs_lstore hX dX13_begun_505 (by decide) rfl ?_
      dsimp only [List.set]
      refine zs_aload_n hX dX13_begun_507 rfl rfl ?_
      refine zg_ends hX dX13_begun_508 ?_
      refine zs_if_eq (tgt := 516) hX dX13_begun_511 (by decide) (fun c108 => ?_) (fun c108 => ?_)
      · rw [if_pos c108] at h
        refine zs_aload_n hX dX13_begun_516 rfl rfl ?_
        refine zg_kind hX dX13_begun_517 ?_
        refine zs_iload_n hX dX13_begun_520 rfl rfl ?_
        obtain ⟨b109, h⟩ := zgd_e h
        refine zl_kind hX dX13_begun_521 (zin_ok b109) ?_
        refine zs_bipush (v := 11) hX dX13_begun_522 (by decide) ?_
        refine zs_icmp_eq (tgt := 541) hX dX13_begun_524 (by decide) (fun c110 => ?_) (fun c110 => ?_)
        · rw [if_pos c110] at h
          refine zs_weak hX (lw := [some (.ref h0), some (.int x1), none, some (.long r102), none, some (.long r107), none, none, none]) ⟨rfl, rfl, rfl, rfl, trivial⟩ ?_
          exact pj_begun_541 hX hc h
        · rw [if_neg c110] at h
          refine zs_lload hX dX13_begun_527 rfl ?_
          refine zs_lconst (v := 0) hX dX13_begun_529 (by decide) ?_
          refine zs_lcmp hX dX13_begun_530 ?_
          refine zs_if_ne (tgt := 541) hX dX13_begun_531 (by decide) (fun c111 => ?_) (fun c111 => ?_)
          · rw [if_neg c111] at h
            refine zs_weak hX (lw := [some (.ref h0), some (.int x1), none, some (.long r102), none, some (.long r107), none, none, none]) ⟨rfl, rfl, rfl, rfl, trivial⟩ ?_
            exact pj_begun_541 hX hc h
          · rw [if_pos c111] at h
            refine zs_aload_n hX dX13_begun_534 rfl rfl ?_
            refine zs_iconst (v := 4) hX dX13_begun_535 (by decide) ?_
            obtain ⟨s112, e113, h⟩ := zlet_e h
            refine zp_ends hX dX13_begun_536 ?_
            rw [← e113]
            refine zs_iconst (v := 0) hX dX13_begun_539 (by decide) ?_
            exact zs_zret hX dX13_begun_540 rfl (by decide) (Option.some.inj h)
      · rw [if_neg c108] at h
        refine zs_iconst (v := 0) hX dX13_begun_514 (by decide) ?_
        exact zs_zret hX dX13_begun_515 rfl (by decide) (Option.some.inj h)
    · rw [if_neg c103] at h
      refine zs_iconst (v := 0) hX dX13_begun_492 (by decide) ?_
      exact zs_zret hX dX13_begun_493 rfl (by decide) (Option.some.inj h)
  rw [if_neg c98] at h
  by_cases c114 : (σ.2.2.1 6 (x1).toNatClampNeg) = 12
  · rw [if_pos c114] at h
    refine zs_tableIn (tgt := 473) (off := 467) hX dX13_begun_6 (by rw [c114]; decide) (by rw [c114]; decide) (by rw [c114]; rfl) (by decide) ?_
    refine zs_aload_n hX dX13_begun_473 rfl rfl ?_
    refine zs_aload_n hX dX13_begun_474 rfl rfl ?_
    refine zg_x2 hX dX13_begun_475 ?_
    refine zs_iload_n hX dX13_begun_478 rfl rfl ?_
    obtain ⟨b115, h⟩ := zgd_e h
    refine zl_x2 hX dX13_begun_479 (zin_ok b115) ?_
    refine zs_iload_n hX dX13_begun_480 rfl rfl ?_
    obtain ⟨r118, s116, e117, h⟩ := zcl'_e h
    refine zc_valueOf hX dX13_begun_481 (Nat.le_of_ble_eq_true rfl) (hc _ _ _ _ e117) (fun r9 u9 h9 => ?_)
    cases h9
    refine zs_lstore_n hX dX13_begun_484 rfl (by decide) rfl ?_
    dsimp only [List.set]
    refine zs_aload_n hX dX13_begun_485 rfl rfl ?_
    refine zg_ends hX dX13_begun_486 ?_
    refine zs_if_eq (tgt := 494) hX dX13_begun_489 (by decide) (fun c119 => ?_) (fun c119 => ?_)
    · rw [if_pos c119] at h
      refine zs_aload_n hX dX13_begun_494 rfl rfl ?_
      refine zs_aload_n hX dX13_begun_495 rfl rfl ?_
      refine zg_x3 hX dX13_begun_496 ?_
      refine zs_iload_n hX dX13_begun_499 rfl rfl ?_
      obtain ⟨b120, h⟩ := zgd_e h
      refine zl_x3 hX dX13_begun_500 (zin_ok b120) ?_
      refine zs_iload_n hX dX13_begun_501 rfl rfl ?_
      obtain ⟨r123, s121, e122, h⟩ := zcl'_e h
      refine zc_valueOf hX dX13_begun_502 (Nat.le_of_ble_eq_true rfl) (hc _ _ _ _ e122) (fun r9 u9 h9 => ?_)
      cases h9
      refine zs_lstore hX dX13_begun_505 (by decide) rfl ?_
      dsimp only [List.set]
      refine zs_aload_n hX dX13_begun_507 rfl rfl ?_
      refine zg_ends hX dX13_begun_508 ?_
      refine zs_if_eq (tgt := 516) hX dX13_begun_511 (by decide) (fun c124 => ?_) (fun c124 => ?_)
      · rw [if_pos c124] at h
        refine zs_aload_n hX dX13_begun_516 rfl rfl ?_
        refine zg_kind hX dX13_begun_517 ?_
        refine zs_iload_n hX dX13_begun_520 rfl rfl ?_
        obtain ⟨b125, h⟩ := zgd_e h
        refine zl_kind hX dX13_begun_521 (zin_ok b125) ?_
        refine zs_bipush (v := 11) hX dX13_begun_522 (by decide) ?_
        refine zs_icmp_eq (tgt := 541) hX dX13_begun_524 (by decide) (fun c126 => ?_) (fun c126 => ?_)
        · rw [if_pos c126] at h
          refine zs_weak hX (lw := [some (.ref h0), some (.int x1), none, some (.long r118), none, some (.long r123), none, none, none]) ⟨rfl, rfl, rfl, rfl, trivial⟩ ?_
          exact pj_begun_541 hX hc h
        · rw [if_neg c126] at h
          refine zs_lload hX dX13_begun_527 rfl ?_
          refine zs_lconst (v := 0) hX dX13_begun_529 (by decide) ?_
          refine zs_lcmp hX dX13_begun_530 ?_
          refine zs_if_ne (tgt := 541) hX dX13_begun_531 (by decide) (fun c127 => ?_) (fun c127 => ?_)
          · rw [if_neg c127] at h
            refine zs_weak hX (lw := [some (.ref h0), some (.int x1), none, some (.long r118), none, some (.long r123), none, none, none]) ⟨rfl, rfl, rfl, rfl, trivial⟩ ?_
            exact pj_begun_541 hX hc h
          · rw [if_pos c127] at h
            refine zs_aload_n hX dX13_begun_534 rfl rfl ?_
            refine zs_iconst (v := 4) hX dX13_begun_535 (by decide) ?_
            obtain ⟨s128, e129, h⟩ := zlet_e h
            refine zp_ends hX dX13_begun_536 ?_
            rw [← e129]
            refine zs_iconst (v := 0) hX dX13_begun_539 (by decide) ?_
            exact zs_zret hX dX13_begun_540 rfl (by decide) (Option.some.inj h)
      · rw [if_neg c124] at h
        refine zs_iconst (v := 0) hX dX13_begun_514 (by decide) ?_
        exact zs_zret hX dX13_begun_515 rfl (by decide) (Option.some.inj h)
    · rw [if_neg c119] at h
      refine zs_iconst (v := 0) hX dX13_begun_492 (by decide) ?_
      exact zs_zret hX dX13_begun_493 rfl (by decide) (Option.some.inj h)
  rw [if_neg c114] at h
  by_cases c130 : (σ.2.2.1 6 (x1).toNatClampNeg) = 13
  · rw [if_pos c130] at h
    refine zs_tableIn (tgt := 473) (off := 467) hX dX13_begun_6 (by rw [c130]; decide) (by rw [c130]; decide) (by rw [c130]; rfl) (by decide) ?_
    refine zs_aload_n hX dX13_begun_473 rfl rfl ?_
    refine zs_aload_n hX dX13_begun_474 rfl rfl ?_
    refine zg_x2 hX dX13_begun_475 ?_
    refine zs_iload_n hX dX13_begun_478 rfl rfl ?_
    obtain ⟨b131, h⟩ := zgd_e h
    refine zl_x2 hX dX13_begun_479 (zin_ok b131) ?_
    refine zs_iload_n hX dX13_begun_480 rfl rfl ?_
    obtain ⟨r134, s132, e133, h⟩ := zcl'_e h
    refine zc_valueOf hX dX13_begun_481 (Nat.le_of_ble_eq_true rfl) (hc _ _ _ _ e133) (fun r9 u9 h9 => ?_)
    cases h9
    refine zs_lstore_n hX dX13_begun_484 rfl (by decide) rfl ?_
    dsimp only [List.set]
    refine zs_aload_n hX dX13_begun_485 rfl rfl ?_
    refine zg_ends hX dX13_begun_486 ?_
    refine zs_if_eq (tgt := 494) hX dX13_begun_489 (by decide) (fun c135 => ?_) (fun c135 => ?_)
    · rw [if_pos c135] at h
      refine zs_aload_n hX dX13_begun_494 rfl rfl ?_
      refine zs_aload_n hX dX13_begun_495 rfl rfl ?_
      refine zg_x3 hX dX13_begun_496 ?_
      refine zs_iload_n hX dX13_begun_499 rfl rfl ?_
      obtain ⟨b136, h⟩ := zgd_e h
      refine zl_x3 hX dX13_begun_500 (zin_ok b136) ?_
      refine zs_iload_n hX dX13_begun_501 rfl rfl ?_
      obtain ⟨r139, s137, e138, h⟩ := zcl'_e h
      refine zc_valueOf hX dX13_begun_502 (Nat.le_of_ble_eq_true rfl) (hc _ _ _ _ e138) (fun r9 u9 h9 => ?_)
      cases h9
      refine zs_lstore hX dX13_begun_505 (by decide) rfl ?_
      dsimp only [List.set]
      refine zs_aload_n hX dX13_begun_507 rfl rfl ?_
      refine zg_ends hX dX13_begun_508 ?_
      refine zs_if_eq (tgt := 516) hX dX13_begun_511 (by decide) (fun c140 => ?_) (fun c140 => ?_)
      · rw [if_pos c140] at h
        refine zs_aload_n hX dX13_begun_516 rfl rfl ?_
        refine zg_kind hX dX13_begun_517 ?_
        refine zs_iload_n hX dX13_begun_520 rfl rfl ?_
        obtain ⟨b141, h⟩ := zgd_e h
        refine zl_kind hX dX13_begun_521 (zin_ok b141) ?_
        refine zs_bipush (v := 11) hX dX13_begun_522 (by decide) ?_
        refine zs_icmp_eq (tgt := 541) hX dX13_begun_524 (by decide) (fun c142 => ?_) (fun c142 => ?_)
        · rw [if_pos c142] at h
          refine zs_weak hX (lw := [some (.ref h0), some (.int x1), none, some (.long r134), none, some (.long r139), none, none, none]) ⟨rfl, rfl, rfl, rfl, trivial⟩ ?_
          exact pj_begun_541 hX hc h
        · rw [if_neg c142] at h
          refine zs_lload hX dX13_begun_527 rfl ?_
          refine zs_lconst (v := 0) hX dX13_begun_529 (by decide) ?_
          refine zs_lcmp hX dX13_begun_530 ?_
          refine zs_if_ne (tgt := 541) hX dX13_begun_531 (by decide) (fun c143 => ?_) (fun c143 => ?_)
          · rw [if_neg c143] at h
            refine zs_weak hX (lw := [some (.ref h0), some (.int x1), none, some (.long r134), none, some (.long r139), none, none, none]) ⟨rfl, rfl, rfl, rfl, trivial⟩ ?_
            exact pj_begun_541 hX hc h
          · rw [if_pos c143] at h
            refine zs_aload_n hX dX13_begun_534 rfl rfl ?_
            refine zs_iconst (v := 4) hX dX13_begun_535 (by decide) ?_
            obtain ⟨s144, e145, h⟩ := zlet_e h
            refine zp_ends hX dX13_begun_536 ?_
            rw [← e145]
            refine zs_iconst (v := 0) hX dX13_begun_539 (by decide) ?_
            exact zs_zret hX dX13_begun_540 rfl (by decide) (Option.some.inj h)
      · rw [if_neg c140] at h
        refine zs_iconst (v := 0) hX dX13_begun_514 (by decide) ?_
        exact zs_zret hX dX13_begun_515 rfl (by decide) (Option.some.inj h)
    · rw [if_neg c135] at h
      refine zs_iconst (v := 0) hX dX13_begun_492 (by decide) ?_
      exact zs_zret hX dX13_begun_493 rfl (by decide) (Option.some.inj h)
  rw [if_neg c130] at h
  by_cases c146 : (σ.2.2.1 6 (x1).toNatClampNeg) = 14
  · rw [if_pos c146] at h
    refine zs_tableIn (tgt := 618) (off := 612) hX dX13_begun_6 (by rw [c146]; decide) (by rw [c146]; decide) (by rw [c146]; rfl) (by decide) ?_
    refine zs_aload_n hX dX13_begun_618 rfl rfl ?_
    refine zs_aload_n hX dX13_begun_619 rfl rfl ?_
    refine zg_x2 hX dX13_begun_620 ?_
    refine zs_iload_n hX dX13_begun_623 rfl rfl ?_
    obtain ⟨b147, h⟩ := zgd_e h
    refine zl_x2 hX dX13_begun_624 (zin_ok b147) ?_
    refine zs_iload_n hX dX13_begun_625 rfl rfl ?_
    obtain ⟨r150, s148, e149, h⟩ := zcl'_e h
    refine zc_valueOf hX dX13_begun_626 (Nat.le_of_ble_eq_true rfl) (hc _ _ _ _ e149) (fun r9 u9 h9 => ?_)
    cases h9
    refine zs_lstore_n hX dX13_begun_629 rfl (by decide) rfl ?_
    dsimp only [List.set]
    refine zs_aload_n hX dX13_begun_630 rfl rfl ?_
    refine zg_ends hX dX13_begun_631 ?_
    refine zs_if_eq (tgt := 639) hX dX13_begun_634 (by decide) (fun c151 => ?_) (fun c151 => ?_)
    · rw [if_pos c151] at h
      refine zs_aload_n hX dX13_begun_639 rfl rfl ?_
      refine zg_slotValue hX dX13_begun_640 ?_
      refine zs_aload_n hX dX13_begun_643 rfl rfl ?_
      refine zs_iload_n hX dX13_begun_644 rfl rfl ?_
      refine zs_aload_n hX dX13_begun_645 rfl rfl ?_
      refine zg_whose hX dX13_begun_646 ?_
      refine zs_aload_n hX dX13_begun_649 rfl rfl ?_
      refine zg_x1 hX dX13_begun_650 ?_
      refine zs_iload_n hX dX13_begun_653 rfl rfl ?_
      obtain ⟨b152, h⟩ := zgd_e h
      refine zl_x1 hX dX13_begun_654 (zin_ok b152) ?_
      obtain ⟨b153, h⟩ := zgd_e h
      refine zl_whose hX dX13_begun_655 (zin_ok b153) ?_
      obtain ⟨r156, s154, e155, h⟩ := zci_e h
      refine zc_find hX dX13_begun_656 (Nat.le_of_ble_eq_true rfl) (hc _ _ _ _ e155) (fun r9 u9 h9 => ?_)
      cases h9
      obtain ⟨b157, h⟩ := zgd_e h
      refine zl_slotValue hX dX13_begun_659 (zin_ok b157) ?_
      refine zs_l2i hX dX13_begun_660 ?_
      refine zs_istore hX dX13_begun_661 (by decide) rfl ?_
      dsimp only [List.set]
      refine zs_lload_n hX dX13_begun_663 rfl rfl ?_
      refine zs_lconst (v := 0) hX dX13_begun_664 (by decide) ?_
      refine zs_lcmp hX dX13_begun_665 ?_
      refine zs_if_lt (tgt := 682) hX dX13_begun_666 (by decide) (fun c158 => ?_) (fun c158 => ?_)
      · rw [if_pos c158] at h
        refine zs_weak hX (lw := [some (.ref h0), none, none, none, none, none, none, none, none]) ⟨rfl, trivial⟩ ?_
        exact pj_begun_682 hX hc h
      · rw [if_neg c158] at h
        refine zs_lload_n hX dX13_begun_669 rfl rfl ?_
        refine zs_aload_n hX dX13_begun_670 rfl rfl ?_
        refine zg_yLong hX dX13_begun_671 ?_
        refine zs_iload hX dX13_begun_674 rfl ?_
        obtain ⟨b159, h⟩ := zgd_e h
        refine zl_yLong hX dX13_begun_676 (zin_ok b159) ?_
        refine zs_i2l hX dX13_begun_677 ?_
        refine zs_lcmp hX dX13_begun_678 ?_
        refine zs_if_lt (tgt := 690) hX dX13_begun_679 (by decide) (fun c160 => ?_) (fun c160 => ?_)
        · rw [if_pos c160] at h
          refine zs_aload_n hX dX13_begun_690 rfl rfl ?_
          refine zs_iconst (v := 0) hX dX13_begun_691 (by decide) ?_
          refine zs_aload_n hX dX13_begun_692 rfl rfl ?_
          refine zg_heap hX dX13_begun_693 ?_
          refine zs_aload_n hX dX13_begun_696 rfl rfl ?_
          refine zg_yFrom hX dX13_begun_697 ?_
          refine zs_iload hX dX13_begun_700 rfl ?_
          obtain ⟨b161, h⟩ := zgd_e h
          refine zl_yFrom hX dX13_begun_702 (zin_ok b161) ?_
          refine zs_lload_n hX dX13_begun_703 rfl rfl ?_
          refine zs_l2i hX dX13_begun_704 ?_
          refine zs_iadd hX dX13_begun_705 ?_
          obtain ⟨b162, h⟩ := zgd_e h
          refine zl_heap hX dX13_begun_706 (zin_ok b162) ?_
          obtain ⟨s163, e164, h⟩ := zcv_e h
          refine zc_is hX dX13_begun_707 (Nat.le_of_ble_eq_true rfl) (hc _ _ _ _ e164) (fun u9 h9 => ?_)
          cases h9
          refine zs_iconst (v := 0) hX dX13_begun_710 (by decide) ?_
          exact zs_zret hX dX13_begun_711 rfl (by decide) (Option.some.inj h)
        · rw [if_neg c160] at h
          refine zs_weak hX (lw := [some (.ref h0), none, none, none, none, none, none, none, none]) ⟨rfl, trivial⟩ ?_
          exact pj_begun_682 hX hc h
    · rw [if_neg c151] at h
      refine zs_iconst (v := 0) hX dX13_begun_637 (by decide) ?_
      exact zs_zret hX dX13_begun_638 rfl (by decide) (Option.some.inj h)
  rw [if_neg c146] at h
  by_cases c165 : (σ.2.2.1 6 (x1).toNatClampNeg) = 15
  · rw [if_pos c165] at h
    refine zs_tableIn (tgt := 929) (off := 923) hX dX13_begun_6 (by rw [c165]; decide) (by rw [c165]; decide) (by rw [c165]; rfl) (by decide) ?_
    refine zs_aload_n hX dX13_begun_929 rfl rfl ?_
    refine zs_iload_n hX dX13_begun_930 rfl rfl ?_
    refine zs_iload_n hX dX13_begun_931 rfl rfl ?_
    obtain ⟨r168, s166, e167, h⟩ := zci_e h
    refine zc_called hX dX13_begun_932 (Nat.le_of_ble_eq_true rfl) (hc _ _ _ _ e167) (fun r9 u9 h9 => ?_)
    cases h9
    obtain ⟨b169, h⟩ := zgd_e h
    exact zs_zret hX dX13_begun_935 rfl (zbo_n b169) (Option.some.inj h)
  rw [if_neg c165] at h
  by_cases c170 : (σ.2.2.1 6 (x1).toNatClampNeg) = 16
  · rw [if_pos c170] at h
    refine zs_tableIn (tgt := 936) (off := 930) hX dX13_begun_6 (by rw [c170]; decide) (by rw [c170]; decide) (by rw [c170]; rfl) (by decide) ?_
    refine zs_aload_n hX dX13_begun_936 rfl rfl ?_
    refine zs_aload_n hX dX13_begun_937 rfl rfl ?_
    refine zg_x3 hX dX13_begun_938 ?_
    refine zs_iload_n hX dX13_begun_941 rfl rfl ?_
    obtain ⟨b171, h⟩ := zgd_e h
    refine zl_x3 hX dX13_begun_942 (zin_ok b171) ?_
    refine zs_iload_n hX dX13_begun_943 rfl rfl ?_
    obtain ⟨r174, s172, e173, h⟩ := zci_e h
    refine zc_then hX dX13_begun_944 (Nat.le_of_ble_eq_true rfl) (hc _ _ _ _ e173) (fun r9 u9 h9 => ?_)
    cases h9
    obtain ⟨b175, h⟩ := zgd_e h
    exact zs_zret hX dX13_begun_947 rfl (zbo_n b175) (Option.some.inj h)
  rw [if_neg c170] at h
  by_cases c176 : (σ.2.2.1 6 (x1).toNatClampNeg) = 17
  · rw [if_pos c176] at h
    refine zs_tableIn (tgt := 712) (off := 706) hX dX13_begun_6 (by rw [c176]; decide) (by rw [c176]; decide) (by rw [c176]; rfl) (by decide) ?_
    refine zs_aload_n hX dX13_begun_712 rfl rfl ?_
    refine zs_iconst (v := 4) hX dX13_begun_713 (by decide) ?_
    refine zs_ldc2 (v := (-1)) hX dX13_begun_714 (by decide) ?_
    obtain ⟨s177, e178, h⟩ := zcv_e h
    refine zc_is hX dX13_begun_717 (Nat.le_of_ble_eq_true rfl) (hc _ _ _ _ e178) (fun u9 h9 => ?_)
    cases h9
    refine zs_iconst (v := 0) hX dX13_begun_720 (by decide) ?_
    exact zs_zret hX dX13_begun_721 rfl (by decide) (Option.some.inj h)
  rw [if_neg c176] at h
  by_cases c179 : (σ.2.2.1 6 (x1).toNatClampNeg) = 18
  · rw [if_pos c179] at h
    refine zs_tableIn (tgt := 722) (off := 716) hX dX13_begun_6 (by rw [c179]; decide) (by rw [c179]; decide) (by rw [c179]; rfl) (by decide) ?_
    refine zs_aload_n hX dX13_begun_722 rfl rfl ?_
    refine zs_aload_n hX dX13_begun_723 rfl rfl ?_
    refine zg_x2 hX dX13_begun_724 ?_
    refine zs_iload_n hX dX13_begun_727 rfl rfl ?_
    obtain ⟨b180, h⟩ := zgd_e h
    refine zl_x2 hX dX13_begun_728 (zin_ok b180) ?_
    refine zs_iload_n hX dX13_begun_729 rfl rfl ?_
    obtain ⟨r183, s181, e182, h⟩ := zcl'_e h
    refine zc_valueOf hX dX13_begun_730 (Nat.le_of_ble_eq_true rfl) (hc _ _ _ _ e182) (fun r9 u9 h9 => ?_)
    cases h9
    refine zs_lstore_n hX dX13_begun_733 rfl (by decide) rfl ?_
    dsimp only [List.set]
    refine zs_aload_n hX dX13_begun_734 rfl rfl ?_
    refine zg_ends hX dX13_begun_735 ?_
    refine zs_if_eq (tgt := 743) hX dX13_begun_738 (by decide) (fun c184 => ?_) (fun c184 => ?_)
    · rw [if_pos c184] at h
      refine zs_aload_n hX dX13_begun_743 rfl rfl ?_
      refine zg_slotValue hX dX13_begun_744 ?_
      refine zs_aload_n hX dX13_begun_747 rfl rfl ?_
      refine zs_iload_n hX dX13_begun_748 rfl rfl ?_
      refine zs_aload_n hX dX13_begun_749 rfl rfl ?_
      refine zg_whose hX dX13_begun_750 ?_
      refine zs_aload_n hX dX13_begun_753 rfl rfl ?_
      refine zg_x1 hX dX13_begun_754 ?_
      refine zs_iload_n hX dX13_begun_757 rfl rfl ?_
      obtain ⟨b185, h⟩ := zgd_e h
      refine zl_x1 hX dX13_begun_758 (zin_ok b185) ?_
      obtain ⟨b186, h⟩ := zgd_e h
      refine zl_whose hX dX13_begun_759 (zin_ok b186) ?_
      obtain ⟨r189, s187, e188, h⟩ := zci_e h
      refine zc_find hX dX13_begun_760 (Nat.le_of_ble_eq_true rfl) (hc _ _ _ _ e188) (fun r9 u9 h9 => ?_)
      cases h9
      obtain ⟨b190, h⟩ := zgd_e h
      refine zl_slotValue hX dX13_begun_763 (zin_ok b190) ?_
      refine zs_l2i hX dX13_begun_764 ?_
      refine zs_istore hX dX13_begun_765 (by decide) rfl ?_
      dsimp only [List.set]
      refine zs_aload_n hX dX13_begun_767 rfl rfl ?_
      refine zg_cellFirst hX dX13_begun_768 ?_
      refine zs_aload_n hX dX13_begun_771 rfl rfl ?_
      refine zg_listCells hX dX13_begun_772 ?_
      refine zs_lload_n hX dX13_begun_775 rfl rfl ?_
      obtain ⟨b191, h⟩ := zgd_e h
      obtain ⟨s192, e193, h⟩ := zlet_e h
      refine zt_cellFirst hX dX13_begun_776 (zin_ok b191) ?_
      rw [← e193]
      refine zs_aload_n hX dX13_begun_777 rfl rfl ?_
      refine zg_cellRest hX dX13_begun_778 ?_
      refine zs_aload_n hX dX13_begun_781 rfl rfl ?_
      refine zg_listCells hX dX13_begun_782 ?_
      refine zs_iload hX dX13_begun_785 rfl ?_
      obtain ⟨b194, h⟩ := zgd_e h
      obtain ⟨s195, e196, h⟩ := zlet_e h
      refine zt_cellRest hX dX13_begun_787 (zin_ok b194) ?_
      rw [← e196]
      refine zs_aload_n hX dX13_begun_788 rfl rfl ?_
      refine zg_cellMany hX dX13_begun_789 ?_
      refine zs_aload_n hX dX13_begun_792 rfl rfl ?_
      refine zg_listCells hX dX13_begun_793 ?_
      refine zs_aload_n hX dX13_begun_796 rfl rfl ?_
      refine zs_iload hX dX13_begun_797 rfl ?_
      obtain ⟨r199, s197, e198, h⟩ := zci_e h
      refine zc_sizeOf hX dX13_begun_799 (Nat.le_of_ble_eq_true rfl) (hc _ _ _ _ e198) (fun r9 u9 h9 => ?_)
      cases h9
      refine zs_iconst (v := 1) hX dX13_begun_802 (by decide) ?_
      refine zs_iadd hX dX13_begun_803 ?_
      obtain ⟨b200, h⟩ := zgd_e h
      obtain ⟨s201, e202, h⟩ := zlet_e h
      refine zt_cellMany hX dX13_begun_804 (zin_ok b200) ?_
      rw [← e202]
      refine zs_aload_n hX dX13_begun_805 rfl rfl ?_
      refine zs_iconst (v := 4) hX dX13_begun_806 (by decide) ?_
      refine zs_aload_n hX dX13_begun_807 rfl rfl ?_
      refine zg_listCells hX dX13_begun_808 ?_
      refine zs_i2l hX dX13_begun_811 ?_
      obtain ⟨s203, e204, h⟩ := zcv_e h
      refine zc_is hX dX13_begun_812 (Nat.le_of_ble_eq_true rfl) (hc _ _ _ _ e204) (fun u9 h9 => ?_)
      cases h9
      refine zs_aload_n hX dX13_begun_815 rfl rfl ?_
      refine zs_dup hX dX13_begun_816 rfl ?_
      refine zg_listCells hX dX13_begun_817 ?_
      refine zs_iconst (v := 1) hX dX13_begun_820 (by decide) ?_
      refine zs_iadd hX dX13_begun_821 ?_
      obtain ⟨s205, e206, h⟩ := zlet_e h
      refine zp_listCells hX dX13_begun_822 ?_
      rw [← e206]
      refine zs_iconst (v := 0) hX dX13_begun_825 (by decide) ?_
      exact zs_zret hX dX13_begun_826 rfl (by decide) (Option.some.inj h)
    · rw [if_neg c184] at h
      refine zs_iconst (v := 0) hX dX13_begun_741 (by decide) ?_
      exact zs_zret hX dX13_begun_742 rfl (by decide) (Option.some.inj h)
  rw [if_neg c179] at h
  by_cases c207 : (σ.2.2.1 6 (x1).toNatClampNeg) = 19
  · rw [if_pos c207] at h
    refine zs_tableIn (tgt := 827) (off := 821) hX dX13_begun_6 (by rw [c207]; decide) (by rw [c207]; decide) (by rw [c207]; rfl) (by decide) ?_
    refine zs_aload_n hX dX13_begun_827 rfl rfl ?_
    refine zg_slotValue hX dX13_begun_828 ?_
    refine zs_aload_n hX dX13_begun_831 rfl rfl ?_
    refine zs_iload_n hX dX13_begun_832 rfl rfl ?_
    refine zs_aload_n hX dX13_begun_833 rfl rfl ?_
    refine zg_whose hX dX13_begun_834 ?_
    refine zs_aload_n hX dX13_begun_837 rfl rfl ?_
    refine zg_x1 hX dX13_begun_838 ?_
    refine zs_iload_n hX dX13_begun_841 rfl rfl ?_
    obtain ⟨b208, h⟩ := zgd_e h
    refine zl_x1 hX dX13_begun_842 (zin_ok b208) ?_
    obtain ⟨b209, h⟩ := zgd_e h
    refine zl_whose hX dX13_begun_843 (zin_ok b209) ?_
    obtain ⟨r212, s210, e211, h⟩ := zci_e h
    refine zc_find hX dX13_begun_844 (Nat.le_of_ble_eq_true rfl) (hc _ _ _ _ e211) (fun r9 u9 h9 => ?_)
    cases h9
    obtain ⟨b213, h⟩ := zgd_e h
    refine zl_slotValue hX dX13_begun_847 (zin_ok b213) ?_
    refine zs_l2i hX dX13_begun_848 ?_
    refine zs_istore_n hX dX13_begun_849 rfl (by decide) rfl ?_
    dsimp only [List.set]
    refine zs_iload_n hX dX13_begun_850 rfl rfl ?_
    refine zs_if_ge (tgt := 866) hX dX13_begun_851 (by decide) (fun c214 => ?_) (fun c214 => ?_)
    · rw [if_pos c214] at h
      refine zs_aload_n hX dX13_begun_866 rfl rfl ?_
      refine zs_iload_n hX dX13_begun_867 rfl rfl ?_
      refine zs_aload_n hX dX13_begun_868 rfl rfl ?_
      refine zg_whose hX dX13_begun_869 ?_
      refine zs_aload_n hX dX13_begun_872 rfl rfl ?_
      refine zg_x2 hX dX13_begun_873 ?_
      refine zs_iload_n hX dX13_begun_876 rfl rfl ?_
      obtain ⟨b215, h⟩ := zgd_e h
      refine zl_x2 hX dX13_begun_877 (zin_ok b215) ?_
      obtain ⟨b216, h⟩ := zgd_e h
      refine zl_whose hX dX13_begun_878 (zin_ok b216) ?_
      refine zs_iconst (v := 0) hX dX13_begun_879 (by decide) ?_
      refine zs_aload_n hX dX13_begun_880 rfl rfl ?_
      refine zg_cellFirst hX dX13_begun_881 ?_
      refine zs_iload_n hX dX13_begun_884 rfl rfl ?_
      obtain ⟨b217, h⟩ := zgd_e h
      refine zl_cellFirst hX dX13_begun_885 (zin_ok b217) ?_
      obtain ⟨r220, s218, e219, h⟩ := zci_e h
      refine zc_slot hX dX13_begun_886 (Nat.le_of_ble_eq_true rfl) (hc _ _ _ _ e219) (fun r9 u9 h9 => ?_)
      cases h9
      refine zs_istore hX dX13_begun_889 (by decide) rfl ?_
      dsimp only [List.set]
      refine zs_aload_n hX dX13_begun_891 rfl rfl ?_
      refine zs_aload_n hX dX13_begun_892 rfl rfl ?_
      refine zg_x4 hX dX13_begun_893 ?_
      refine zs_iload_n hX dX13_begun_896 rfl rfl ?_
      obtain ⟨b221, h⟩ := zgd_e h
      refine zl_x4 hX dX13_begun_897 (zin_ok b221) ?_
      refine zs_aload_n hX dX13_begun_898 rfl rfl ?_
      refine zs_iload hX dX13_begun_899 rfl ?_
      refine zs_aload_n hX dX13_begun_901 rfl rfl ?_
      refine zg_whose hX dX13_begun_902 ?_
      refine zs_aload_n hX dX13_begun_905 rfl rfl ?_
      refine zg_x2 hX dX13_begun_906 ?_
      refine zs_iload_n hX dX13_begun_909 rfl rfl ?_
      obtain ⟨b222, h⟩ := zgd_e h
      refine zl_x2 hX dX13_begun_910 (zin_ok b222) ?_
      refine zs_iconst (v := 1) hX dX13_begun_911 (by decide) ?_
      refine zs_iadd hX dX13_begun_912 ?_
      obtain ⟨b223, h⟩ := zgd_e h
      refine zl_whose hX dX13_begun_913 (zin_ok b223) ?_
      refine zs_iconst (v := 4) hX dX13_begun_914 (by decide) ?_
      refine zs_aload_n hX dX13_begun_915 rfl rfl ?_
      refine zg_cellRest hX dX13_begun_916 ?_
      refine zs_iload_n hX dX13_begun_919 rfl rfl ?_
      obtain ⟨b224, h⟩ := zgd_e h
      refine zl_cellRest hX dX13_begun_920 (zin_ok b224) ?_
      refine zs_i2l hX dX13_begun_921 ?_
      obtain ⟨r227, s225, e226, h⟩ := zci_e h
      refine zc_slot hX dX13_begun_922 (Nat.le_of_ble_eq_true rfl) (hc _ _ _ _ e226) (fun r9 u9 h9 => ?_)
      cases h9
      obtain ⟨r230, s228, e229, h⟩ := zci_e h
      refine zc_then hX dX13_begun_925 (Nat.le_of_ble_eq_true rfl) (hc _ _ _ _ e229) (fun r9 u9 h9 => ?_)
      cases h9
      obtain ⟨b231, h⟩ := zgd_e h
      exact zs_zret hX dX13_begun_928 rfl (zbo_n b231) (Option.some.inj h)
    · rw [if_neg c214] at h
      refine zs_aload_n hX dX13_begun_854 rfl rfl ?_
      refine zs_aload_n hX dX13_begun_855 rfl rfl ?_
      refine zg_x3 hX dX13_begun_856 ?_
      refine zs_iload_n hX dX13_begun_859 rfl rfl ?_
      obtain ⟨b232, h⟩ := zgd_e h
      refine zl_x3 hX dX13_begun_860 (zin_ok b232) ?_
      refine zs_iload_n hX dX13_begun_861 rfl rfl ?_
      obtain ⟨r235, s233, e234, h⟩ := zci_e h
      refine zc_then hX dX13_begun_862 (Nat.le_of_ble_eq_true rfl) (hc _ _ _ _ e234) (fun r9 u9 h9 => ?_)
      cases h9
      obtain ⟨b236, h⟩ := zgd_e h
      exact zs_zret hX dX13_begun_865 rfl (zbo_n b236) (Option.some.inj h)
  rw [if_neg c207] at h
  refine zs_tableOut (tgt := 936) hX dX13_begun_6 (by have := z_ne c2 (k := 1) (by decide); have := z_ne c10 (k := 2) (by decide); have := z_ne c24 (k := 3) (by decide); have := z_ne c30 (k := 4) (by decide); have := z_ne c39 (k := 5) (by decide); have := z_ne c48 (k := 6) (by decide); have := z_ne c77 (k := 7) (by decide); have := z_ne c88 (k := 8) (by decide); have := z_ne c91 (k := 9) (by decide); have := z_ne c94 (k := 10) (by decide); have := z_ne c98 (k := 11) (by decide); have := z_ne c114 (k := 12) (by decide); have := z_ne c130 (k := 13) (by decide); have := z_ne c146 (k := 14) (by decide); have := z_ne c165 (k := 15) (by decide); have := z_ne c170 (k := 16) (by decide); have := z_ne c176 (k := 17) (by decide); have := z_ne c179 (k := 18) (by decide); have := z_ne c207 (k := 19) (by decide); omega) (by decide) ?_
  refine zs_aload_n hX dX13_begun_936 rfl rfl ?_
  refine zs_aload_n hX dX13_begun_937 rfl rfl ?_
  refine zg_x3 hX dX13_begun_938 ?_
  refine zs_iload_n hX dX13_begun_941 rfl rfl ?_
  obtain ⟨b237, h⟩ := zgd_e h
  refine zl_x3 hX dX13_begun_942 (zin_ok b237) ?_
  refine zs_iload_n hX dX13_begun_943 rfl rfl ?_
  obtain ⟨r240, s238, e239, h⟩ := zci_e h
  refine zc_then hX dX13_begun_944 (Nat.le_of_ble_eq_true rfl) (hc _ _ _ _ e239) (fun r9 u9 h9 => ?_)
  cases h9
  obtain ⟨b241, h⟩ := zgd_e h
  exact zs_zret hX dX13_begun_947 rfl (zbo_n b241) (Option.some.inj h)
def b_goesOn (n : Nat) (call : zCl) (h0 : Nat) (qs : List Nat) (ks : Nat → Nat) (σ : zSt) : zRs :=
  zlet (zI σ 189 ((σ.1 189) - 1)) fun s1 =>
  zgd (zin (s1.1 189) 20000) (
  if (s1.2.2.1 116 ((s1.1 189)).toNatClampNeg) = 0 then
    zgd (zin (s1.1 189) 20000) (
    zgd (zin (s1.1 189) 20000) (
    zgd (zin (s1.2.2.1 117 ((s1.1 189)).toNatClampNeg) 2100) (
    zgd (zin (s1.2.2.1 9 ((s1.2.2.1 117 ((s1.1 189)).toNatClampNeg)).toNatClampNeg) 2010) (
    zci (call 121 [.ref h0, .int (s1.2.2.1 118 ((s1.1 189)).toNatClampNeg), .int (s1.2.2.1 32 ((s1.2.2.1 9 ((s1.2.2.1 117 ((s1.1 189)).toNatClampNeg)).toNatClampNeg)).toNatClampNeg), .int (s1.1 192), .long (s1.2.1 193)] s1) fun r11 s9 =>
    zgd (zin (s1.2.2.1 117 ((s1.1 189)).toNatClampNeg) 2100) (
    zci (call 131 [.ref h0, .int (s9.2.2.1 12 ((s1.2.2.1 117 ((s1.1 189)).toNatClampNeg)).toNatClampNeg), .int r11] s9) fun r15 s13 =>
    zgd (zbo r15) (some (some (.int r15), s13)))))))
  else
  if (s1.2.2.1 116 ((s1.1 189)).toNatClampNeg) = 1 then
    zlet (zI s1 190 ((s1.1 190) - 1)) fun s18 =>
    some (some (.int 0), s18)
  else
  zgd (zin (s1.1 189) 20000) (
  zci (call 134 [.ref h0, .int (s1.2.2.1 117 ((s1.1 189)).toNatClampNeg)] s1) fun r23 s21 =>
  zgd (zbo r23) (some (some (.int r23), s21))))
set_option maxHeartbeats 4000000 in
theorem pb_goesOn {h0 : Nat} {qs : List Nat} {ks : Nat → Nat} {n : Nat} {call : zCl} {kc : Nat → List Value → zSt → (Option Value → zSt → Prop) → Prop} {v : Option Value × zSt} {X : Nat → zLv → List Value → zSt → Prop} (hX : zSem cX13_goesOn 3 (some .boolean) h0 qs ks kc (fun r u => (r, u) = v) X) (hc : ∀ j av s w, call j av s = some w → kc j av s (fun r u => (r, u) = w)) {σ : zSt} (h : b_goesOn n call h0 qs ks σ = some v) : X 0 [some (.ref h0), none, none] [] σ := by
  rw [b_goesOn] at h
  refine zs_aload_n hX dX13_goesOn_0 rfl rfl ?_
  refine zs_dup hX dX13_goesOn_1 rfl ?_
  refine zg_doing hX dX13_goesOn_2 ?_
  refine zs_iconst (v := 1) hX dX13_goesOn_5 (by decide) ?_
  refine zs_isub hX dX13_goesOn_6 ?_
  obtain ⟨s1, e2, h⟩ := zlet_e h
  refine zp_doing hX dX13_goesOn_7 ?_
  rw [← e2]
  refine zs_aload_n hX dX13_goesOn_10 rfl rfl ?_
  refine zg_doKind hX dX13_goesOn_11 ?_
  refine zs_aload_n hX dX13_goesOn_14 rfl rfl ?_
  refine zg_doing hX dX13_goesOn_15 ?_
  obtain ⟨b3, h⟩ := zgd_e h
  refine zl_doKind hX dX13_goesOn_18 (zin_ok b3) ?_
  by_cases c4 : (s1.2.2.1 116 ((s1.1 189)).toNatClampNeg) = 0
  · rw [if_pos c4] at h
    refine zs_lookup (tgt := 44) (off := 25) hX dX13_goesOn_19 (by decide) (by rw [c4]; rfl) (by decide) ?_
    refine zs_aload_n hX dX13_goesOn_44 rfl rfl ?_
    refine zg_doWhat hX dX13_goesOn_45 ?_
    refine zs_aload_n hX dX13_goesOn_48 rfl rfl ?_
    refine zg_doing hX dX13_goesOn_49 ?_
    obtain ⟨b5, h⟩ := zgd_e h
    refine zl_doWhat hX dX13_goesOn_52 (zin_ok b5) ?_
    refine zs_istore_n hX dX13_goesOn_53 rfl (by decide) rfl ?_
    dsimp only [List.set]
    refine zs_aload_n hX dX13_goesOn_54 rfl rfl ?_
    refine zs_aload_n hX dX13_goesOn_55 rfl rfl ?_
    refine zg_doSlots hX dX13_goesOn_56 ?_
    refine zs_aload_n hX dX13_goesOn_59 rfl rfl ?_
    refine zg_doing hX dX13_goesOn_60 ?_
    obtain ⟨b6, h⟩ := zgd_e h
    refine zl_doSlots hX dX13_goesOn_63 (zin_ok b6) ?_
    refine zs_aload_n hX dX13_goesOn_64 rfl rfl ?_
    refine zg_whose hX dX13_goesOn_65 ?_
    refine zs_aload_n hX dX13_goesOn_68 rfl rfl ?_
    refine zg_x1 hX dX13_goesOn_69 ?_
    refine zs_iload_n hX dX13_goesOn_72 rfl rfl ?_
    obtain ⟨b7, h⟩ := zgd_e h
    refine zl_x1 hX dX13_goesOn_73 (zin_ok b7) ?_
    obtain ⟨b8, h⟩ := zgd_e h
    refine zl_whose hX dX13_goesOn_74 (zin_ok b8) ?_
    refine zs_aload_n hX dX13_goesOn_75 rfl rfl ?_
    refine zg_vKind hX dX13_goesOn_76 ?_
    refine zs_aload_n hX dX13_goesOn_79 rfl rfl ?_
    refine zg_vValue hX dX13_goesOn_80 ?_
    obtain ⟨r11, s9, e10, h⟩ := zci_e h
    refine zc_slot hX dX13_goesOn_83 (Nat.le_of_ble_eq_true rfl) (hc _ _ _ _ e10) (fun r9 u9 h9 => ?_)
    cases h9
    refine zs_istore_n hX dX13_goesOn_86 rfl (by decide) rfl ?_
    dsimp only [List.set]
    refine zs_aload_n hX dX13_goesOn_87 rfl rfl ?_
    refine zs_aload_n hX dX13_goesOn_88 rfl rfl ?_
    refine zg_x4 hX dX13_goesOn_89 ?_
    refine zs_iload_n hX dX13_goesOn_92 rfl rfl ?_
    obtain ⟨b12, h⟩ := zgd_e h
    refine zl_x4 hX dX13_goesOn_93 (zin_ok b12) ?_
    refine zs_iload_n hX dX13_goesOn_94 rfl rfl ?_
    obtain ⟨r15, s13, e14, h⟩ := zci_e h
    refine zc_then hX dX13_goesOn_95 (Nat.le_of_ble_eq_true rfl) (hc _ _ _ _ e14) (fun r9 u9 h9 => ?_)
    cases h9
    obtain ⟨b16, h⟩ := zgd_e h
    exact zs_zret hX dX13_goesOn_98 rfl (zbo_n b16) (Option.some.inj h)
  rw [if_neg c4] at h
  by_cases c17 : (s1.2.2.1 116 ((s1.1 189)).toNatClampNeg) = 1
  · rw [if_pos c17] at h
    refine zs_lookup (tgt := 99) (off := 80) hX dX13_goesOn_19 (by decide) (by rw [c17]; rfl) (by decide) ?_
    refine zs_aload_n hX dX13_goesOn_99 rfl rfl ?_
    refine zs_dup hX dX13_goesOn_100 rfl ?_
    refine zg_calls hX dX13_goesOn_101 ?_
    refine zs_iconst (v := 1) hX dX13_goesOn_104 (by decide) ?_
    refine zs_isub hX dX13_goesOn_105 ?_
    obtain ⟨s18, e19, h⟩ := zlet_e h
    refine zp_calls hX dX13_goesOn_106 ?_
    rw [← e19]
    refine zs_iconst (v := 0) hX dX13_goesOn_109 (by decide) ?_
    exact zs_zret hX dX13_goesOn_110 rfl (by decide) (Option.some.inj h)
  rw [if_neg c17] at h
  refine zs_lookup (tgt := 111) (off := 92) hX dX13_goesOn_19 (by decide) (zlk_goesOn c4 c17) (by decide) ?_
  refine zs_aload_n hX dX13_goesOn_111 rfl rfl ?_
  refine zs_aload_n hX dX13_goesOn_112 rfl rfl ?_
  refine zg_doWhat hX dX13_goesOn_113 ?_
  refine zs_aload_n hX dX13_goesOn_116 rfl rfl ?_
  refine zg_doing hX dX13_goesOn_117 ?_
  obtain ⟨b20, h⟩ := zgd_e h
  refine zl_doWhat hX dX13_goesOn_120 (zin_ok b20) ?_
  obtain ⟨r23, s21, e22, h⟩ := zci_e h
  refine zc_applies hX dX13_goesOn_121 (Nat.le_of_ble_eq_true rfl) (hc _ _ _ _ e22) (fun r9 u9 h9 => ?_)
  cases h9
  obtain ⟨b24, h⟩ := zgd_e h
  exact zs_zret hX dX13_goesOn_124 rfl (zbo_n b24) (Option.some.inj h)
def j_run_428 (n : Nat) (call : zCl) (h0 : Nat) (qs : List Nat) (ks : Nat → Nat) (σ : zSt) : zRs :=
  some (some (.int (σ.1 191)), σ)
def j_run_425 (n : Nat) (call : zCl) (h0 : Nat) (qs : List Nat) (ks : Nat → Nat) (t1 : Int64) (σ : zSt) : zRs :=
  zlet (zJ σ 166 t1) fun s1 =>
  j_run_428 n call h0 qs ks s1
def j_run_355 (n : Nat) (call : zCl) (h0 : Nat) (qs : List Nat) (ks : Nat → Nat) (t1 : Int32) (σ : zSt) : zRs :=
  zlet (zI σ 163 t1) fun s1 =>
  if (s1.1 191) = 0 then
    if (s1.1 192) = 3 then
      j_run_425 n call h0 qs ks 0 s1
    else
      if (s1.1 192) = 2 then
        zgd (zin (((s1.2.1 193)).toInt32) 21000) (
        j_run_425 n call h0 qs ks (((s1.2.2.1 114 (((s1.2.1 193)).toInt32).toNatClampNeg)).toInt64) s1)
      else
        if (s1.1 192) = 4 then
          zci (call 124 [.ref h0, .int (((s1.2.1 193)).toInt32)] s1) fun r9 s7 =>
          j_run_425 n call h0 qs ks ((r9).toInt64) s7
        else
          j_run_425 n call h0 qs ks (s1.2.1 193) s1
  else
    j_run_428 n call h0 qs ks s1
def j_run_332 (n : Nat) (call : zCl) (h0 : Nat) (qs : List Nat) (ks : Nat → Nat) (x1 : Int32) (σ : zSt) : zRs :=
  zlet (zI σ 165 (x1 - (σ.1 164))) fun s1 =>
  if (s1.1 191) = 0 then
    j_run_355 n call h0 qs ks 1 s1
  else
    j_run_355 n call h0 qs ks 0 s1
def j_run_257 (n : Nat) (call : zCl) (h0 : Nat) (qs : List Nat) (ks : Nat → Nat) (k238 : Int32 → Int32 → Int32 → Int32 → zSt → zRs) (x1 : Int32) (x2 : Int32) (x3 : Int32) (x4 : Int32) (σ : zSt) : zRs :=
  if x4 = 0 then
    zci (call 137 [.ref h0] σ) fun r4 s2 =>
    k238 x1 (s2.1 195) (s2.1 194) r4 s2
  else
    if (σ.1 164) = 0 then
      zlet (zI σ 191 1) fun s12 =>
      j_run_332 n call h0 qs ks x1 s12
    else
      zlet (zI σ 164 ((σ.1 164) - 1)) fun s6 =>
      zci (call 136 [.ref h0, .int x3, .int x2] s6) fun r10 s8 =>
      if r10 = 0 then
        k238 x1 x2 x3 r10 s8
      else
        k238 x1 (s8.1 195) (s8.1 194) r10 s8
def l_run_238 (n : Nat) (call : zCl) (h0 : Nat) (qs : List Nat) (ks : Nat → Nat) : Nat → Int32 → Int32 → Int32 → Int32 → zSt → zRs
  | 0, _, _, _, _, _ => none
  | f + 1, x1, x2, x3, x4, σ =>
    if (σ.1 191) = 0 then
      if x4 = 0 then
        if (σ.1 189) ≤ 0 then
          j_run_332 n call h0 qs ks x1 σ
        else
          j_run_257 n call h0 qs ks (l_run_238 n call h0 qs ks f) x1 x2 x3 x4 σ
      else
        j_run_257 n call h0 qs ks (l_run_238 n call h0 qs ks f) x1 x2 x3 x4 σ
    else
      j_run_332 n call h0 qs ks x1 σ
def j_run_224 (n : Nat) (call : zCl) (h0 : Nat) (qs : List Nat) (ks : Nat → Nat) (k69 : Int32 → Int32 → Int32 → zSt → zRs) (x1 : Int32) (x2 : Int32) (x3 : Int32) (σ : zSt) : zRs :=
  k69 x1 x2 (x3 + 1) σ
def l_run_131 (n : Nat) (call : zCl) (h0 : Nat) (qs : List Nat) (ks : Nat → Nat) (k69 : Int32 → Int32 → Int32 → zSt → zRs) : Nat → Int32 → Int32 → Int32 → Int32 → Int32 → zSt → zRs
  | 0, _, _, _, _, _, _ => none
  | f + 1, x1, x2, x3, x4, x5, σ =>
    zgd (zin x3 6) (
    if 0 ≤ (lg_cmp ((x5).toInt64) (σ.2.2.2 103 (x3).toNatClampNeg)) then
      zgd (zin x3 6) (
      zlet (zI σ 181 ((σ.1 181) + (((σ.2.2.2 103 (x3).toNatClampNeg)).toInt32))) fun s4 =>
      zci (call 121 [.ref h0, .int x2, .int x3, .int 2, .long ((x4).toInt64)] s4) fun r8 s6 =>
      j_run_224 n call h0 qs ks k69 x1 r8 x3 s6)
    else
      zgd (zin ((1000 * x3) + x5) 6000) (
      zgd (zin ((σ.1 181) + x5) 11000) (zlet (zG σ 115 (vp_updL (σ.2.2.2 115) (((σ.1 181) + x5)).toNatClampNeg (σ.2.2.2 104 (((1000 * x3) + x5)).toNatClampNeg))) fun s11 =>
      l_run_131 n call h0 qs ks k69 f x1 x2 x3 x4 (x5 + 1) s11)))
def l_run_69 (n : Nat) (call : zCl) (h0 : Nat) (qs : List Nat) (ks : Nat → Nat) : Nat → Int32 → Int32 → Int32 → zSt → zRs
  | 0, _, _, _, _ => none
  | f + 1, x1, x2, x3, σ =>
    if (σ.1 42) ≤ x3 then
      l_run_238 n call h0 qs ks n x1 x2 (σ.1 43) 1 σ
    else
      zgd (zin x3 6) (
      if (σ.2.2.1 28 (x3).toNatClampNeg) = 2 then
        zlet (zI σ 180 ((σ.1 180) + 1)) fun s9 =>
        zgd (zin (σ.1 180) 21000) (zlet (zA s9 113 (upd (s9.2.2.1 113) ((σ.1 180)).toNatClampNeg (s9.1 181))) fun s12 =>
        zgd (zin x3 6) (
        zgd (zin (σ.1 180) 21000) (zlet (zA s12 114 (upd (s12.2.2.1 114) ((σ.1 180)).toNatClampNeg (((s12.2.2.2 103 (x3).toNatClampNeg)).toInt32))) fun s16 =>
        l_run_131 n call h0 qs ks (l_run_69 n call h0 qs ks f) n x1 x2 x3 (σ.1 180) 0 s16)))
      else
        zgd (zin x3 6) (
        zgd (zin x3 6) (
        zci (call 121 [.ref h0, .int x2, .int x3, .int (σ.2.2.1 28 (x3).toNatClampNeg), .long (σ.2.2.2 103 (x3).toNatClampNeg)] σ) fun r8 s6 =>
        j_run_224 n call h0 qs ks (l_run_69 n call h0 qs ks f) x1 r8 x3 s6)))
def b_run (n : Nat) (call : zCl) (h0 : Nat) (qs : List Nat) (ks : Nat → Nat) (x1 : Int32) (σ : zSt) : zRs :=
  if (σ.1 66) = 0 then
    some (some (.int (-1)), σ)
  else
    if x1 < 0 then
      some (some (.int (-1)), σ)
    else
      if x1 ≤ 20000 then
        zlet (zI σ 171 0) fun s4 =>
        zlet (zI s4 176 0) fun s6 =>
        zlet (zI s6 180 0) fun s8 =>
        zlet (zI s8 181 0) fun s10 =>
        zlet (zI s10 188 0) fun s12 =>
        zlet (zI s12 189 0) fun s14 =>
        zlet (zI s14 190 0) fun s16 =>
        zlet (zI s16 191 0) fun s18 =>
        zlet (zI s18 164 x1) fun s20 =>
        l_run_69 n call h0 qs ks n x1 (-1) 0 s20
      else
        some (some (.int (-1)), σ)
set_option maxHeartbeats 4000000 in
theorem pj_run_428 {h0 : Nat} {qs : List Nat} {ks : Nat → Nat} {n : Nat} {call : zCl} {kc : Nat → List Value → zSt → (Option Value → zSt → Prop) → Prop} {v : Option Value × zSt} {X : Nat → zLv → List Value → zSt → Prop} (hX : zSem cX13_run 6 (some .int) h0 qs ks kc (fun r u => (r, u) = v) X) (hc : ∀ j av s w, call j av s = some w → kc j av s (fun r u => (r, u) = w)) {σ : zSt} (h : j_run_428 n call h0 qs ks σ = some v) : X 428 [some (.ref h0), none, none, none, none, none] [] σ := by
  rw [j_run_428] at h
  refine zs_aload_n hX dX13_run_428 rfl rfl ?_
  refine zg_ends hX dX13_run_429 ?_
  exact zs_iret hX dX13_run_432 rfl (Option.some.inj h)
set_option maxHeartbeats 4000000 in
theorem pj_run_425 {h0 : Nat} {qs : List Nat} {ks : Nat → Nat} {n : Nat} {call : zCl} {kc : Nat → List Value → zSt → (Option Value → zSt → Prop) → Prop} {v : Option Value × zSt} {X : Nat → zLv → List Value → zSt → Prop} (hX : zSem cX13_run 6 (some .int) h0 qs ks kc (fun r u => (r, u) = v) X) (hc : ∀ j av s w, call j av s = some w → kc j av s (fun r u => (r, u) = w)) {t1 : Int64} {σ : zSt} (h : j_run_425 n call h0 qs ks t1 σ = some v) : X 425 [some (.ref h0), none, none, none, none, none] [.long t1, .ref h0] σ := by
  rw [j_run_425] at h
  obtain ⟨s1, e2, h⟩ := zlet_e h
  refine zp_gaveValue hX dX13_run_425 ?_
  rw [← e2]
  exact pj_run_428 hX hc h
set_option maxHeartbeats 4000000 in
theorem pj_run_355 {h0 : Nat} {qs : List Nat} {ks : Nat → Nat} {n : Nat} {call : zCl} {kc : Nat → List Value → zSt → (Option Value → zSt → Prop) → Prop} {v : Option Value × zSt} {X : Nat → zLv → List Value → zSt → Prop} (hX : zSem cX13_run 6 (some .int) h0 qs ks kc (fun r u => (r, u) = v) X) (hc : ∀ j av s w, call j av s = some w → kc j av s (fun r u => (r, u) = w)) {t1 : Int32} {σ : zSt} (h : j_run_355 n call h0 qs ks t1 σ = some v) : X 355 [some (.ref h0), none, none, none, none, none] [.int t1, .ref h0] σ := by
  rw [j_run_355] at h
  obtain ⟨s1, e2, h⟩ := zlet_e h
  refine zp_ran hX dX13_run_355 ?_
  rw [← e2]
  refine zs_aload_n hX dX13_run_358 rfl rfl ?_
  refine zg_ends hX dX13_run_359 ?_
  refine zs_if_ne (tgt := 428) hX dX13_run_362 (by decide) (fun c3 => ?_) (fun c3 => ?_)
  · rw [if_neg c3] at h
    exact pj_run_428 hX hc h
  · rw [if_pos c3] at h
    refine zs_aload_n hX dX13_run_365 rfl rfl ?_
    refine zs_aload_n hX dX13_run_366 rfl rfl ?_
    refine zg_vKind hX dX13_run_367 ?_
    refine zs_iconst (v := 3) hX dX13_run_370 (by decide) ?_
    refine zs_icmp_ne (tgt := 378) hX dX13_run_371 (by decide) (fun c4 => ?_) (fun c4 => ?_)
    · rw [if_neg c4] at h
      refine zs_aload_n hX dX13_run_378 rfl rfl ?_
      refine zg_vKind hX dX13_run_379 ?_
      refine zs_iconst (v := 2) hX dX13_run_382 (by decide) ?_
      refine zs_icmp_ne (tgt := 400) hX dX13_run_383 (by decide) (fun c5 => ?_) (fun c5 => ?_)
      · rw [if_neg c5] at h
        refine zs_aload_n hX dX13_run_400 rfl rfl ?_
        refine zg_vKind hX dX13_run_401 ?_
        refine zs_iconst (v := 4) hX dX13_run_404 (by decide) ?_
        refine zs_icmp_ne (tgt := 421) hX dX13_run_405 (by decide) (fun c6 => ?_) (fun c6 => ?_)
        · rw [if_neg c6] at h
          refine zs_aload_n hX dX13_run_421 rfl rfl ?_
          refine zg_vValue hX dX13_run_422 ?_
          exact pj_run_425 hX hc h
        · rw [if_pos c6] at h
          refine zs_aload_n hX dX13_run_408 rfl rfl ?_
          refine zs_aload_n hX dX13_run_409 rfl rfl ?_
          refine zg_vValue hX dX13_run_410 ?_
          refine zs_l2i hX dX13_run_413 ?_
          obtain ⟨r9, s7, e8, h⟩ := zci_e h
          refine zc_sizeOf hX dX13_run_414 (Nat.le_of_ble_eq_true rfl) (hc _ _ _ _ e8) (fun r9 u9 h9 => ?_)
          cases h9
          refine zs_i2l hX dX13_run_417 ?_
          refine zs_goto (tgt := 425) hX dX13_run_418 (by decide) ?_
          exact pj_run_425 hX hc h
      · rw [if_pos c5] at h
        refine zs_aload_n hX dX13_run_386 rfl rfl ?_
        refine zg_yLong hX dX13_run_387 ?_
        refine zs_aload_n hX dX13_run_390 rfl rfl ?_
        refine zg_vValue hX dX13_run_391 ?_
        refine zs_l2i hX dX13_run_394 ?_
        obtain ⟨b10, h⟩ := zgd_e h
        refine zl_yLong hX dX13_run_395 (zin_ok b10) ?_
        refine zs_i2l hX dX13_run_396 ?_
        refine zs_goto (tgt := 425) hX dX13_run_397 (by decide) ?_
        exact pj_run_425 hX hc h
    · rw [if_pos c4] at h
      refine zs_lconst (v := 0) hX dX13_run_374 (by decide) ?_
      refine zs_goto (tgt := 425) hX dX13_run_375 (by decide) ?_
      exact pj_run_425 hX hc h
set_option maxHeartbeats 4000000 in
theorem pj_run_332 {h0 : Nat} {qs : List Nat} {ks : Nat → Nat} {n : Nat} {call : zCl} {kc : Nat → List Value → zSt → (Option Value → zSt → Prop) → Prop} {v : Option Value × zSt} {X : Nat → zLv → List Value → zSt → Prop} (hX : zSem cX13_run 6 (some .int) h0 qs ks kc (fun r u => (r, u) = v) X) (hc : ∀ j av s w, call j av s = some w → kc j av s (fun r u => (r, u) = w)) {x1 : Int32} {σ : zSt} (h : j_run_332 n call h0 qs ks x1 σ = some v) : X 332 [some (.ref h0), some (.int x1), none, none, none, none] [] σ := by
  rw [j_run_332] at h
  refine zs_aload_n hX dX13_run_332 rfl rfl ?_
  refine zs_iload_n hX dX13_run_333 rfl rfl ?_
  refine zs_aload_n hX dX13_run_334 rfl rfl ?_
  refine zg_left hX dX13_run_335 ?_
  refine zs_isub hX dX13_run_338 ?_
  obtain ⟨s1, e2, h⟩ := zlet_e h
  refine zp_fuelTaken hX dX13_run_339 ?_
  rw [← e2]
  refine zs_aload_n hX dX13_run_342 rfl rfl ?_
  refine zs_aload_n hX dX13_run_343 rfl rfl ?_
  refine zg_ends hX dX13_run_344 ?_
  refine zs_if_ne (tgt := 354) hX dX13_run_347 (by decide) (fun c3 => ?_) (fun c3 => ?_)
  · rw [if_neg c3] at h
    refine zs_iconst (v := 0) hX dX13_run_354 (by decide) ?_
    refine zs_weak hX (lw := [some (.ref h0), none, none, none, none, none]) ⟨rfl, trivial⟩ ?_
    exact pj_run_355 hX hc h
  · rw [if_pos c3] at h
    refine zs_iconst (v := 1) hX dX13_run_350 (by decide) ?_
    refine zs_goto (tgt := 355) hX dX13_run_351 (by decide) ?_
    refine zs_weak hX (lw := [some (.ref h0), none, none, none, none, none]) ⟨rfl, trivial⟩ ?_
    exact pj_run_355 hX hc h
set_option maxHeartbeats 4000000 in
theorem pj_run_257 {h0 : Nat} {qs : List Nat} {ks : Nat → Nat} {n : Nat} {call : zCl} {kc : Nat → List Value → zSt → (Option Value → zSt → Prop) → Prop} {v : Option Value × zSt} {X : Nat → zLv → List Value → zSt → Prop} (hX : zSem cX13_run 6 (some .int) h0 qs ks kc (fun r u => (r, u) = v) X) (hc : ∀ j av s w, call j av s = some w → kc j av s (fun r u => (r, u) = w)) {k238 : Int32 → Int32 → Int32 → Int32 → zSt → zRs} (hk238 : ∀ (x1 : Int32) (x2 : Int32) (x3 : Int32) (x4 : Int32) (s : zSt), k238 x1 x2 x3 x4 s = some v → X 238 [some (.ref h0), some (.int x1), some (.int x2), some (.int x3), some (.int x4), none] [] s) {x1 : Int32} {x2 : Int32} {x3 : Int32} {x4 : Int32} {σ : zSt} (h : j_run_257 n call h0 qs ks k238 x1 x2 x3 x4 σ = some v) : X 257 [some (.ref h0), some (.int x1), some (.int x2), some (.int x3), some (.int x4), none] [] σ := by
  rw [j_run_257] at h
  refine zs_iload hX dX13_run_257 rfl ?_
  refine zs_if_eq (tgt := 313) hX dX13_run_259 (by decide) (fun c1 => ?_) (fun c1 => ?_)
  · rw [if_pos c1] at h
    refine zs_aload_n hX dX13_run_313 rfl rfl ?_
    obtain ⟨r4, s2, e3, h⟩ := zci_e h
    refine zc_goesOn hX dX13_run_314 (Nat.le_of_ble_eq_true rfl) (hc _ _ _ _ e3) (fun r9 u9 h9 => ?_)
    cases h9
    refine zs_istore hX dX13_run_317 (by decide) rfl ?_
    dsimp only [List.set]
    refine zs_aload_n hX dX13_run_319 rfl rfl ?_
    refine zg_nextNode hX dX13_run_320 ?_
    refine zs_istore_n hX dX13_run_323 rfl (by decide) rfl ?_
    dsimp only [List.set]
    refine zs_aload_n hX dX13_run_324 rfl rfl ?_
    refine zg_nextSlots hX dX13_run_325 ?_
    refine zs_istore_n hX dX13_run_328 rfl (by decide) rfl ?_
    dsimp only [List.set]
    refine zs_goto (tgt := 238) hX dX13_run_329 (by decide) ?_
    exact hk238 _ _ _ _ _ h
  · rw [if_neg c1] at h
    refine zs_aload_n hX dX13_run_262 rfl rfl ?_
    refine zg_left hX dX13_run_263 ?_
    refine zs_if_ne (tgt := 277) hX dX13_run_266 (by decide) (fun c5 => ?_) (fun c5 => ?_)
    · rw [if_neg c5] at h
      refine zs_aload_n hX dX13_run_277 rfl rfl ?_
      refine zs_dup hX dX13_run_278 rfl ?_
      refine zg_left hX dX13_run_279 ?_
      refine zs_iconst (v := 1) hX dX13_run_282 (by decide) ?_
      refine zs_isub hX dX13_run_283 ?_
      obtain ⟨s6, e7, h⟩ := zlet_e h
      refine zp_left hX dX13_run_284 ?_
      rw [← e7]
      refine zs_aload_n hX dX13_run_287 rfl rfl ?_
      refine zs_iload_n hX dX13_run_288 rfl rfl ?_
      refine zs_iload_n hX dX13_run_289 rfl rfl ?_
      obtain ⟨r10, s8, e9, h⟩ := zci_e h
      refine zc_begun hX dX13_run_290 (Nat.le_of_ble_eq_true rfl) (hc _ _ _ _ e9) (fun r9 u9 h9 => ?_)
      cases h9
      refine zs_istore hX dX13_run_293 (by decide) rfl ?_
      dsimp only [List.set]
      refine zs_iload hX dX13_run_295 rfl ?_
      refine zs_if_eq (tgt := 238) hX dX13_run_297 (by decide) (fun c11 => ?_) (fun c11 => ?_)
      · rw [if_pos c11] at h
        exact hk238 _ _ _ _ _ h
      · rw [if_neg c11] at h
        refine zs_aload_n hX dX13_run_300 rfl rfl ?_
        refine zg_nextNode hX dX13_run_301 ?_
        refine zs_istore_n hX dX13_run_304 rfl (by decide) rfl ?_
        dsimp only [List.set]
        refine zs_aload_n hX dX13_run_305 rfl rfl ?_
        refine zg_nextSlots hX dX13_run_306 ?_
        refine zs_istore_n hX dX13_run_309 rfl (by decide) rfl ?_
        dsimp only [List.set]
        refine zs_goto (tgt := 238) hX dX13_run_310 (by decide) ?_
        exact hk238 _ _ _ _ _ h
    · rw [if_pos c5] at h
      refine zs_aload_n hX dX13_run_269 rfl rfl ?_
      refine zs_iconst (v := 1) hX dX13_run_270 (by decide) ?_
      obtain ⟨s12, e13, h⟩ := zlet_e h
      refine zp_ends hX dX13_run_271 ?_
      rw [← e13]
      refine zs_goto (tgt := 332) hX dX13_run_274 (by decide) ?_
      refine zs_weak hX (lw := [some (.ref h0), some (.int x1), none, none, none, none]) ⟨rfl, rfl, trivial⟩ ?_
      exact pj_run_332 hX hc h
set_option maxHeartbeats 4000000 in
theorem pl_run_238 {h0 : Nat} {qs : List Nat} {ks : Nat → Nat} {n : Nat} {call : zCl} {kc : Nat → List Value → zSt → (Option Value → zSt → Prop) → Prop} {v : Option Value × zSt} {X : Nat → zLv → List Value → zSt → Prop} (hX : zSem cX13_run 6 (some .int) h0 qs ks kc (fun r u => (r, u) = v) X) (hc : ∀ j av s w, call j av s = some w → kc j av s (fun r u => (r, u) = w)) : ∀ (f : Nat) (x1 : Int32) (x2 : Int32) (x3 : Int32) (x4 : Int32) (σ : zSt), l_run_238 n call h0 qs ks f x1 x2 x3 x4 σ = some v → X 238 [some (.ref h0), some (.int x1), some (.int x2), some (.int x3), some (.int x4), none] [] σ := by
  intro f
  induction f with
  | zero => intro x1 x2 x3 x4 σ h; cases h
  | succ f hk238 =>
    intro x1 x2 x3 x4 σ h
    rw [l_run_238] at h
    refine zs_aload_n hX dX13_run_238 rfl rfl ?_
    refine zg_ends hX dX13_run_239 ?_
    refine zs_if_ne (tgt := 332) hX dX13_run_242 (by decide) (fun c1 => ?_) (fun c1 => ?_)
    · rw [if_neg c1] at h
      refine zs_weak hX (lw := [some (.ref h0), some (.int x1), none, none, none, none]) ⟨rfl, rfl, trivial⟩ ?_
      exact pj_run_332 hX hc h
    · rw [if_pos c1] at h
      refine zs_iload hX dX13_run_245 rfl ?_
      refine zs_if_ne (tgt := 257) hX dX13_run_247 (by decide) (fun c2 => ?_) (fun c2 => ?_)
      · rw [if_neg c2] at h
        exact pj_run_257 hX hc hk238 h
      · rw [if_pos c2] at h
        refine zs_aload_n hX dX13_run_250 rfl rfl ?_
        refine zg_doing hX dX13_run_251 ?_
        refine zs_if_le (tgt := 332) hX dX13_run_254 (by decide) (fun c3 => ?_) (fun c3 => ?_)
        · rw [if_pos c3] at h
          refine zs_weak hX (lw := [some (.ref h0), some (.int x1), none, none, none, none]) ⟨rfl, rfl, trivial⟩ ?_
          exact pj_run_332 hX hc h
        · rw [if_neg c3] at h
          exact pj_run_257 hX hc hk238 h
set_option maxHeartbeats 4000000 in
theorem pj_run_224 {h0 : Nat} {qs : List Nat} {ks : Nat → Nat} {n : Nat} {call : zCl} {kc : Nat → List Value → zSt → (Option Value → zSt → Prop) → Prop} {v : Option Value × zSt} {X : Nat → zLv → List Value → zSt → Prop} (hX : zSem cX13_run 6 (some .int) h0 qs ks kc (fun r u => (r, u) = v) X) (hc : ∀ j av s w, call j av s = some w → kc j av s (fun r u => (r, u) = w)) {k69 : Int32 → Int32 → Int32 → zSt → zRs} (hk69 : ∀ (x1 : Int32) (x2 : Int32) (x3 : Int32) (s : zSt), k69 x1 x2 x3 s = some v → X 69 [some (.ref h0), some (.int x1), some (.int x2), some (.int x3), none, none] [] s) {x1 : Int32} {x2 : Int32} {x3 : Int32} {σ : zSt} (h : j_run_224 n call h0 qs ks k69 x1 x2 x3 σ = some v) : X 224 [some (.ref h0), some (.int x1), some (.int x2), some (.int x3), none, none] [] σ := by
  rw [j_run_224] at h
  refine zs_iinc (v := x3 + 1) hX dX13_run_224 rfl rfl (by decide) rfl ?_
  dsimp only [List.set]
  refine zs_goto (tgt := 69) hX dX13_run_227 (by decide) ?_
  exact hk69 _ _ _ _ h
set_option maxHeartbeats 4000000 in
theorem pl_run_131 {h0 : Nat} {qs : List Nat} {ks : Nat → Nat} {n : Nat} {call : zCl} {kc : Nat → List Value → zSt → (Option Value → zSt → Prop) → Prop} {v : Option Value × zSt} {X : Nat → zLv → List Value → zSt → Prop} (hX : zSem cX13_run 6 (some .int) h0 qs ks kc (fun r u => (r, u) = v) X) (hc : ∀ j av s w, call j av s = some w → kc j av s (fun r u => (r, u) = w)) {k69 : Int32 → Int32 → Int32 → zSt → zRs} (hk69 : ∀ (x1 : Int32) (x2 : Int32) (x3 : Int32) (s : zSt), k69 x1 x2 x3 s = some v → X 69 [some (.ref h0), some (.int x1), some (.int x2), some (.int x3), none, none] [] s) : ∀ (f : Nat) (x1 : Int32) (x2 : Int32) (x3 : Int32) (x4 : Int32) (x5 : Int32) (σ : zSt), l_run_131 n call h0 qs ks k69 f x1 x2 x3 x4 x5 σ = some v → X 131 [some (.ref h0), some (.int x1), some (.int x2), some (.int x3), some (.int x4), some (.int x5)] [] σ := by
  intro f
  induction f with
  | zero => intro x1 x2 x3 x4 x5 σ h; cases h
  | succ f hk131 =>
    intro x1 x2 x3 x4 x5 σ h
    rw [l_run_131] at h
    refine zs_iload hX dX13_run_131 rfl ?_
    refine zs_i2l hX dX13_run_133 ?_
    refine zs_aload_n hX dX13_run_134 rfl rfl ?_
    refine zg_given hX dX13_run_135 ?_
    refine zs_iload_n hX dX13_run_138 rfl rfl ?_
    obtain ⟨b1, h⟩ := zgd_e h
    refine zl_given hX dX13_run_139 (zin_ok b1) ?_
    refine zs_lcmp hX dX13_run_140 ?_
    refine zs_if_ge (tgt := 175) hX dX13_run_141 (by decide) (fun c2 => ?_) (fun c2 => ?_)
    · rw [if_pos c2] at h
      refine zs_aload_n hX dX13_run_175 rfl rfl ?_
      refine zs_dup hX dX13_run_176 rfl ?_
      refine zg_heapTop hX dX13_run_177 ?_
      refine zs_aload_n hX dX13_run_180 rfl rfl ?_
      refine zg_given hX dX13_run_181 ?_
      refine zs_iload_n hX dX13_run_184 rfl rfl ?_
      obtain ⟨b3, h⟩ := zgd_e h
      refine zl_given hX dX13_run_185 (zin_ok b3) ?_
      refine zs_l2i hX dX13_run_186 ?_
      refine zs_iadd hX dX13_run_187 ?_
      obtain ⟨s4, e5, h⟩ := zlet_e h
      refine zp_heapTop hX dX13_run_188 ?_
      rw [← e5]
      refine zs_aload_n hX dX13_run_191 rfl rfl ?_
      refine zs_iload_n hX dX13_run_192 rfl rfl ?_
      refine zs_iload_n hX dX13_run_193 rfl rfl ?_
      refine zs_iconst (v := 2) hX dX13_run_194 (by decide) ?_
      refine zs_iload hX dX13_run_195 rfl ?_
      refine zs_i2l hX dX13_run_197 ?_
      obtain ⟨r8, s6, e7, h⟩ := zci_e h
      refine zc_slot hX dX13_run_198 (Nat.le_of_ble_eq_true rfl) (hc _ _ _ _ e7) (fun r9 u9 h9 => ?_)
      cases h9
      refine zs_istore_n hX dX13_run_201 rfl (by decide) rfl ?_
      dsimp only [List.set]
      refine zs_goto (tgt := 224) hX dX13_run_202 (by decide) ?_
      refine zs_weak hX (lw := [some (.ref h0), some (.int x1), some (.int r8), some (.int x3), none, none]) ⟨rfl, rfl, rfl, rfl, trivial⟩ ?_
      exact pj_run_224 hX hc hk69 h
    · rw [if_neg c2] at h
      refine zs_aload_n hX dX13_run_144 rfl rfl ?_
      refine zg_heap hX dX13_run_145 ?_
      refine zs_aload_n hX dX13_run_148 rfl rfl ?_
      refine zg_heapTop hX dX13_run_149 ?_
      refine zs_iload hX dX13_run_152 rfl ?_
      refine zs_iadd hX dX13_run_154 ?_
      refine zs_aload_n hX dX13_run_155 rfl rfl ?_
      refine zg_elements hX dX13_run_156 ?_
      refine zs_sipush (v := 1000) hX dX13_run_159 (by decide) ?_
      refine zs_iload_n hX dX13_run_162 rfl rfl ?_
      refine zs_imul hX dX13_run_163 ?_
      refine zs_iload hX dX13_run_164 rfl ?_
      refine zs_iadd hX dX13_run_166 ?_
      obtain ⟨b9, h⟩ := zgd_e h
      refine zl_elements hX dX13_run_167 (zin_ok b9) ?_
      obtain ⟨b10, h⟩ := zgd_e h
      obtain ⟨s11, e12, h⟩ := zlet_e h
      refine zt_heap hX dX13_run_168 (zin_ok b10) ?_
      rw [← e12]
      refine zs_iinc (v := x5 + 1) hX dX13_run_169 rfl rfl (by decide) rfl ?_
      dsimp only [List.set]
      refine zs_goto (tgt := 131) hX dX13_run_172 (by decide) ?_
      exact hk131 _ _ _ _ _ _ h
set_option maxHeartbeats 4000000 in
theorem pl_run_69 {h0 : Nat} {qs : List Nat} {ks : Nat → Nat} {n : Nat} {call : zCl} {kc : Nat → List Value → zSt → (Option Value → zSt → Prop) → Prop} {v : Option Value × zSt} {X : Nat → zLv → List Value → zSt → Prop} (hX : zSem cX13_run 6 (some .int) h0 qs ks kc (fun r u => (r, u) = v) X) (hc : ∀ j av s w, call j av s = some w → kc j av s (fun r u => (r, u) = w)) : ∀ (f : Nat) (x1 : Int32) (x2 : Int32) (x3 : Int32) (σ : zSt), l_run_69 n call h0 qs ks f x1 x2 x3 σ = some v → X 69 [some (.ref h0), some (.int x1), some (.int x2), some (.int x3), none, none] [] σ := by
  intro f
  induction f with
  | zero => intro x1 x2 x3 σ h; cases h
  | succ f hk69 =>
    intro x1 x2 x3 σ h
    rw [l_run_69] at h
    refine zs_iload_n hX dX13_run_69 rfl rfl ?_
    refine zs_aload_n hX dX13_run_70 rfl rfl ?_
    refine zg_inputs hX dX13_run_71 ?_
    refine zs_icmp_ge (tgt := 230) hX dX13_run_74 (by decide) (fun c1 => ?_) (fun c1 => ?_)
    · rw [if_pos c1] at h
      refine zs_aload_n hX dX13_run_230 rfl rfl ?_
      refine zg_root hX dX13_run_231 ?_
      refine zs_istore_n hX dX13_run_234 rfl (by decide) rfl ?_
      dsimp only [List.set]
      refine zs_iconst (v := 1) hX dX13_run_235 (by decide) ?_
      refine zs_istore hX dX13_run_236 (by decide) rfl ?_
      dsimp only [List.set]
      exact pl_run_238 hX hc n _ _ _ _ _ h
    · rw [if_neg c1] at h
      refine zs_aload_n hX dX13_run_77 rfl rfl ?_
      refine zg_inSort hX dX13_run_78 ?_
      refine zs_iload_n hX dX13_run_81 rfl rfl ?_
      obtain ⟨b2, h⟩ := zgd_e h
      refine zl_inSort hX dX13_run_82 (zin_ok b2) ?_
      refine zs_iconst (v := 2) hX dX13_run_83 (by decide) ?_
      refine zs_icmp_ne (tgt := 205) hX dX13_run_84 (by decide) (fun c3 => ?_) (fun c3 => ?_)
      · rw [if_neg c3] at h
        refine zs_aload_n hX dX13_run_205 rfl rfl ?_
        refine zs_iload_n hX dX13_run_206 rfl rfl ?_
        refine zs_iload_n hX dX13_run_207 rfl rfl ?_
        refine zs_aload_n hX dX13_run_208 rfl rfl ?_
        refine zg_inSort hX dX13_run_209 ?_
        refine zs_iload_n hX dX13_run_212 rfl rfl ?_
        obtain ⟨b4, h⟩ := zgd_e h
        refine zl_inSort hX dX13_run_213 (zin_ok b4) ?_
        refine zs_aload_n hX dX13_run_214 rfl rfl ?_
        refine zg_given hX dX13_run_215 ?_
        refine zs_iload_n hX dX13_run_218 rfl rfl ?_
        obtain ⟨b5, h⟩ := zgd_e h
        refine zl_given hX dX13_run_219 (zin_ok b5) ?_
        obtain ⟨r8, s6, e7, h⟩ := zci_e h
        refine zc_slot hX dX13_run_220 (Nat.le_of_ble_eq_true rfl) (hc _ _ _ _ e7) (fun r9 u9 h9 => ?_)
        cases h9
        refine zs_istore_n hX dX13_run_223 rfl (by decide) rfl ?_
        dsimp only [List.set]
        exact pj_run_224 hX hc hk69 h
      · rw [if_pos c3] at h
        refine zs_aload_n hX dX13_run_87 rfl rfl ?_
        refine zg_arrays hX dX13_run_88 ?_
        refine zs_istore hX dX13_run_91 (by decide) rfl ?_
        dsimp only [List.set]
        refine zs_aload_n hX dX13_run_93 rfl rfl ?_
        refine zs_dup hX dX13_run_94 rfl ?_
        refine zg_arrays hX dX13_run_95 ?_
        refine zs_iconst (v := 1) hX dX13_run_98 (by decide) ?_
        refine zs_iadd hX dX13_run_99 ?_
        obtain ⟨s9, e10, h⟩ := zlet_e h
        refine zp_arrays hX dX13_run_100 ?_
        rw [← e10]
        refine zs_aload_n hX dX13_run_103 rfl rfl ?_
        refine zg_yFrom hX dX13_run_104 ?_
        refine zs_iload hX dX13_run_107 rfl ?_
        refine zs_aload_n hX dX13_run_109 rfl rfl ?_
        refine zg_heapTop hX dX13_run_110 ?_
        obtain ⟨b11, h⟩ := zgd_e h
        obtain ⟨s12, e13, h⟩ := zlet_e h
        refine zt_yFrom hX dX13_run_113 (zin_ok b11) ?_
        rw [← e13]
        refine zs_aload_n hX dX13_run_114 rfl rfl ?_
        refine zg_yLong hX dX13_run_115 ?_
        refine zs_iload hX dX13_run_118 rfl ?_
        refine zs_aload_n hX dX13_run_120 rfl rfl ?_
        refine zg_given hX dX13_run_121 ?_
        refine zs_iload_n hX dX13_run_124 rfl rfl ?_
        obtain ⟨b14, h⟩ := zgd_e h
        refine zl_given hX dX13_run_125 (zin_ok b14) ?_
        refine zs_l2i hX dX13_run_126 ?_
        obtain ⟨b15, h⟩ := zgd_e h
        obtain ⟨s16, e17, h⟩ := zlet_e h
        refine zt_yLong hX dX13_run_127 (zin_ok b15) ?_
        rw [← e17]
        refine zs_iconst (v := 0) hX dX13_run_128 (by decide) ?_
        refine zs_istore hX dX13_run_129 (by decide) rfl ?_
        dsimp only [List.set]
        exact pl_run_131 hX hc hk69 n _ _ _ _ _ _ h
set_option maxHeartbeats 4000000 in
theorem pb_run {h0 : Nat} {qs : List Nat} {ks : Nat → Nat} {n : Nat} {call : zCl} {kc : Nat → List Value → zSt → (Option Value → zSt → Prop) → Prop} {v : Option Value × zSt} {X : Nat → zLv → List Value → zSt → Prop} (hX : zSem cX13_run 6 (some .int) h0 qs ks kc (fun r u => (r, u) = v) X) (hc : ∀ j av s w, call j av s = some w → kc j av s (fun r u => (r, u) = w)) {x1 : Int32} {σ : zSt} (h : b_run n call h0 qs ks x1 σ = some v) : X 0 [some (.ref h0), some (.int x1), none, none, none, none] [] σ := by
  rw [b_run] at h
  refine zs_aload_n hX dX13_run_0 rfl rfl ?_
  refine zg_hasOne hX dX13_run_1 ?_
  refine zs_if_eq (tgt := 18) hX dX13_run_4 (by decide) (fun c1 => ?_) (fun c1 => ?_)
  · rw [if_pos c1] at h
    refine zs_iconst (v := (-1)) hX dX13_run_18 (by decide) ?_
    exact zs_iret hX dX13_run_19 rfl (Option.some.inj h)
  · rw [if_neg c1] at h
    refine zs_iload_n hX dX13_run_7 rfl rfl ?_
    refine zs_if_lt (tgt := 18) hX dX13_run_8 (by decide) (fun c2 => ?_) (fun c2 => ?_)
    · rw [if_pos c2] at h
      refine zs_iconst (v := (-1)) hX dX13_run_18 (by decide) ?_
      exact zs_iret hX dX13_run_19 rfl (Option.some.inj h)
    · rw [if_neg c2] at h
      refine zs_iload_n hX dX13_run_11 rfl rfl ?_
      refine zs_sipush (v := 20000) hX dX13_run_12 (by decide) ?_
      refine zs_icmp_le (tgt := 20) hX dX13_run_15 (by decide) (fun c3 => ?_) (fun c3 => ?_)
      · rw [if_pos c3] at h
        refine zs_aload_n hX dX13_run_20 rfl rfl ?_
        refine zs_iconst (v := 0) hX dX13_run_21 (by decide) ?_
        obtain ⟨s4, e5, h⟩ := zlet_e h
        refine zp_slots hX dX13_run_22 ?_
        rw [← e5]
        refine zs_aload_n hX dX13_run_25 rfl rfl ?_
        refine zs_iconst (v := 0) hX dX13_run_26 (by decide) ?_
        obtain ⟨s6, e7, h⟩ := zlet_e h
        refine zp_functions hX dX13_run_27 ?_
        rw [← e7]
        refine zs_aload_n hX dX13_run_30 rfl rfl ?_
        refine zs_iconst (v := 0) hX dX13_run_31 (by decide) ?_
        obtain ⟨s8, e9, h⟩ := zlet_e h
        refine zp_arrays hX dX13_run_32 ?_
        rw [← e9]
        refine zs_aload_n hX dX13_run_35 rfl rfl ?_
        refine zs_iconst (v := 0) hX dX13_run_36 (by decide) ?_
        obtain ⟨s10, e11, h⟩ := zlet_e h
        refine zp_heapTop hX dX13_run_37 ?_
        rw [← e11]
        refine zs_aload_n hX dX13_run_40 rfl rfl ?_
        refine zs_iconst (v := 0) hX dX13_run_41 (by decide) ?_
        obtain ⟨s12, e13, h⟩ := zlet_e h
        refine zp_listCells hX dX13_run_42 ?_
        rw [← e13]
        refine zs_aload_n hX dX13_run_45 rfl rfl ?_
        refine zs_iconst (v := 0) hX dX13_run_46 (by decide) ?_
        obtain ⟨s14, e15, h⟩ := zlet_e h
        refine zp_doing hX dX13_run_47 ?_
        rw [← e15]
        refine zs_aload_n hX dX13_run_50 rfl rfl ?_
        refine zs_iconst (v := 0) hX dX13_run_51 (by decide) ?_
        obtain ⟨s16, e17, h⟩ := zlet_e h
        refine zp_calls hX dX13_run_52 ?_
        rw [← e17]
        refine zs_aload_n hX dX13_run_55 rfl rfl ?_
        refine zs_iconst (v := 0) hX dX13_run_56 (by decide) ?_
        obtain ⟨s18, e19, h⟩ := zlet_e h
        refine zp_ends hX dX13_run_57 ?_
        rw [← e19]
        refine zs_aload_n hX dX13_run_60 rfl rfl ?_
        refine zs_iload_n hX dX13_run_61 rfl rfl ?_
        obtain ⟨s20, e21, h⟩ := zlet_e h
        refine zp_left hX dX13_run_62 ?_
        rw [← e21]
        refine zs_iconst (v := (-1)) hX dX13_run_65 (by decide) ?_
        refine zs_istore_n hX dX13_run_66 rfl (by decide) rfl ?_
        dsimp only [List.set]
        refine zs_iconst (v := 0) hX dX13_run_67 (by decide) ?_
        refine zs_istore_n hX dX13_run_68 rfl (by decide) rfl ?_
        dsimp only [List.set]
        exact pl_run_69 hX hc n _ _ _ _ h
      · rw [if_neg c3] at h
        refine zs_iconst (v := (-1)) hX dX13_run_18 (by decide) ?_
        exact zs_iret hX dX13_run_19 rfl (Option.some.inj h)
def b_value (n : Nat) (call : zCl) (h0 : Nat) (qs : List Nat) (ks : Nat → Nat) (σ : zSt) : zRs :=
  if (σ.1 163) = 1 then
    some (some (.long (σ.2.1 166)), σ)
  else
    some (some (.long 0), σ)
set_option maxHeartbeats 4000000 in
theorem pb_value {h0 : Nat} {qs : List Nat} {ks : Nat → Nat} {n : Nat} {call : zCl} {kc : Nat → List Value → zSt → (Option Value → zSt → Prop) → Prop} {v : Option Value × zSt} {X : Nat → zLv → List Value → zSt → Prop} (hX : zSem cX13_value 1 (some .long) h0 qs ks kc (fun r u => (r, u) = v) X) (hc : ∀ j av s w, call j av s = some w → kc j av s (fun r u => (r, u) = w)) {σ : zSt} (h : b_value n call h0 qs ks σ = some v) : X 0 [some (.ref h0)] [] σ := by
  rw [b_value] at h
  refine zs_aload_n hX dX13_value_0 rfl rfl ?_
  refine zg_ran hX dX13_value_1 ?_
  refine zs_iconst (v := 1) hX dX13_value_4 (by decide) ?_
  refine zs_icmp_ne (tgt := 15) hX dX13_value_5 (by decide) (fun c1 => ?_) (fun c1 => ?_)
  · rw [if_neg c1] at h
    refine zs_lconst (v := 0) hX dX13_value_15 (by decide) ?_
    exact zs_lret hX dX13_value_16 rfl (Option.some.inj h)
  · rw [if_pos c1] at h
    refine zs_aload_n hX dX13_value_8 rfl rfl ?_
    refine zg_gaveValue hX dX13_value_9 ?_
    refine zs_goto (tgt := 16) hX dX13_value_12 (by decide) ?_
    exact zs_lret hX dX13_value_16 rfl (Option.some.inj h)
def b_fuel (n : Nat) (call : zCl) (h0 : Nat) (qs : List Nat) (ks : Nat → Nat) (σ : zSt) : zRs :=
  some (some (.int (σ.1 165)), σ)
set_option maxHeartbeats 4000000 in
theorem pb_fuel {h0 : Nat} {qs : List Nat} {ks : Nat → Nat} {n : Nat} {call : zCl} {kc : Nat → List Value → zSt → (Option Value → zSt → Prop) → Prop} {v : Option Value × zSt} {X : Nat → zLv → List Value → zSt → Prop} (hX : zSem cX13_fuel 1 (some .int) h0 qs ks kc (fun r u => (r, u) = v) X) (hc : ∀ j av s w, call j av s = some w → kc j av s (fun r u => (r, u) = w)) {σ : zSt} (h : b_fuel n call h0 qs ks σ = some v) : X 0 [some (.ref h0)] [] σ := by
  rw [b_fuel] at h
  refine zs_aload_n hX dX13_fuel_0 rfl rfl ?_
  refine zg_fuelTaken hX dX13_fuel_1 ?_
  exact zs_iret hX dX13_fuel_4 rfl (Option.some.inj h)
