/-! the methods of the reference as plain functions (0 to 19) -/
def j_feed_71 (n : Nat) (call : zCl) (h0 : Nat) (qs : List Nat) (ks : Nat → Nat) (k18 : Int32 → Int32 → Int32 → Int32 → Int32 → Int32 → zSt → zRs) (x1 : Int32) (x2 : Int32) (x3 : Int32) (x4 : Int32) (x5 : Int32) (x6 : Int32) (t0 : Int32) (σ : zSt) : zRs :=
  zgd (decide (¬ 4 = 0)) (
  zgd (zin (σ.1 3) 2000) (zlet (zA σ 0 (upd (σ.2.2.1 0) ((σ.1 3)).toNatClampNeg (vp_nar .byte (((t0 >>> ((24 - (8 * (x6 - x6 / 4 * 4))) &&& 31))).toInt8.toInt32)))) fun s3 =>
  zlet (zI s3 3 ((s3.1 3) + 1)) fun s5 =>
  k18 x1 x2 x3 x4 x5 (x6 + 1) s5))
def l_feed_18 (n : Nat) (call : zCl) (h0 : Nat) (qs : List Nat) (ks : Nat → Nat) : Nat → Int32 → Int32 → Int32 → Int32 → Int32 → Int32 → zSt → zRs
  | 0, _, _, _, _, _, _, _ => none
  | f + 1, x1, x2, x3, x4, x5, x6, σ =>
    if 20 ≤ x6 then
      some (some (.int 1), σ)
    else
      if 4 ≤ x6 then
        if 8 ≤ x6 then
          if 12 ≤ x6 then
            if 16 ≤ x6 then
              j_feed_71 n call h0 qs ks (l_feed_18 n call h0 qs ks f) x1 x2 x3 x4 x5 x6 x5 σ
            else
              j_feed_71 n call h0 qs ks (l_feed_18 n call h0 qs ks f) x1 x2 x3 x4 x5 x6 x4 σ
          else
            j_feed_71 n call h0 qs ks (l_feed_18 n call h0 qs ks f) x1 x2 x3 x4 x5 x6 x3 σ
        else
          j_feed_71 n call h0 qs ks (l_feed_18 n call h0 qs ks f) x1 x2 x3 x4 x5 x6 x2 σ
      else
        j_feed_71 n call h0 qs ks (l_feed_18 n call h0 qs ks f) x1 x2 x3 x4 x5 x6 x1 σ
def b_feed (n : Nat) (call : zCl) (h0 : Nat) (qs : List Nat) (ks : Nat → Nat) (x1 : Int32) (x2 : Int32) (x3 : Int32) (x4 : Int32) (x5 : Int32) (σ : zSt) : zRs :=
  if ((σ.1 3) + 20) ≤ 2000 then
    l_feed_18 n call h0 qs ks n x1 x2 x3 x4 x5 0 σ
  else
    some (some (.int 0), σ)
set_option maxHeartbeats 4000000 in
theorem pj_feed_71 {h0 : Nat} {qs : List Nat} {ks : Nat → Nat} {n : Nat} {call : zCl} {kc : Nat → List Value → zSt → (Option Value → zSt → Prop) → Prop} {v : Option Value × zSt} {X : Nat → zLv → List Value → zSt → Prop} (hX : zSem cX13_feed 8 (some .boolean) h0 qs ks kc (fun r u => (r, u) = v) X) (hc : ∀ j av s w, call j av s = some w → kc j av s (fun r u => (r, u) = w)) {k18 : Int32 → Int32 → Int32 → Int32 → Int32 → Int32 → zSt → zRs} (hk18 : ∀ (x1 : Int32) (x2 : Int32) (x3 : Int32) (x4 : Int32) (x5 : Int32) (x6 : Int32) (s : zSt), k18 x1 x2 x3 x4 x5 x6 s = some v → X 18 [some (.ref h0), some (.int x1), some (.int x2), some (.int x3), some (.int x4), some (.int x5), some (.int x6), none] [] s) {x1 : Int32} {x2 : Int32} {x3 : Int32} {x4 : Int32} {x5 : Int32} {x6 : Int32} {t0 : Int32} {σ : zSt} (h : j_feed_71 n call h0 qs ks k18 x1 x2 x3 x4 x5 x6 t0 σ = some v) : X 71 [some (.ref h0), some (.int x1), some (.int x2), some (.int x3), some (.int x4), some (.int x5), some (.int x6), none] [.int t0] σ := by
  rw [j_feed_71] at h
  refine zs_istore hX dX13_feed_71 (by decide) rfl ?_
  dsimp only [List.set]
  refine zs_aload_n hX dX13_feed_73 rfl rfl ?_
  refine zg_tape hX dX13_feed_74 ?_
  refine zs_aload_n hX dX13_feed_77 rfl rfl ?_
  refine zg_length hX dX13_feed_78 ?_
  refine zs_iload hX dX13_feed_81 rfl ?_
  refine zs_bipush (v := 24) hX dX13_feed_83 (by decide) ?_
  refine zs_bipush (v := 8) hX dX13_feed_85 (by decide) ?_
  refine zs_iload hX dX13_feed_87 rfl ?_
  refine zs_iconst (v := 4) hX dX13_feed_89 (by decide) ?_
  obtain ⟨b1, h⟩ := zgd_e h
  refine zs_irem hX dX13_feed_90 (znz_ok b1) ?_
  refine zs_imul hX dX13_feed_91 ?_
  refine zs_isub hX dX13_feed_92 ?_
  refine zs_ishr hX dX13_feed_93 ?_
  refine zs_i2b hX dX13_feed_94 ?_
  obtain ⟨b2, h⟩ := zgd_e h
  obtain ⟨s3, e4, h⟩ := zlet_e h
  refine zt_tape hX dX13_feed_95 (zin_ok b2) ?_
  rw [← e4]
  refine zs_aload_n hX dX13_feed_96 rfl rfl ?_
  refine zs_dup hX dX13_feed_97 rfl ?_
  refine zg_length hX dX13_feed_98 ?_
  refine zs_iconst (v := 1) hX dX13_feed_101 (by decide) ?_
  refine zs_iadd hX dX13_feed_102 ?_
  obtain ⟨s5, e6, h⟩ := zlet_e h
  refine zp_length hX dX13_feed_103 ?_
  rw [← e6]
  refine zs_iinc (v := x6 + 1) hX dX13_feed_106 rfl rfl (by decide) rfl ?_
  dsimp only [List.set]
  refine zs_goto (tgt := 18) hX dX13_feed_109 (by decide) ?_
  refine zs_weak hX (lw := [some (.ref h0), some (.int x1), some (.int x2), some (.int x3), some (.int x4), some (.int x5), some (.int (x6 + 1)), none]) ⟨rfl, rfl, rfl, rfl, rfl, rfl, rfl, trivial⟩ ?_
  exact hk18 _ _ _ _ _ _ _ h
set_option maxHeartbeats 4000000 in
theorem pl_feed_18 {h0 : Nat} {qs : List Nat} {ks : Nat → Nat} {n : Nat} {call : zCl} {kc : Nat → List Value → zSt → (Option Value → zSt → Prop) → Prop} {v : Option Value × zSt} {X : Nat → zLv → List Value → zSt → Prop} (hX : zSem cX13_feed 8 (some .boolean) h0 qs ks kc (fun r u => (r, u) = v) X) (hc : ∀ j av s w, call j av s = some w → kc j av s (fun r u => (r, u) = w)) : ∀ (f : Nat) (x1 : Int32) (x2 : Int32) (x3 : Int32) (x4 : Int32) (x5 : Int32) (x6 : Int32) (σ : zSt), l_feed_18 n call h0 qs ks f x1 x2 x3 x4 x5 x6 σ = some v → X 18 [some (.ref h0), some (.int x1), some (.int x2), some (.int x3), some (.int x4), some (.int x5), some (.int x6), none] [] σ := by
  intro f
  induction f with
  | zero => intro x1 x2 x3 x4 x5 x6 σ h; cases h
  | succ f hk18 =>
    intro x1 x2 x3 x4 x5 x6 σ h
    rw [l_feed_18] at h
    refine zs_iload hX dX13_feed_18 rfl ?_
    refine zs_bipush (v := 20) hX dX13_feed_20 (by decide) ?_
    refine zs_icmp_ge (tgt := 112) hX dX13_feed_22 (by decide) (fun c1 => ?_) (fun c1 => ?_)
    · rw [if_pos c1] at h
      refine zs_iconst (v := 1) hX dX13_feed_112 (by decide) ?_
      exact zs_zret hX dX13_feed_113 rfl (by decide) (Option.some.inj h)
    · rw [if_neg c1] at h
      refine zs_iload hX dX13_feed_25 rfl ?_
      refine zs_iconst (v := 4) hX dX13_feed_27 (by decide) ?_
      refine zs_icmp_ge (tgt := 35) hX dX13_feed_28 (by decide) (fun c2 => ?_) (fun c2 => ?_)
      · rw [if_pos c2] at h
        refine zs_iload hX dX13_feed_35 rfl ?_
        refine zs_bipush (v := 8) hX dX13_feed_37 (by decide) ?_
        refine zs_icmp_ge (tgt := 46) hX dX13_feed_39 (by decide) (fun c3 => ?_) (fun c3 => ?_)
        · rw [if_pos c3] at h
          refine zs_iload hX dX13_feed_46 rfl ?_
          refine zs_bipush (v := 12) hX dX13_feed_48 (by decide) ?_
          refine zs_icmp_ge (tgt := 57) hX dX13_feed_50 (by decide) (fun c4 => ?_) (fun c4 => ?_)
          · rw [if_pos c4] at h
            refine zs_iload hX dX13_feed_57 rfl ?_
            refine zs_bipush (v := 16) hX dX13_feed_59 (by decide) ?_
            refine zs_icmp_ge (tgt := 69) hX dX13_feed_61 (by decide) (fun c5 => ?_) (fun c5 => ?_)
            · rw [if_pos c5] at h
              refine zs_iload hX dX13_feed_69 rfl ?_
              exact pj_feed_71 hX hc hk18 h
            · rw [if_neg c5] at h
              refine zs_iload hX dX13_feed_64 rfl ?_
              refine zs_goto (tgt := 71) hX dX13_feed_66 (by decide) ?_
              exact pj_feed_71 hX hc hk18 h
          · rw [if_neg c4] at h
            refine zs_iload_n hX dX13_feed_53 rfl rfl ?_
            refine zs_goto (tgt := 71) hX dX13_feed_54 (by decide) ?_
            exact pj_feed_71 hX hc hk18 h
        · rw [if_neg c3] at h
          refine zs_iload_n hX dX13_feed_42 rfl rfl ?_
          refine zs_goto (tgt := 71) hX dX13_feed_43 (by decide) ?_
          exact pj_feed_71 hX hc hk18 h
      · rw [if_neg c2] at h
        refine zs_iload_n hX dX13_feed_31 rfl rfl ?_
        refine zs_goto (tgt := 71) hX dX13_feed_32 (by decide) ?_
        exact pj_feed_71 hX hc hk18 h
set_option maxHeartbeats 4000000 in
theorem pb_feed {h0 : Nat} {qs : List Nat} {ks : Nat → Nat} {n : Nat} {call : zCl} {kc : Nat → List Value → zSt → (Option Value → zSt → Prop) → Prop} {v : Option Value × zSt} {X : Nat → zLv → List Value → zSt → Prop} (hX : zSem cX13_feed 8 (some .boolean) h0 qs ks kc (fun r u => (r, u) = v) X) (hc : ∀ j av s w, call j av s = some w → kc j av s (fun r u => (r, u) = w)) {x1 : Int32} {x2 : Int32} {x3 : Int32} {x4 : Int32} {x5 : Int32} {σ : zSt} (h : b_feed n call h0 qs ks x1 x2 x3 x4 x5 σ = some v) : X 0 [some (.ref h0), some (.int x1), some (.int x2), some (.int x3), some (.int x4), some (.int x5), none, none] [] σ := by
  rw [b_feed] at h
  refine zs_aload_n hX dX13_feed_0 rfl rfl ?_
  refine zg_length hX dX13_feed_1 ?_
  refine zs_bipush (v := 20) hX dX13_feed_4 (by decide) ?_
  refine zs_iadd hX dX13_feed_6 ?_
  refine zs_sipush (v := 2000) hX dX13_feed_7 (by decide) ?_
  refine zs_icmp_le (tgt := 15) hX dX13_feed_10 (by decide) (fun c1 => ?_) (fun c1 => ?_)
  · rw [if_pos c1] at h
    refine zs_iconst (v := 0) hX dX13_feed_15 (by decide) ?_
    refine zs_istore hX dX13_feed_16 (by decide) rfl ?_
    dsimp only [List.set]
    exact pl_feed_18 hX hc n _ _ _ _ _ _ _ h
  · rw [if_neg c1] at h
    refine zs_iconst (v := 0) hX dX13_feed_13 (by decide) ?_
    exact zs_zret hX dX13_feed_14 rfl (by decide) (Option.some.inj h)
def b_end (n : Nat) (call : zCl) (h0 : Nat) (qs : List Nat) (ks : Nat → Nat) (x1 : Int32) (σ : zSt) : zRs :=
  if x1 < 0 then
    some (some (.int 0), σ)
  else
    if x1 ≤ (σ.1 3) then
      zlet (zI σ 3 x1) fun s3 =>
      some (some (.int 1), s3)
    else
      some (some (.int 0), σ)
set_option maxHeartbeats 4000000 in
theorem pb_end {h0 : Nat} {qs : List Nat} {ks : Nat → Nat} {n : Nat} {call : zCl} {kc : Nat → List Value → zSt → (Option Value → zSt → Prop) → Prop} {v : Option Value × zSt} {X : Nat → zLv → List Value → zSt → Prop} (hX : zSem cX13_end 2 (some .boolean) h0 qs ks kc (fun r u => (r, u) = v) X) (hc : ∀ j av s w, call j av s = some w → kc j av s (fun r u => (r, u) = w)) {x1 : Int32} {σ : zSt} (h : b_end n call h0 qs ks x1 σ = some v) : X 0 [some (.ref h0), some (.int x1)] [] σ := by
  rw [b_end] at h
  refine zs_iload_n hX dX13_end_0 rfl rfl ?_
  refine zs_if_lt (tgt := 12) hX dX13_end_1 (by decide) (fun c1 => ?_) (fun c1 => ?_)
  · rw [if_pos c1] at h
    refine zs_iconst (v := 0) hX dX13_end_12 (by decide) ?_
    exact zs_zret hX dX13_end_13 rfl (by decide) (Option.some.inj h)
  · rw [if_neg c1] at h
    refine zs_iload_n hX dX13_end_4 rfl rfl ?_
    refine zs_aload_n hX dX13_end_5 rfl rfl ?_
    refine zg_length hX dX13_end_6 ?_
    refine zs_icmp_le (tgt := 14) hX dX13_end_9 (by decide) (fun c2 => ?_) (fun c2 => ?_)
    · rw [if_pos c2] at h
      refine zs_aload_n hX dX13_end_14 rfl rfl ?_
      refine zs_iload_n hX dX13_end_15 rfl rfl ?_
      obtain ⟨s3, e4, h⟩ := zlet_e h
      refine zp_length hX dX13_end_16 ?_
      rw [← e4]
      refine zs_iconst (v := 1) hX dX13_end_19 (by decide) ?_
      exact zs_zret hX dX13_end_20 rfl (by decide) (Option.some.inj h)
    · rw [if_neg c2] at h
      refine zs_iconst (v := 0) hX dX13_end_12 (by decide) ?_
      exact zs_zret hX dX13_end_13 rfl (by decide) (Option.some.inj h)
def b_out (n : Nat) (call : zCl) (h0 : Nat) (qs : List Nat) (ks : Nat → Nat) (x1 : Int32) (σ : zSt) : zRs :=
  if x1 = (-1) then
    some (some (.int (σ.1 5)), σ)
  else
    if x1 < 0 then
      some (some (.int (-1)), σ)
    else
      if (σ.1 5) ≤ x1 then
        some (some (.int (-1)), σ)
      else
        zgd (zin x1 16000) (
        some (some (.int ((σ.2.2.1 2 (x1).toNatClampNeg) &&& 255)), σ))
set_option maxHeartbeats 4000000 in
theorem pb_out {h0 : Nat} {qs : List Nat} {ks : Nat → Nat} {n : Nat} {call : zCl} {kc : Nat → List Value → zSt → (Option Value → zSt → Prop) → Prop} {v : Option Value × zSt} {X : Nat → zLv → List Value → zSt → Prop} (hX : zSem cX13_out 2 (some .int) h0 qs ks kc (fun r u => (r, u) = v) X) (hc : ∀ j av s w, call j av s = some w → kc j av s (fun r u => (r, u) = w)) {x1 : Int32} {σ : zSt} (h : b_out n call h0 qs ks x1 σ = some v) : X 0 [some (.ref h0), some (.int x1)] [] σ := by
  rw [b_out] at h
  refine zs_iload_n hX dX13_out_0 rfl rfl ?_
  refine zs_iconst (v := (-1)) hX dX13_out_1 (by decide) ?_
  refine zs_icmp_ne (tgt := 12) hX dX13_out_2 (by decide) (fun c1 => ?_) (fun c1 => ?_)
  · rw [if_neg c1] at h
    refine zs_iload_n hX dX13_out_12 rfl rfl ?_
    refine zs_if_lt (tgt := 37) hX dX13_out_13 (by decide) (fun c2 => ?_) (fun c2 => ?_)
    · rw [if_pos c2] at h
      refine zs_iconst (v := (-1)) hX dX13_out_37 (by decide) ?_
      exact zs_iret hX dX13_out_38 rfl (Option.some.inj h)
    · rw [if_neg c2] at h
      refine zs_iload_n hX dX13_out_16 rfl rfl ?_
      refine zs_aload_n hX dX13_out_17 rfl rfl ?_
      refine zg_outMany hX dX13_out_18 ?_
      refine zs_icmp_ge (tgt := 37) hX dX13_out_21 (by decide) (fun c3 => ?_) (fun c3 => ?_)
      · rw [if_pos c3] at h
        refine zs_iconst (v := (-1)) hX dX13_out_37 (by decide) ?_
        exact zs_iret hX dX13_out_38 rfl (Option.some.inj h)
      · rw [if_neg c3] at h
        refine zs_aload_n hX dX13_out_24 rfl rfl ?_
        refine zg_outs hX dX13_out_25 ?_
        refine zs_iload_n hX dX13_out_28 rfl rfl ?_
        obtain ⟨b4, h⟩ := zgd_e h
        refine zl_outs hX dX13_out_29 (zin_ok b4) ?_
        refine zs_sipush (v := 255) hX dX13_out_30 (by decide) ?_
        refine zs_iand hX dX13_out_33 ?_
        refine zs_goto (tgt := 38) hX dX13_out_34 (by decide) ?_
        exact zs_iret hX dX13_out_38 rfl (Option.some.inj h)
  · rw [if_pos c1] at h
    refine zs_aload_n hX dX13_out_5 rfl rfl ?_
    refine zg_outMany hX dX13_out_6 ?_
    refine zs_goto (tgt := 38) hX dX13_out_9 (by decide) ?_
    exact zs_iret hX dX13_out_38 rfl (Option.some.inj h)
def b_fault (n : Nat) (call : zCl) (h0 : Nat) (qs : List Nat) (ks : Nat → Nat) (x1 : Int32) (x2 : Int32) (σ : zSt) : zRs :=
  if (σ.1 11) = 0 then
    zlet (zI σ 11 x1) fun s2 =>
    zlet (zI s2 12 x2) fun s4 =>
    some (none, s4)
  else
    some (none, σ)
set_option maxHeartbeats 4000000 in
theorem pb_fault {h0 : Nat} {qs : List Nat} {ks : Nat → Nat} {n : Nat} {call : zCl} {kc : Nat → List Value → zSt → (Option Value → zSt → Prop) → Prop} {v : Option Value × zSt} {X : Nat → zLv → List Value → zSt → Prop} (hX : zSem cX13_fault 3 none h0 qs ks kc (fun r u => (r, u) = v) X) (hc : ∀ j av s w, call j av s = some w → kc j av s (fun r u => (r, u) = w)) {x1 : Int32} {x2 : Int32} {σ : zSt} (h : b_fault n call h0 qs ks x1 x2 σ = some v) : X 0 [some (.ref h0), some (.int x1), some (.int x2)] [] σ := by
  rw [b_fault] at h
  refine zs_aload_n hX dX13_fault_0 rfl rfl ?_
  refine zg_bad hX dX13_fault_1 ?_
  refine zs_if_eq (tgt := 8) hX dX13_fault_4 (by decide) (fun c1 => ?_) (fun c1 => ?_)
  · rw [if_pos c1] at h
    refine zs_aload_n hX dX13_fault_8 rfl rfl ?_
    refine zs_iload_n hX dX13_fault_9 rfl rfl ?_
    obtain ⟨s2, e3, h⟩ := zlet_e h
    refine zp_bad hX dX13_fault_10 ?_
    rw [← e3]
    refine zs_aload_n hX dX13_fault_13 rfl rfl ?_
    refine zs_iload_n hX dX13_fault_14 rfl rfl ?_
    obtain ⟨s4, e5, h⟩ := zlet_e h
    refine zp_badAt hX dX13_fault_15 ?_
    rw [← e5]
    exact zs_vret hX dX13_fault_18 rfl (Option.some.inj h)
  · rw [if_neg c1] at h
    exact zs_vret hX dX13_fault_7 rfl (Option.some.inj h)
def b_isLow (n : Nat) (call : zCl) (h0 : Nat) (qs : List Nat) (ks : Nat → Nat) (x0 : Int32) (σ : zSt) : zRs :=
  if x0 < 97 then
    some (some (.int 0), σ)
  else
    if 122 < x0 then
      some (some (.int 0), σ)
    else
      some (some (.int 1), σ)
set_option maxHeartbeats 4000000 in
theorem pb_isLow {h0 : Nat} {qs : List Nat} {ks : Nat → Nat} {n : Nat} {call : zCl} {kc : Nat → List Value → zSt → (Option Value → zSt → Prop) → Prop} {v : Option Value × zSt} {X : Nat → zLv → List Value → zSt → Prop} (hX : zSem cX13_isLow 1 (some .boolean) h0 qs ks kc (fun r u => (r, u) = v) X) (hc : ∀ j av s w, call j av s = some w → kc j av s (fun r u => (r, u) = w)) {x0 : Int32} {σ : zSt} (h : b_isLow n call h0 qs ks x0 σ = some v) : X 0 [some (.int x0)] [] σ := by
  rw [b_isLow] at h
  refine zs_iload_n hX dX13_isLow_0 rfl rfl ?_
  refine zs_bipush (v := 97) hX dX13_isLow_1 (by decide) ?_
  refine zs_icmp_lt (tgt := 16) hX dX13_isLow_3 (by decide) (fun c1 => ?_) (fun c1 => ?_)
  · rw [if_pos c1] at h
    refine zs_iconst (v := 0) hX dX13_isLow_16 (by decide) ?_
    exact zs_zret hX dX13_isLow_17 rfl (by decide) (Option.some.inj h)
  · rw [if_neg c1] at h
    refine zs_iload_n hX dX13_isLow_6 rfl rfl ?_
    refine zs_bipush (v := 122) hX dX13_isLow_7 (by decide) ?_
    refine zs_icmp_gt (tgt := 16) hX dX13_isLow_9 (by decide) (fun c2 => ?_) (fun c2 => ?_)
    · rw [if_pos c2] at h
      refine zs_iconst (v := 0) hX dX13_isLow_16 (by decide) ?_
      exact zs_zret hX dX13_isLow_17 rfl (by decide) (Option.some.inj h)
    · rw [if_neg c2] at h
      refine zs_iconst (v := 1) hX dX13_isLow_12 (by decide) ?_
      refine zs_goto (tgt := 17) hX dX13_isLow_13 (by decide) ?_
      exact zs_zret hX dX13_isLow_17 rfl (by decide) (Option.some.inj h)
def b_isDigit (n : Nat) (call : zCl) (h0 : Nat) (qs : List Nat) (ks : Nat → Nat) (x0 : Int32) (σ : zSt) : zRs :=
  if x0 < 48 then
    some (some (.int 0), σ)
  else
    if 57 < x0 then
      some (some (.int 0), σ)
    else
      some (some (.int 1), σ)
set_option maxHeartbeats 4000000 in
theorem pb_isDigit {h0 : Nat} {qs : List Nat} {ks : Nat → Nat} {n : Nat} {call : zCl} {kc : Nat → List Value → zSt → (Option Value → zSt → Prop) → Prop} {v : Option Value × zSt} {X : Nat → zLv → List Value → zSt → Prop} (hX : zSem cX13_isDigit 1 (some .boolean) h0 qs ks kc (fun r u => (r, u) = v) X) (hc : ∀ j av s w, call j av s = some w → kc j av s (fun r u => (r, u) = w)) {x0 : Int32} {σ : zSt} (h : b_isDigit n call h0 qs ks x0 σ = some v) : X 0 [some (.int x0)] [] σ := by
  rw [b_isDigit] at h
  refine zs_iload_n hX dX13_isDigit_0 rfl rfl ?_
  refine zs_bipush (v := 48) hX dX13_isDigit_1 (by decide) ?_
  refine zs_icmp_lt (tgt := 16) hX dX13_isDigit_3 (by decide) (fun c1 => ?_) (fun c1 => ?_)
  · rw [if_pos c1] at h
    refine zs_iconst (v := 0) hX dX13_isDigit_16 (by decide) ?_
    exact zs_zret hX dX13_isDigit_17 rfl (by decide) (Option.some.inj h)
  · rw [if_neg c1] at h
    refine zs_iload_n hX dX13_isDigit_6 rfl rfl ?_
    refine zs_bipush (v := 57) hX dX13_isDigit_7 (by decide) ?_
    refine zs_icmp_gt (tgt := 16) hX dX13_isDigit_9 (by decide) (fun c2 => ?_) (fun c2 => ?_)
    · rw [if_pos c2] at h
      refine zs_iconst (v := 0) hX dX13_isDigit_16 (by decide) ?_
      exact zs_zret hX dX13_isDigit_17 rfl (by decide) (Option.some.inj h)
    · rw [if_neg c2] at h
      refine zs_iconst (v := 1) hX dX13_isDigit_12 (by decide) ?_
      refine zs_goto (tgt := 17) hX dX13_isDigit_13 (by decide) ?_
      exact zs_zret hX dX13_isDigit_17 rfl (by decide) (Option.some.inj h)
def b_word (n : Nat) (call : zCl) (h0 : Nat) (qs : List Nat) (ks : Nat → Nat) (x1 : Int32) (x2 : Int32) (x3 : Int32) (σ : zSt) : zRs :=
  zgd (zin (σ.1 9) 2010) (zlet (zA σ 3 (upd (σ.2.2.1 3) ((σ.1 9)).toNatClampNeg x1)) fun s2 =>
  zgd (zin (s2.1 9) 2010) (zlet (zA s2 4 (upd (s2.2.2.1 4) ((s2.1 9)).toNatClampNeg x2)) fun s5 =>
  zgd (zin (s5.1 9) 2010) (zlet (zA s5 5 (upd (s5.2.2.1 5) ((s5.1 9)).toNatClampNeg x3)) fun s8 =>
  zlet (zI s8 9 ((s8.1 9) + 1)) fun s10 =>
  some (none, s10))))
set_option maxHeartbeats 4000000 in
theorem pb_word {h0 : Nat} {qs : List Nat} {ks : Nat → Nat} {n : Nat} {call : zCl} {kc : Nat → List Value → zSt → (Option Value → zSt → Prop) → Prop} {v : Option Value × zSt} {X : Nat → zLv → List Value → zSt → Prop} (hX : zSem cX13_word 4 none h0 qs ks kc (fun r u => (r, u) = v) X) (hc : ∀ j av s w, call j av s = some w → kc j av s (fun r u => (r, u) = w)) {x1 : Int32} {x2 : Int32} {x3 : Int32} {σ : zSt} (h : b_word n call h0 qs ks x1 x2 x3 σ = some v) : X 0 [some (.ref h0), some (.int x1), some (.int x2), some (.int x3)] [] σ := by
  rw [b_word] at h
  refine zs_aload_n hX dX13_word_0 rfl rfl ?_
  refine zg_wKind hX dX13_word_1 ?_
  refine zs_aload_n hX dX13_word_4 rfl rfl ?_
  refine zg_words hX dX13_word_5 ?_
  refine zs_iload_n hX dX13_word_8 rfl rfl ?_
  obtain ⟨b1, h⟩ := zgd_e h
  obtain ⟨s2, e3, h⟩ := zlet_e h
  refine zt_wKind hX dX13_word_9 (zin_ok b1) ?_
  rw [← e3]
  refine zs_aload_n hX dX13_word_10 rfl rfl ?_
  refine zg_wAt hX dX13_word_11 ?_
  refine zs_aload_n hX dX13_word_14 rfl rfl ?_
  refine zg_words hX dX13_word_15 ?_
  refine zs_iload_n hX dX13_word_18 rfl rfl ?_
  obtain ⟨b4, h⟩ := zgd_e h
  obtain ⟨s5, e6, h⟩ := zlet_e h
  refine zt_wAt hX dX13_word_19 (zin_ok b4) ?_
  rw [← e6]
  refine zs_aload_n hX dX13_word_20 rfl rfl ?_
  refine zg_wEnd hX dX13_word_21 ?_
  refine zs_aload_n hX dX13_word_24 rfl rfl ?_
  refine zg_words hX dX13_word_25 ?_
  refine zs_iload_n hX dX13_word_28 rfl rfl ?_
  obtain ⟨b7, h⟩ := zgd_e h
  obtain ⟨s8, e9, h⟩ := zlet_e h
  refine zt_wEnd hX dX13_word_29 (zin_ok b7) ?_
  rw [← e9]
  refine zs_aload_n hX dX13_word_30 rfl rfl ?_
  refine zs_dup hX dX13_word_31 rfl ?_
  refine zg_words hX dX13_word_32 ?_
  refine zs_iconst (v := 1) hX dX13_word_35 (by decide) ?_
  refine zs_iadd hX dX13_word_36 ?_
  obtain ⟨s10, e11, h⟩ := zlet_e h
  refine zp_words hX dX13_word_37 ?_
  rw [← e11]
  exact zs_vret hX dX13_word_40 rfl (Option.some.inj h)
def l_isText_33 (n : Nat) (call : zCl) (h0 : Nat) (qs : List Nat) (ks : Nat → Nat) : Nat → Int32 → Nat → Int32 → zSt → zRs
  | 0, _, _, _, _ => none
  | f + 1, x1, x2, x3, σ =>
    zso (zslen ks x2) fun r1 =>
    if r1 ≤ x3 then
      some (some (.int 1), σ)
    else
      zgd (zin x1 2010) (
      zgd (zin ((σ.2.2.1 4 (x1).toNatClampNeg) + x3) 2000) (
      zso (zschr ks x2 x3) fun r6 =>
      if (σ.2.2.1 1 (((σ.2.2.1 4 (x1).toNatClampNeg) + x3)).toNatClampNeg) = r6 then
        l_isText_33 n call h0 qs ks f x1 x2 (x3 + 1) σ
      else
        some (some (.int 0), σ)))
def b_isText (n : Nat) (call : zCl) (h0 : Nat) (qs : List Nat) (ks : Nat → Nat) (x1 : Int32) (x2 : Nat) (σ : zSt) : zRs :=
  zgd (zin x1 2010) (
  if (σ.2.2.1 3 (x1).toNatClampNeg) = 0 then
    some (some (.int 0), σ)
  else
    zgd (zin x1 2010) (
    zgd (zin x1 2010) (
    zso (zslen ks x2) fun r5 =>
    if ((σ.2.2.1 5 (x1).toNatClampNeg) - (σ.2.2.1 4 (x1).toNatClampNeg)) = r5 then
      l_isText_33 n call h0 qs ks n x1 x2 0 σ
    else
      some (some (.int 0), σ))))
set_option maxHeartbeats 4000000 in
theorem pl_isText_33 {h0 : Nat} {qs : List Nat} {ks : Nat → Nat} {n : Nat} {call : zCl} {kc : Nat → List Value → zSt → (Option Value → zSt → Prop) → Prop} {v : Option Value × zSt} {X : Nat → zLv → List Value → zSt → Prop} (hX : zSem cX13_isText 4 (some .boolean) h0 qs ks kc (fun r u => (r, u) = v) X) (hc : ∀ j av s w, call j av s = some w → kc j av s (fun r u => (r, u) = w)) : ∀ (f : Nat) (x1 : Int32) (x2 : Nat) (x3 : Int32) (σ : zSt), l_isText_33 n call h0 qs ks f x1 x2 x3 σ = some v → X 33 [some (.ref h0), some (.int x1), some (.ref x2), some (.int x3)] [] σ := by
  intro f
  induction f with
  | zero => intro x1 x2 x3 σ h; cases h
  | succ f hk33 =>
    intro x1 x2 x3 σ h
    rw [l_isText_33] at h
    refine zs_iload_n hX dX13_isText_33 rfl rfl ?_
    refine zs_aload_n hX dX13_isText_34 rfl rfl ?_
    obtain ⟨r1, e2, h⟩ := zso_e h
    refine zs_slen hX dX13_isText_35 e2 (Nat.le_of_ble_eq_true rfl) ?_
    refine zs_icmp_ge (tgt := 70) hX dX13_isText_38 (by decide) (fun c3 => ?_) (fun c3 => ?_)
    · rw [if_pos c3] at h
      refine zs_iconst (v := 1) hX dX13_isText_70 (by decide) ?_
      exact zs_zret hX dX13_isText_71 rfl (by decide) (Option.some.inj h)
    · rw [if_neg c3] at h
      refine zs_aload_n hX dX13_isText_41 rfl rfl ?_
      refine zg_text hX dX13_isText_42 ?_
      refine zs_aload_n hX dX13_isText_45 rfl rfl ?_
      refine zg_wAt hX dX13_isText_46 ?_
      refine zs_iload_n hX dX13_isText_49 rfl rfl ?_
      obtain ⟨b4, h⟩ := zgd_e h
      refine zl_wAt hX dX13_isText_50 (zin_ok b4) ?_
      refine zs_iload_n hX dX13_isText_51 rfl rfl ?_
      refine zs_iadd hX dX13_isText_52 ?_
      obtain ⟨b5, h⟩ := zgd_e h
      refine zl_text hX dX13_isText_53 (zin_ok b5) ?_
      refine zs_aload_n hX dX13_isText_54 rfl rfl ?_
      refine zs_iload_n hX dX13_isText_55 rfl rfl ?_
      obtain ⟨r6, e7, h⟩ := zso_e h
      refine zs_schr hX dX13_isText_56 e7 (Nat.le_of_ble_eq_true rfl) ?_
      refine zs_icmp_eq (tgt := 64) hX dX13_isText_59 (by decide) (fun c8 => ?_) (fun c8 => ?_)
      · rw [if_pos c8] at h
        refine zs_iinc (v := x3 + 1) hX dX13_isText_64 rfl rfl (by decide) rfl ?_
        dsimp only [List.set]
        refine zs_goto (tgt := 33) hX dX13_isText_67 (by decide) ?_
        exact hk33 _ _ _ _ h
      · rw [if_neg c8] at h
        refine zs_iconst (v := 0) hX dX13_isText_62 (by decide) ?_
        exact zs_zret hX dX13_isText_63 rfl (by decide) (Option.some.inj h)
set_option maxHeartbeats 4000000 in
theorem pb_isText {h0 : Nat} {qs : List Nat} {ks : Nat → Nat} {n : Nat} {call : zCl} {kc : Nat → List Value → zSt → (Option Value → zSt → Prop) → Prop} {v : Option Value × zSt} {X : Nat → zLv → List Value → zSt → Prop} (hX : zSem cX13_isText 4 (some .boolean) h0 qs ks kc (fun r u => (r, u) = v) X) (hc : ∀ j av s w, call j av s = some w → kc j av s (fun r u => (r, u) = w)) {x1 : Int32} {x2 : Nat} {σ : zSt} (h : b_isText n call h0 qs ks x1 x2 σ = some v) : X 0 [some (.ref h0), some (.int x1), some (.ref x2), none] [] σ := by
  rw [b_isText] at h
  refine zs_aload_n hX dX13_isText_0 rfl rfl ?_
  refine zg_wKind hX dX13_isText_1 ?_
  refine zs_iload_n hX dX13_isText_4 rfl rfl ?_
  obtain ⟨b1, h⟩ := zgd_e h
  refine zl_wKind hX dX13_isText_5 (zin_ok b1) ?_
  refine zs_if_eq (tgt := 29) hX dX13_isText_6 (by decide) (fun c2 => ?_) (fun c2 => ?_)
  · rw [if_pos c2] at h
    refine zs_iconst (v := 0) hX dX13_isText_29 (by decide) ?_
    exact zs_zret hX dX13_isText_30 rfl (by decide) (Option.some.inj h)
  · rw [if_neg c2] at h
    refine zs_aload_n hX dX13_isText_9 rfl rfl ?_
    refine zg_wEnd hX dX13_isText_10 ?_
    refine zs_iload_n hX dX13_isText_13 rfl rfl ?_
    obtain ⟨b3, h⟩ := zgd_e h
    refine zl_wEnd hX dX13_isText_14 (zin_ok b3) ?_
    refine zs_aload_n hX dX13_isText_15 rfl rfl ?_
    refine zg_wAt hX dX13_isText_16 ?_
    refine zs_iload_n hX dX13_isText_19 rfl rfl ?_
    obtain ⟨b4, h⟩ := zgd_e h
    refine zl_wAt hX dX13_isText_20 (zin_ok b4) ?_
    refine zs_isub hX dX13_isText_21 ?_
    refine zs_aload_n hX dX13_isText_22 rfl rfl ?_
    obtain ⟨r5, e6, h⟩ := zso_e h
    refine zs_slen hX dX13_isText_23 e6 (Nat.le_of_ble_eq_true rfl) ?_
    refine zs_icmp_eq (tgt := 31) hX dX13_isText_26 (by decide) (fun c7 => ?_) (fun c7 => ?_)
    · rw [if_pos c7] at h
      refine zs_iconst (v := 0) hX dX13_isText_31 (by decide) ?_
      refine zs_istore_n hX dX13_isText_32 rfl (by decide) rfl ?_
      dsimp only [List.set]
      exact pl_isText_33 hX hc n _ _ _ _ h
    · rw [if_neg c7] at h
      refine zs_iconst (v := 0) hX dX13_isText_29 (by decide) ?_
      exact zs_zret hX dX13_isText_30 rfl (by decide) (Option.some.inj h)
def j_isKey_117 (n : Nat) (call : zCl) (h0 : Nat) (qs : List Nat) (ks : Nat → Nat) (k16 : Int32 → Int32 → Int32 → zSt → zRs) (x1 : Int32) (x2 : Int32) (x4 : Int32) (x5 : Int32) (σ : zSt) : zRs :=
  if x5 = 0 then
    k16 x1 x2 (x4 + 1) σ
  else
    some (some (.int 1), σ)
def j_isKey_109 (n : Nat) (call : zCl) (h0 : Nat) (qs : List Nat) (ks : Nat → Nat) (k16 : Int32 → Int32 → Int32 → zSt → zRs) (k66 : Int32 → Int32 → Int32 → Int32 → Int32 → Int32 → zSt → zRs) (x1 : Int32) (x2 : Int32) (x3 : Int32) (x4 : Int32) (x6 : Int32) (t0 : Int32) (σ : zSt) : zRs :=
  k66 x1 x2 x3 x4 t0 (x6 + 1) σ
def l_isKey_66 (n : Nat) (call : zCl) (h0 : Nat) (qs : List Nat) (ks : Nat → Nat) (k16 : Int32 → Int32 → Int32 → zSt → zRs) : Nat → Int32 → Int32 → Int32 → Int32 → Int32 → Int32 → zSt → zRs
  | 0, _, _, _, _, _, _, _ => none
  | f + 1, x1, x2, x3, x4, x5, x6, σ =>
    if x2 ≤ x6 then
      j_isKey_117 n call h0 qs ks k16 x1 x2 x4 x5 σ
    else
      if x5 = 0 then
        j_isKey_117 n call h0 qs ks k16 x1 x2 x4 x5 σ
      else
        zgd (zin x1 2010) (
        zgd (zin ((σ.2.2.1 4 (x1).toNatClampNeg) + x6) 2000) (
        zso (zschr ks (ks 410) (x3 + x6)) fun r5 =>
        if (σ.2.2.1 1 (((σ.2.2.1 4 (x1).toNatClampNeg) + x6)).toNatClampNeg) = r5 then
          j_isKey_109 n call h0 qs ks k16 (l_isKey_66 n call h0 qs ks k16 f) x1 x2 x3 x4 x6 1 σ
        else
          j_isKey_109 n call h0 qs ks k16 (l_isKey_66 n call h0 qs ks k16 f) x1 x2 x3 x4 x6 0 σ))
def j_isKey_61 (n : Nat) (call : zCl) (h0 : Nat) (qs : List Nat) (ks : Nat → Nat) (k16 : Int32 → Int32 → Int32 → zSt → zRs) (x1 : Int32) (x2 : Int32) (x3 : Int32) (x4 : Int32) (t0 : Int32) (σ : zSt) : zRs :=
  l_isKey_66 n call h0 qs ks k16 n x1 x2 x3 x4 t0 0 σ
def l_isKey_29 (n : Nat) (call : zCl) (h0 : Nat) (qs : List Nat) (ks : Nat → Nat) (k16 : Int32 → Int32 → Int32 → zSt → zRs) : Nat → Int32 → Int32 → Int32 → Int32 → zSt → zRs
  | 0, _, _, _, _, _ => none
  | f + 1, x1, x2, x3, x4, σ =>
    zso (zschr ks (ks 410) x4) fun r1 =>
    if r1 = 32 then
      if (x4 - x3) = x2 then
        j_isKey_61 n call h0 qs ks k16 x1 x2 x3 x4 1 σ
      else
        j_isKey_61 n call h0 qs ks k16 x1 x2 x3 x4 0 σ
    else
      l_isKey_29 n call h0 qs ks k16 f x1 x2 x3 (x4 + 1) σ
def l_isKey_16 (n : Nat) (call : zCl) (h0 : Nat) (qs : List Nat) (ks : Nat → Nat) : Nat → Int32 → Int32 → Int32 → zSt → zRs
  | 0, _, _, _, _ => none
  | f + 1, x1, x2, x3, σ =>
    zso (zslen ks (ks 410)) fun r1 =>
    if r1 ≤ x3 then
      some (some (.int 0), σ)
    else
      l_isKey_29 n call h0 qs ks (l_isKey_16 n call h0 qs ks f) n x1 x2 x3 x3 σ
def b_isKey (n : Nat) (call : zCl) (h0 : Nat) (qs : List Nat) (ks : Nat → Nat) (x1 : Int32) (σ : zSt) : zRs :=
  zgd (zin x1 2010) (
  zgd (zin x1 2010) (
  l_isKey_16 n call h0 qs ks n x1 ((σ.2.2.1 5 (x1).toNatClampNeg) - (σ.2.2.1 4 (x1).toNatClampNeg)) 0 σ))
set_option maxHeartbeats 4000000 in
theorem pj_isKey_117 {h0 : Nat} {qs : List Nat} {ks : Nat → Nat} {n : Nat} {call : zCl} {kc : Nat → List Value → zSt → (Option Value → zSt → Prop) → Prop} {v : Option Value × zSt} {X : Nat → zLv → List Value → zSt → Prop} (hX : zSem cX13_isKey 7 (some .boolean) h0 qs ks kc (fun r u => (r, u) = v) X) (hc : ∀ j av s w, call j av s = some w → kc j av s (fun r u => (r, u) = w)) {k16 : Int32 → Int32 → Int32 → zSt → zRs} (hk16 : ∀ (x1 : Int32) (x2 : Int32) (x3 : Int32) (s : zSt), k16 x1 x2 x3 s = some v → X 16 [some (.ref h0), some (.int x1), some (.int x2), some (.int x3), none, none, none] [] s) {x1 : Int32} {x2 : Int32} {x4 : Int32} {x5 : Int32} {σ : zSt} (h : j_isKey_117 n call h0 qs ks k16 x1 x2 x4 x5 σ = some v) : X 117 [some (.ref h0), some (.int x1), some (.int x2), none, some (.int x4), some (.int x5), none] [] σ := by
  rw [j_isKey_117] at h
  refine zs_iload hX dX13_isKey_117 rfl ?_
  refine zs_if_eq (tgt := 124) hX dX13_isKey_119 (by decide) (fun c1 => ?_) (fun c1 => ?_)
  · rw [if_pos c1] at h
    refine zs_iload hX dX13_isKey_124 rfl ?_
    refine zs_iconst (v := 1) hX dX13_isKey_126 (by decide) ?_
    refine zs_iadd hX dX13_isKey_127 ?_
    refine zs_istore_n hX dX13_isKey_128 rfl (by decide) rfl ?_
    dsimp only [List.set]
    refine zs_goto (tgt := 16) hX dX13_isKey_129 (by decide) ?_
    refine zs_weak hX (lw := [some (.ref h0), some (.int x1), some (.int x2), some (.int (x4 + 1)), none, none, none]) ⟨rfl, rfl, rfl, rfl, trivial⟩ ?_
    exact hk16 _ _ _ _ h
  · rw [if_neg c1] at h
    refine zs_iconst (v := 1) hX dX13_isKey_122 (by decide) ?_
    exact zs_zret hX dX13_isKey_123 rfl (by decide) (Option.some.inj h)
set_option maxHeartbeats 4000000 in
theorem pj_isKey_109 {h0 : Nat} {qs : List Nat} {ks : Nat → Nat} {n : Nat} {call : zCl} {kc : Nat → List Value → zSt → (Option Value → zSt → Prop) → Prop} {v : Option Value × zSt} {X : Nat → zLv → List Value → zSt → Prop} (hX : zSem cX13_isKey 7 (some .boolean) h0 qs ks kc (fun r u => (r, u) = v) X) (hc : ∀ j av s w, call j av s = some w → kc j av s (fun r u => (r, u) = w)) {k16 : Int32 → Int32 → Int32 → zSt → zRs} (hk16 : ∀ (x1 : Int32) (x2 : Int32) (x3 : Int32) (s : zSt), k16 x1 x2 x3 s = some v → X 16 [some (.ref h0), some (.int x1), some (.int x2), some (.int x3), none, none, none] [] s) {k66 : Int32 → Int32 → Int32 → Int32 → Int32 → Int32 → zSt → zRs} (hk66 : ∀ (x1 : Int32) (x2 : Int32) (x3 : Int32) (x4 : Int32) (x5 : Int32) (x6 : Int32) (s : zSt), k66 x1 x2 x3 x4 x5 x6 s = some v → X 66 [some (.ref h0), some (.int x1), some (.int x2), some (.int x3), some (.int x4), some (.int x5), some (.int x6)] [] s) {x1 : Int32} {x2 : Int32} {x3 : Int32} {x4 : Int32} {x6 : Int32} {t0 : Int32} {σ : zSt} (h : j_isKey_109 n call h0 qs ks k16 k66 x1 x2 x3 x4 x6 t0 σ = some v) : X 109 [some (.ref h0), some (.int x1), some (.int x2), some (.int x3), some (.int x4), none, some (.int x6)] [.int t0] σ := by
  rw [j_isKey_109] at h
  refine zs_istore hX dX13_isKey_109 (by decide) rfl ?_
  dsimp only [List.set]
  refine zs_iinc (v := x6 + 1) hX dX13_isKey_111 rfl rfl (by decide) rfl ?_
  dsimp only [List.set]
  refine zs_goto (tgt := 66) hX dX13_isKey_114 (by decide) ?_
  exact hk66 _ _ _ _ _ _ _ h
set_option maxHeartbeats 4000000 in
theorem pl_isKey_66 {h0 : Nat} {qs : List Nat} {ks : Nat → Nat} {n : Nat} {call : zCl} {kc : Nat → List Value → zSt → (Option Value → zSt → Prop) → Prop} {v : Option Value × zSt} {X : Nat → zLv → List Value → zSt → Prop} (hX : zSem cX13_isKey 7 (some .boolean) h0 qs ks kc (fun r u => (r, u) = v) X) (hc : ∀ j av s w, call j av s = some w → kc j av s (fun r u => (r, u) = w)) {k16 : Int32 → Int32 → Int32 → zSt → zRs} (hk16 : ∀ (x1 : Int32) (x2 : Int32) (x3 : Int32) (s : zSt), k16 x1 x2 x3 s = some v → X 16 [some (.ref h0), some (.int x1), some (.int x2), some (.int x3), none, none, none] [] s) : ∀ (f : Nat) (x1 : Int32) (x2 : Int32) (x3 : Int32) (x4 : Int32) (x5 : Int32) (x6 : Int32) (σ : zSt), l_isKey_66 n call h0 qs ks k16 f x1 x2 x3 x4 x5 x6 σ = some v → X 66 [some (.ref h0), some (.int x1), some (.int x2), some (.int x3), some (.int x4), some (.int x5), some (.int x6)] [] σ := by
  intro f
  induction f with
  | zero => intro x1 x2 x3 x4 x5 x6 σ h; cases h
  | succ f hk66 =>
    intro x1 x2 x3 x4 x5 x6 σ h
    rw [l_isKey_66] at h
    refine zs_iload hX dX13_isKey_66 rfl ?_
    refine zs_iload_n hX dX13_isKey_68 rfl rfl ?_
    refine zs_icmp_ge (tgt := 117) hX dX13_isKey_69 (by decide) (fun c1 => ?_) (fun c1 => ?_)
    · rw [if_pos c1] at h
      refine zs_weak hX (lw := [some (.ref h0), some (.int x1), some (.int x2), none, some (.int x4), some (.int x5), none]) ⟨rfl, rfl, rfl, rfl, rfl, trivial⟩ ?_
      exact pj_isKey_117 hX hc hk16 h
    · rw [if_neg c1] at h
      refine zs_iload hX dX13_isKey_72 rfl ?_
      refine zs_if_eq (tgt := 117) hX dX13_isKey_74 (by decide) (fun c2 => ?_) (fun c2 => ?_)
      · rw [if_pos c2] at h
        refine zs_weak hX (lw := [some (.ref h0), some (.int x1), some (.int x2), none, some (.int x4), some (.int x5), none]) ⟨rfl, rfl, rfl, rfl, rfl, trivial⟩ ?_
        exact pj_isKey_117 hX hc hk16 h
      · rw [if_neg c2] at h
        refine zs_aload_n hX dX13_isKey_77 rfl rfl ?_
        refine zg_text hX dX13_isKey_78 ?_
        refine zs_aload_n hX dX13_isKey_81 rfl rfl ?_
        refine zg_wAt hX dX13_isKey_82 ?_
        refine zs_iload_n hX dX13_isKey_85 rfl rfl ?_
        obtain ⟨b3, h⟩ := zgd_e h
        refine zl_wAt hX dX13_isKey_86 (zin_ok b3) ?_
        refine zs_iload hX dX13_isKey_87 rfl ?_
        refine zs_iadd hX dX13_isKey_89 ?_
        obtain ⟨b4, h⟩ := zgd_e h
        refine zl_text hX dX13_isKey_90 (zin_ok b4) ?_
        refine zs_ldcS hX dX13_isKey_91 (List.mem_of_getElem? (i := 0) rfl) ?_
        refine zs_iload_n hX dX13_isKey_94 rfl rfl ?_
        refine zs_iload hX dX13_isKey_95 rfl ?_
        refine zs_iadd hX dX13_isKey_97 ?_
        obtain ⟨r5, e6, h⟩ := zso_e h
        refine zs_schr hX dX13_isKey_98 e6 (Nat.le_of_ble_eq_true rfl) ?_
        refine zs_icmp_ne (tgt := 108) hX dX13_isKey_101 (by decide) (fun c7 => ?_) (fun c7 => ?_)
        · rw [if_neg c7] at h
          refine zs_iconst (v := 0) hX dX13_isKey_108 (by decide) ?_
          refine zs_weak hX (lw := [some (.ref h0), some (.int x1), some (.int x2), some (.int x3), some (.int x4), none, some (.int x6)]) ⟨rfl, rfl, rfl, rfl, rfl, rfl, trivial⟩ ?_
          exact pj_isKey_109 hX hc hk16 hk66 h
        · rw [if_pos c7] at h
          refine zs_iconst (v := 1) hX dX13_isKey_104 (by decide) ?_
          refine zs_goto (tgt := 109) hX dX13_isKey_105 (by decide) ?_
          refine zs_weak hX (lw := [some (.ref h0), some (.int x1), some (.int x2), some (.int x3), some (.int x4), none, some (.int x6)]) ⟨rfl, rfl, rfl, rfl, rfl, rfl, trivial⟩ ?_
          exact pj_isKey_109 hX hc hk16 hk66 h
set_option maxHeartbeats 4000000 in
theorem pj_isKey_61 {h0 : Nat} {qs : List Nat} {ks : Nat → Nat} {n : Nat} {call : zCl} {kc : Nat → List Value → zSt → (Option Value → zSt → Prop) → Prop} {v : Option Value × zSt} {X : Nat → zLv → List Value → zSt → Prop} (hX : zSem cX13_isKey 7 (some .boolean) h0 qs ks kc (fun r u => (r, u) = v) X) (hc : ∀ j av s w, call j av s = some w → kc j av s (fun r u => (r, u) = w)) {k16 : Int32 → Int32 → Int32 → zSt → zRs} (hk16 : ∀ (x1 : Int32) (x2 : Int32) (x3 : Int32) (s : zSt), k16 x1 x2 x3 s = some v → X 16 [some (.ref h0), some (.int x1), some (.int x2), some (.int x3), none, none, none] [] s) {x1 : Int32} {x2 : Int32} {x3 : Int32} {x4 : Int32} {t0 : Int32} {σ : zSt} (h : j_isKey_61 n call h0 qs ks k16 x1 x2 x3 x4 t0 σ = some v) : X 61 [some (.ref h0), some (.int x1), some (.int x2), some (.int x3), some (.int x4), none, none] [.int t0] σ := by
  rw [j_isKey_61] at h
  refine zs_istore hX dX13_isKey_61 (by decide) rfl ?_
  dsimp only [List.set]
  refine zs_iconst (v := 0) hX dX13_isKey_63 (by decide) ?_
  refine zs_istore hX dX13_isKey_64 (by decide) rfl ?_
  dsimp only [List.set]
  exact pl_isKey_66 hX hc hk16 n _ _ _ _ _ _ _ h
set_option maxHeartbeats 4000000 in
theorem pl_isKey_29 {h0 : Nat} {qs : List Nat} {ks : Nat → Nat} {n : Nat} {call : zCl} {kc : Nat → List Value → zSt → (Option Value → zSt → Prop) → Prop} {v : Option Value × zSt} {X : Nat → zLv → List Value → zSt → Prop} (hX : zSem cX13_isKey 7 (some .boolean) h0 qs ks kc (fun r u => (r, u) = v) X) (hc : ∀ j av s w, call j av s = some w → kc j av s (fun r u => (r, u) = w)) {k16 : Int32 → Int32 → Int32 → zSt → zRs} (hk16 : ∀ (x1 : Int32) (x2 : Int32) (x3 : Int32) (s : zSt), k16 x1 x2 x3 s = some v → X 16 [some (.ref h0), some (.int x1), some (.int x2), some (.int x3), none, none, none] [] s) : ∀ (f : Nat) (x1 : Int32) (x2 : Int32) (x3 : Int32) (x4 : Int32) (σ : zSt), l_isKey_29 n call h0 qs ks k16 f x1 x2 x3 x4 σ = some v → X 29 [some (.ref h0), some (.int x1), some (.int x2), some (.int x3), some (.int x4), none, none] [] σ := by
  intro f
  induction f with
  | zero => intro x1 x2 x3 x4 σ h; cases h
  | succ f hk29 =>
    intro x1 x2 x3 x4 σ h
    rw [l_isKey_29] at h
    refine zs_ldcS hX dX13_isKey_29 (List.mem_of_getElem? (i := 0) rfl) ?_
    refine zs_iload hX dX13_isKey_32 rfl ?_
    obtain ⟨r1, e2, h⟩ := zso_e h
    refine zs_schr hX dX13_isKey_34 e2 (Nat.le_of_ble_eq_true rfl) ?_
    refine zs_bipush (v := 32) hX dX13_isKey_37 (by decide) ?_
    refine zs_icmp_eq (tgt := 48) hX dX13_isKey_39 (by decide) (fun c3 => ?_) (fun c3 => ?_)
    · rw [if_pos c3] at h
      refine zs_iload hX dX13_isKey_48 rfl ?_
      refine zs_iload_n hX dX13_isKey_50 rfl rfl ?_
      refine zs_isub hX dX13_isKey_51 ?_
      refine zs_iload_n hX dX13_isKey_52 rfl rfl ?_
      refine zs_icmp_ne (tgt := 60) hX dX13_isKey_53 (by decide) (fun c4 => ?_) (fun c4 => ?_)
      · rw [if_neg c4] at h
        refine zs_iconst (v := 0) hX dX13_isKey_60 (by decide) ?_
        exact pj_isKey_61 hX hc hk16 h
      · rw [if_pos c4] at h
        refine zs_iconst (v := 1) hX dX13_isKey_56 (by decide) ?_
        refine zs_goto (tgt := 61) hX dX13_isKey_57 (by decide) ?_
        exact pj_isKey_61 hX hc hk16 h
    · rw [if_neg c3] at h
      refine zs_iinc (v := x4 + 1) hX dX13_isKey_42 rfl rfl (by decide) rfl ?_
      dsimp only [List.set]
      refine zs_goto (tgt := 29) hX dX13_isKey_45 (by decide) ?_
      exact hk29 _ _ _ _ _ h
set_option maxHeartbeats 4000000 in
theorem pl_isKey_16 {h0 : Nat} {qs : List Nat} {ks : Nat → Nat} {n : Nat} {call : zCl} {kc : Nat → List Value → zSt → (Option Value → zSt → Prop) → Prop} {v : Option Value × zSt} {X : Nat → zLv → List Value → zSt → Prop} (hX : zSem cX13_isKey 7 (some .boolean) h0 qs ks kc (fun r u => (r, u) = v) X) (hc : ∀ j av s w, call j av s = some w → kc j av s (fun r u => (r, u) = w)) : ∀ (f : Nat) (x1 : Int32) (x2 : Int32) (x3 : Int32) (σ : zSt), l_isKey_16 n call h0 qs ks f x1 x2 x3 σ = some v → X 16 [some (.ref h0), some (.int x1), some (.int x2), some (.int x3), none, none, none] [] σ := by
  intro f
  induction f with
  | zero => intro x1 x2 x3 σ h; cases h
  | succ f hk16 =>
    intro x1 x2 x3 σ h
    rw [l_isKey_16] at h
    refine zs_iload_n hX dX13_isKey_16 rfl rfl ?_
    refine zs_ldcS hX dX13_isKey_17 (List.mem_of_getElem? (i := 0) rfl) ?_
    obtain ⟨r1, e2, h⟩ := zso_e h
    refine zs_slen hX dX13_isKey_20 e2 (Nat.le_of_ble_eq_true rfl) ?_
    refine zs_icmp_ge (tgt := 132) hX dX13_isKey_23 (by decide) (fun c3 => ?_) (fun c3 => ?_)
    · rw [if_pos c3] at h
      refine zs_iconst (v := 0) hX dX13_isKey_132 (by decide) ?_
      exact zs_zret hX dX13_isKey_133 rfl (by decide) (Option.some.inj h)
    · rw [if_neg c3] at h
      refine zs_iload_n hX dX13_isKey_26 rfl rfl ?_
      refine zs_istore hX dX13_isKey_27 (by decide) rfl ?_
      dsimp only [List.set]
      exact pl_isKey_29 hX hc hk16 n _ _ _ _ _ h
set_option maxHeartbeats 4000000 in
theorem pb_isKey {h0 : Nat} {qs : List Nat} {ks : Nat → Nat} {n : Nat} {call : zCl} {kc : Nat → List Value → zSt → (Option Value → zSt → Prop) → Prop} {v : Option Value × zSt} {X : Nat → zLv → List Value → zSt → Prop} (hX : zSem cX13_isKey 7 (some .boolean) h0 qs ks kc (fun r u => (r, u) = v) X) (hc : ∀ j av s w, call j av s = some w → kc j av s (fun r u => (r, u) = w)) {x1 : Int32} {σ : zSt} (h : b_isKey n call h0 qs ks x1 σ = some v) : X 0 [some (.ref h0), some (.int x1), none, none, none, none, none] [] σ := by
  rw [b_isKey] at h
  refine zs_aload_n hX dX13_isKey_0 rfl rfl ?_
  refine zg_wEnd hX dX13_isKey_1 ?_
  refine zs_iload_n hX dX13_isKey_4 rfl rfl ?_
  obtain ⟨b1, h⟩ := zgd_e h
  refine zl_wEnd hX dX13_isKey_5 (zin_ok b1) ?_
  refine zs_aload_n hX dX13_isKey_6 rfl rfl ?_
  refine zg_wAt hX dX13_isKey_7 ?_
  refine zs_iload_n hX dX13_isKey_10 rfl rfl ?_
  obtain ⟨b2, h⟩ := zgd_e h
  refine zl_wAt hX dX13_isKey_11 (zin_ok b2) ?_
  refine zs_isub hX dX13_isKey_12 ?_
  refine zs_istore_n hX dX13_isKey_13 rfl (by decide) rfl ?_
  dsimp only [List.set]
  refine zs_iconst (v := 0) hX dX13_isKey_14 (by decide) ?_
  refine zs_istore_n hX dX13_isKey_15 rfl (by decide) rfl ?_
  dsimp only [List.set]
  exact pl_isKey_16 hX hc n _ _ _ _ h
def j_readWords_443 (n : Nat) (call : zCl) (h0 : Nat) (qs : List Nat) (ks : Nat → Nat) (σ : zSt) : zRs :=
  zcv (call 6 [.ref h0, .int 0, .int (σ.1 4), .int (σ.1 4)] σ) fun s1 =>
  zlet (zI s1 10 0) fun s3 =>
  some (none, s3)
def j_readWords_438 (n : Nat) (call : zCl) (h0 : Nat) (qs : List Nat) (ks : Nat → Nat) (k7 : Int32 → zSt → zRs) (x3 : Int32) (σ : zSt) : zRs :=
  k7 x3 σ
def j_readWords_429 (n : Nat) (call : zCl) (h0 : Nat) (qs : List Nat) (ks : Nat → Nat) (k7 : Int32 → zSt → zRs) (x1 : Int32) (t0 : Int32) (t1 : Int32) (σ : zSt) : zRs :=
  zcv (call 6 [.ref h0, .int 3, .int x1, .int (t0 + t1)] σ) fun s1 =>
  j_readWords_438 n call h0 qs ks k7 (t0 + t1) s1
def j_readWords_418 (n : Nat) (call : zCl) (h0 : Nat) (qs : List Nat) (ks : Nat → Nat) (k7 : Int32 → zSt → zRs) (x1 : Int32) (x5 : Int32) (σ : zSt) : zRs :=
  if x5 = 0 then
    j_readWords_429 n call h0 qs ks k7 x1 x1 1 σ
  else
    j_readWords_429 n call h0 qs ks k7 x1 x1 2 σ
def j_readWords_400 (n : Nat) (call : zCl) (h0 : Nat) (qs : List Nat) (ks : Nat → Nat) (k7 : Int32 → zSt → zRs) (x1 : Int32) (x5 : Int32) (t0 : Int32) (σ : zSt) : zRs :=
  if x5 = 0 then
    if t0 = 0 then
      zcv (call 3 [.ref h0, .int 1, .int x1] σ) fun s3 =>
      j_readWords_418 n call h0 qs ks k7 x1 x5 s3
    else
      j_readWords_418 n call h0 qs ks k7 x1 x5 σ
  else
    j_readWords_418 n call h0 qs ks k7 x1 x5 σ
def j_readWords_395 (n : Nat) (call : zCl) (h0 : Nat) (qs : List Nat) (ks : Nat → Nat) (k7 : Int32 → zSt → zRs) (x1 : Int32) (x5 : Int32) (σ : zSt) : zRs :=
  j_readWords_400 n call h0 qs ks k7 x1 x5 1 σ
def j_readWords_297 (n : Nat) (call : zCl) (h0 : Nat) (qs : List Nat) (ks : Nat → Nat) (k7 : Int32 → zSt → zRs) (x1 : Int32) (x2 : Int32) (t0 : Int32) (σ : zSt) : zRs :=
  if x2 = 40 then
    j_readWords_395 n call h0 qs ks k7 x1 t0 σ
  else
    if x2 = 41 then
      j_readWords_395 n call h0 qs ks k7 x1 t0 σ
    else
      if x2 = 91 then
        j_readWords_395 n call h0 qs ks k7 x1 t0 σ
      else
        if x2 = 93 then
          j_readWords_395 n call h0 qs ks k7 x1 t0 σ
        else
          if x2 = 44 then
            j_readWords_395 n call h0 qs ks k7 x1 t0 σ
          else
            if x2 = 59 then
              j_readWords_395 n call h0 qs ks k7 x1 t0 σ
            else
              if x2 = 58 then
                j_readWords_395 n call h0 qs ks k7 x1 t0 σ
              else
                if x2 = 61 then
                  j_readWords_395 n call h0 qs ks k7 x1 t0 σ
                else
                  if x2 = 35 then
                    j_readWords_395 n call h0 qs ks k7 x1 t0 σ
                  else
                    if x2 = 60 then
                      j_readWords_395 n call h0 qs ks k7 x1 t0 σ
                    else
                      if x2 = 62 then
                        j_readWords_395 n call h0 qs ks k7 x1 t0 σ
                      else
                        if x2 = 43 then
                          j_readWords_395 n call h0 qs ks k7 x1 t0 σ
                        else
                          if x2 = 45 then
                            j_readWords_395 n call h0 qs ks k7 x1 t0 σ
                          else
                            if x2 = 42 then
                              j_readWords_395 n call h0 qs ks k7 x1 t0 σ
                            else
                              if x2 = 47 then
                                j_readWords_395 n call h0 qs ks k7 x1 t0 σ
                              else
                                if x2 = 37 then
                                  j_readWords_395 n call h0 qs ks k7 x1 t0 σ
                                else
                                  j_readWords_400 n call h0 qs ks k7 x1 t0 0 σ
def j_readWords_296 (n : Nat) (call : zCl) (h0 : Nat) (qs : List Nat) (ks : Nat → Nat) (k7 : Int32 → zSt → zRs) (x1 : Int32) (x2 : Int32) (σ : zSt) : zRs :=
  j_readWords_297 n call h0 qs ks k7 x1 x2 0 σ
def j_readWords_292 (n : Nat) (call : zCl) (h0 : Nat) (qs : List Nat) (ks : Nat → Nat) (k7 : Int32 → zSt → zRs) (x1 : Int32) (x2 : Int32) (σ : zSt) : zRs :=
  j_readWords_297 n call h0 qs ks k7 x1 x2 1 σ
def j_readWords_279 (n : Nat) (call : zCl) (h0 : Nat) (qs : List Nat) (ks : Nat → Nat) (k7 : Int32 → zSt → zRs) (x1 : Int32) (x2 : Int32) (x4 : Int32) (σ : zSt) : zRs :=
  if x2 = 45 then
    if x4 = 62 then
      j_readWords_292 n call h0 qs ks k7 x1 x2 σ
    else
      j_readWords_296 n call h0 qs ks k7 x1 x2 σ
  else
    j_readWords_296 n call h0 qs ks k7 x1 x2 σ
def j_readWords_266 (n : Nat) (call : zCl) (h0 : Nat) (qs : List Nat) (ks : Nat → Nat) (k7 : Int32 → zSt → zRs) (x1 : Int32) (x2 : Int32) (x4 : Int32) (σ : zSt) : zRs :=
  if x2 = 124 then
    if x4 = 124 then
      j_readWords_292 n call h0 qs ks k7 x1 x2 σ
    else
      j_readWords_279 n call h0 qs ks k7 x1 x2 x4 σ
  else
    j_readWords_279 n call h0 qs ks k7 x1 x2 x4 σ
def j_readWords_253 (n : Nat) (call : zCl) (h0 : Nat) (qs : List Nat) (ks : Nat → Nat) (k7 : Int32 → zSt → zRs) (x1 : Int32) (x2 : Int32) (x4 : Int32) (σ : zSt) : zRs :=
  if x2 = 38 then
    if x4 = 38 then
      j_readWords_292 n call h0 qs ks k7 x1 x2 σ
    else
      j_readWords_266 n call h0 qs ks k7 x1 x2 x4 σ
  else
    j_readWords_266 n call h0 qs ks k7 x1 x2 x4 σ
def j_readWords_246 (n : Nat) (call : zCl) (h0 : Nat) (qs : List Nat) (ks : Nat → Nat) (k7 : Int32 → zSt → zRs) (x1 : Int32) (x2 : Int32) (x4 : Int32) (σ : zSt) : zRs :=
  if x4 = 61 then
    j_readWords_292 n call h0 qs ks k7 x1 x2 σ
  else
    j_readWords_253 n call h0 qs ks k7 x1 x2 x4 σ
def j_readWords_232 (n : Nat) (call : zCl) (h0 : Nat) (qs : List Nat) (ks : Nat → Nat) (k7 : Int32 → zSt → zRs) (x1 : Int32) (x2 : Int32) (t0 : Int32) (σ : zSt) : zRs :=
  if x2 = 60 then
    j_readWords_246 n call h0 qs ks k7 x1 x2 t0 σ
  else
    if x2 = 62 then
      j_readWords_246 n call h0 qs ks k7 x1 x2 t0 σ
    else
      j_readWords_253 n call h0 qs ks k7 x1 x2 t0 σ
def j_readWords_200 (n : Nat) (call : zCl) (h0 : Nat) (qs : List Nat) (ks : Nat → Nat) (k7 : Int32 → zSt → zRs) (x1 : Int32) (x3 : Int32) (σ : zSt) : zRs :=
  zcv (call 6 [.ref h0, .int 2, .int x1, .int x3] σ) fun s1 =>
  j_readWords_438 n call h0 qs ks k7 x3 s1
def j_readWords_187 (n : Nat) (call : zCl) (h0 : Nat) (qs : List Nat) (ks : Nat → Nat) (k7 : Int32 → zSt → zRs) (x1 : Int32) (x3 : Int32) (σ : zSt) : zRs :=
  if (x3 - x1) ≤ 4 then
    j_readWords_200 n call h0 qs ks k7 x1 x3 σ
  else
    zcv (call 3 [.ref h0, .int 1, .int x1] σ) fun s2 =>
    j_readWords_200 n call h0 qs ks k7 x1 x3 s2
def l_readWords_161 (n : Nat) (call : zCl) (h0 : Nat) (qs : List Nat) (ks : Nat → Nat) (k7 : Int32 → zSt → zRs) : Nat → Int32 → Int32 → zSt → zRs
  | 0, _, _, _ => none
  | f + 1, x1, x3, σ =>
    if (σ.1 4) ≤ x3 then
      j_readWords_187 n call h0 qs ks k7 x1 x3 σ
    else
      zgd (zin x3 2000) (
      zci (call 5 [.int (σ.2.2.1 1 (x3).toNatClampNeg)] σ) fun r5 s3 =>
      if r5 = 0 then
        j_readWords_187 n call h0 qs ks k7 x1 x3 s3
      else
        l_readWords_161 n call h0 qs ks k7 f x1 (x3 + 1) s3)
def j_readWords_119 (n : Nat) (call : zCl) (h0 : Nat) (qs : List Nat) (ks : Nat → Nat) (k7 : Int32 → zSt → zRs) (x1 : Int32) (x3 : Int32) (σ : zSt) : zRs :=
  zcv (call 6 [.ref h0, .int 1, .int x1, .int x3] σ) fun s1 =>
  zci (call 8 [.ref h0, .int ((s1.1 9) - 1)] s1) fun r5 s3 =>
  if r5 = 0 then
    j_readWords_438 n call h0 qs ks k7 x3 s3
  else
    zgd (zin ((s3.1 9) - 1) 2010) (zlet (zA s3 3 (upd (s3.2.2.1 3) (((s3.1 9) - 1)).toNatClampNeg 3)) fun s8 =>
    j_readWords_438 n call h0 qs ks k7 x3 s8)
def j_readWords_105 (n : Nat) (call : zCl) (h0 : Nat) (qs : List Nat) (ks : Nat → Nat) (k7 : Int32 → zSt → zRs) (x1 : Int32) (x3 : Int32) (σ : zSt) : zRs :=
  if (x3 - x1) ≤ 10 then
    j_readWords_119 n call h0 qs ks k7 x1 x3 σ
  else
    zcv (call 3 [.ref h0, .int 1, .int x1] σ) fun s2 =>
    j_readWords_119 n call h0 qs ks k7 x1 x3 s2
def j_readWords_99 (n : Nat) (call : zCl) (h0 : Nat) (qs : List Nat) (ks : Nat → Nat) (k7 : Int32 → zSt → zRs) (k56 : Int32 → Int32 → zSt → zRs) (x1 : Int32) (x3 : Int32) (σ : zSt) : zRs :=
  k56 x1 (x3 + 1) σ
def l_readWords_56 (n : Nat) (call : zCl) (h0 : Nat) (qs : List Nat) (ks : Nat → Nat) (k7 : Int32 → zSt → zRs) : Nat → Int32 → Int32 → zSt → zRs
  | 0, _, _, _ => none
  | f + 1, x1, x3, σ =>
    if (σ.1 4) ≤ x3 then
      j_readWords_105 n call h0 qs ks k7 x1 x3 σ
    else
      zgd (zin x3 2000) (
      zci (call 4 [.int (σ.2.2.1 1 (x3).toNatClampNeg)] σ) fun r5 s3 =>
      if r5 = 0 then
        zgd (zin x3 2000) (
        zci (call 5 [.int (s3.2.2.1 1 (x3).toNatClampNeg)] s3) fun r10 s8 =>
        if r10 = 0 then
          zgd (zin x3 2000) (
          if (s8.2.2.1 1 (x3).toNatClampNeg) = 95 then
            j_readWords_99 n call h0 qs ks k7 (l_readWords_56 n call h0 qs ks k7 f) x1 x3 s8
          else
            j_readWords_105 n call h0 qs ks k7 x1 x3 s8)
        else
          j_readWords_99 n call h0 qs ks k7 (l_readWords_56 n call h0 qs ks k7 f) x1 x3 s8)
      else
        j_readWords_99 n call h0 qs ks k7 (l_readWords_56 n call h0 qs ks k7 f) x1 x3 s3)
def j_readWords_43 (n : Nat) (call : zCl) (h0 : Nat) (qs : List Nat) (ks : Nat → Nat) (k7 : Int32 → zSt → zRs) (x1 : Int32) (σ : zSt) : zRs :=
  k7 (x1 + 1) σ
def l_readWords_7 (n : Nat) (call : zCl) (h0 : Nat) (qs : List Nat) (ks : Nat → Nat) : Nat → Int32 → zSt → zRs
  | 0, _, _ => none
  | f + 1, x1, σ =>
    if (σ.1 4) ≤ x1 then
      j_readWords_443 n call h0 qs ks σ
    else
      if (σ.1 11) = 0 then
        zgd (zin x1 2000) (
        if (σ.2.2.1 1 (x1).toNatClampNeg) = 32 then
          j_readWords_43 n call h0 qs ks (l_readWords_7 n call h0 qs ks f) x1 σ
        else
          if (σ.2.2.1 1 (x1).toNatClampNeg) = 10 then
            j_readWords_43 n call h0 qs ks (l_readWords_7 n call h0 qs ks f) x1 σ
          else
            zci (call 4 [.int (σ.2.2.1 1 (x1).toNatClampNeg)] σ) fun r8 s6 =>
            if r8 = 0 then
              zci (call 5 [.int (σ.2.2.1 1 (x1).toNatClampNeg)] s6) fun r12 s10 =>
              if r12 = 0 then
                if (s10.1 4) ≤ (x1 + 1) then
                  j_readWords_232 n call h0 qs ks (l_readWords_7 n call h0 qs ks f) x1 (σ.2.2.1 1 (x1).toNatClampNeg) 0 s10
                else
                  zgd (zin (x1 + 1) 2000) (
                  j_readWords_232 n call h0 qs ks (l_readWords_7 n call h0 qs ks f) x1 (σ.2.2.1 1 (x1).toNatClampNeg) (s10.2.2.1 1 ((x1 + 1)).toNatClampNeg) s10)
              else
                l_readWords_161 n call h0 qs ks (l_readWords_7 n call h0 qs ks f) n x1 x1 s10
            else
              l_readWords_56 n call h0 qs ks (l_readWords_7 n call h0 qs ks f) n x1 x1 s6)
      else
        j_readWords_443 n call h0 qs ks σ
def b_readWords (n : Nat) (call : zCl) (h0 : Nat) (qs : List Nat) (ks : Nat → Nat) (σ : zSt) : zRs :=
  zlet (zI σ 9 0) fun s1 =>
  l_readWords_7 n call h0 qs ks n 0 s1
set_option maxHeartbeats 4000000 in
theorem pj_readWords_443 {h0 : Nat} {qs : List Nat} {ks : Nat → Nat} {n : Nat} {call : zCl} {kc : Nat → List Value → zSt → (Option Value → zSt → Prop) → Prop} {v : Option Value × zSt} {X : Nat → zLv → List Value → zSt → Prop} (hX : zSem cX13_readWords 7 none h0 qs ks kc (fun r u => (r, u) = v) X) (hc : ∀ j av s w, call j av s = some w → kc j av s (fun r u => (r, u) = w)) {σ : zSt} (h : j_readWords_443 n call h0 qs ks σ = some v) : X 443 [some (.ref h0), none, none, none, none, none, none] [] σ := by
  rw [j_readWords_443] at h
  refine zs_aload_n hX dX13_readWords_443 rfl rfl ?_
  refine zs_iconst (v := 0) hX dX13_readWords_444 (by decide) ?_
  refine zs_aload_n hX dX13_readWords_445 rfl rfl ?_
  refine zg_size hX dX13_readWords_446 ?_
  refine zs_aload_n hX dX13_readWords_449 rfl rfl ?_
  refine zg_size hX dX13_readWords_450 ?_
  obtain ⟨s1, e2, h⟩ := zcv_e h
  refine zc_word hX dX13_readWords_453 (Nat.le_of_ble_eq_true rfl) (hc _ _ _ _ e2) (fun u9 h9 => ?_)
  cases h9
  refine zs_aload_n hX dX13_readWords_456 rfl rfl ?_
  refine zs_iconst (v := 0) hX dX13_readWords_457 (by decide) ?_
  obtain ⟨s3, e4, h⟩ := zlet_e h
  refine zp_w hX dX13_readWords_458 ?_
  rw [← e4]
  exact zs_vret hX dX13_readWords_461 rfl (Option.some.inj h)
set_option maxHeartbeats 4000000 in
theorem pj_readWords_438 {h0 : Nat} {qs : List Nat} {ks : Nat → Nat} {n : Nat} {call : zCl} {kc : Nat → List Value → zSt → (Option Value → zSt → Prop) → Prop} {v : Option Value × zSt} {X : Nat → zLv → List Value → zSt → Prop} (hX : zSem cX13_readWords 7 none h0 qs ks kc (fun r u => (r, u) = v) X) (hc : ∀ j av s w, call j av s = some w → kc j av s (fun r u => (r, u) = w)) {k7 : Int32 → zSt → zRs} (hk7 : ∀ (x1 : Int32) (s : zSt), k7 x1 s = some v → X 7 [some (.ref h0), some (.int x1), none, none, none, none, none] [] s) {x3 : Int32} {σ : zSt} (h : j_readWords_438 n call h0 qs ks k7 x3 σ = some v) : X 438 [some (.ref h0), none, none, some (.int x3), none, none, none] [] σ := by
  rw [j_readWords_438] at h
  refine zs_iload_n hX dX13_readWords_438 rfl rfl ?_
  refine zs_istore_n hX dX13_readWords_439 rfl (by decide) rfl ?_
  dsimp only [List.set]
  refine zs_goto (tgt := 7) hX dX13_readWords_440 (by decide) ?_
  refine zs_weak hX (lw := [some (.ref h0), some (.int x3), none, none, none, none, none]) ⟨rfl, rfl, trivial⟩ ?_
  exact hk7 _ _ h
set_option maxHeartbeats 4000000 in
theorem pj_readWords_429 {h0 : Nat} {qs : List Nat} {ks : Nat → Nat} {n : Nat} {call : zCl} {kc : Nat → List Value → zSt → (Option Value → zSt → Prop) → Prop} {v : Option Value × zSt} {X : Nat → zLv → List Value → zSt → Prop} (hX : zSem cX13_readWords 7 none h0 qs ks kc (fun r u => (r, u) = v) X) (hc : ∀ j av s w, call j av s = some w → kc j av s (fun r u => (r, u) = w)) {k7 : Int32 → zSt → zRs} (hk7 : ∀ (x1 : Int32) (s : zSt), k7 x1 s = some v → X 7 [some (.ref h0), some (.int x1), none, none, none, none, none] [] s) {x1 : Int32} {t0 : Int32} {t1 : Int32} {σ : zSt} (h : j_readWords_429 n call h0 qs ks k7 x1 t0 t1 σ = some v) : X 429 [some (.ref h0), some (.int x1), none, none, none, none, none] [.int t1, .int t0] σ := by
  rw [j_readWords_429] at h
  refine zs_iadd hX dX13_readWords_429 ?_
  refine zs_istore_n hX dX13_readWords_430 rfl (by decide) rfl ?_
  dsimp only [List.set]
  refine zs_aload_n hX dX13_readWords_431 rfl rfl ?_
  refine zs_iconst (v := 3) hX dX13_readWords_432 (by decide) ?_
  refine zs_iload_n hX dX13_readWords_433 rfl rfl ?_
  refine zs_iload_n hX dX13_readWords_434 rfl rfl ?_
  obtain ⟨s1, e2, h⟩ := zcv_e h
  refine zc_word hX dX13_readWords_435 (Nat.le_of_ble_eq_true rfl) (hc _ _ _ _ e2) (fun u9 h9 => ?_)
  cases h9
  refine zs_weak hX (lw := [some (.ref h0), none, none, some (.int (t0 + t1)), none, none, none]) ⟨rfl, rfl, trivial⟩ ?_
  exact pj_readWords_438 hX hc hk7 h
set_option maxHeartbeats 4000000 in
theorem pj_readWords_418 {h0 : Nat} {qs : List Nat} {ks : Nat → Nat} {n : Nat} {call : zCl} {kc : Nat → List Value → zSt → (Option Value → zSt → Prop) → Prop} {v : Option Value × zSt} {X : Nat → zLv → List Value → zSt → Prop} (hX : zSem cX13_readWords 7 none h0 qs ks kc (fun r u => (r, u) = v) X) (hc : ∀ j av s w, call j av s = some w → kc j av s (fun r u => (r, u) = w)) {k7 : Int32 → zSt → zRs} (hk7 : ∀ (x1 : Int32) (s : zSt), k7 x1 s = some v → X 7 [some (.ref h0), some (.int x1), none, none, none, none, none] [] s) {x1 : Int32} {x5 : Int32} {σ : zSt} (h : j_readWords_418 n call h0 qs ks k7 x1 x5 σ = some v) : X 418 [some (.ref h0), some (.int x1), none, none, none, some (.int x5), none] [] σ := by
  rw [j_readWords_418] at h
  refine zs_iload_n hX dX13_readWords_418 rfl rfl ?_
  refine zs_iload hX dX13_readWords_419 rfl ?_
  refine zs_if_eq (tgt := 428) hX dX13_readWords_421 (by decide) (fun c1 => ?_) (fun c1 => ?_)
  · rw [if_pos c1] at h
    refine zs_iconst (v := 1) hX dX13_readWords_428 (by decide) ?_
    refine zs_weak hX (lw := [some (.ref h0), some (.int x1), none, none, none, none, none]) ⟨rfl, rfl, trivial⟩ ?_
    exact pj_readWords_429 hX hc hk7 h
  · rw [if_neg c1] at h
    refine zs_iconst (v := 2) hX dX13_readWords_424 (by decide) ?_
    refine zs_goto (tgt := 429) hX dX13_readWords_425 (by decide) ?_
    refine zs_weak hX (lw := [some (.ref h0), some (.int x1), none, none, none, none, none]) ⟨rfl, rfl, trivial⟩ ?_
    exact pj_readWords_429 hX hc hk7 h
set_option maxHeartbeats 4000000 in
theorem pj_readWords_400 {h0 : Nat} {qs : List Nat} {ks : Nat → Nat} {n : Nat} {call : zCl} {kc : Nat → List Value → zSt → (Option Value → zSt → Prop) → Prop} {v : Option Value × zSt} {X : Nat → zLv → List Value → zSt → Prop} (hX : zSem cX13_readWords 7 none h0 qs ks kc (fun r u => (r, u) = v) X) (hc : ∀ j av s w, call j av s = some w → kc j av s (fun r u => (r, u) = w)) {k7 : Int32 → zSt → zRs} (hk7 : ∀ (x1 : Int32) (s : zSt), k7 x1 s = some v → X 7 [some (.ref h0), some (.int x1), none, none, none, none, none] [] s) {x1 : Int32} {x5 : Int32} {t0 : Int32} {σ : zSt} (h : j_readWords_400 n call h0 qs ks k7 x1 x5 t0 σ = some v) : X 400 [some (.ref h0), some (.int x1), none, none, none, some (.int x5), none] [.int t0] σ := by
  rw [j_readWords_400] at h
  refine zs_istore hX dX13_readWords_400 (by decide) rfl ?_
  dsimp only [List.set]
  refine zs_iload hX dX13_readWords_402 rfl ?_
  refine zs_if_ne (tgt := 418) hX dX13_readWords_404 (by decide) (fun c1 => ?_) (fun c1 => ?_)
  · rw [if_neg c1] at h
    refine zs_weak hX (lw := [some (.ref h0), some (.int x1), none, none, none, some (.int x5), none]) ⟨rfl, rfl, rfl, trivial⟩ ?_
    exact pj_readWords_418 hX hc hk7 h
  · rw [if_pos c1] at h
    refine zs_iload hX dX13_readWords_407 rfl ?_
    refine zs_if_ne (tgt := 418) hX dX13_readWords_409 (by decide) (fun c2 => ?_) (fun c2 => ?_)
    · rw [if_neg c2] at h
      refine zs_weak hX (lw := [some (.ref h0), some (.int x1), none, none, none, some (.int x5), none]) ⟨rfl, rfl, rfl, trivial⟩ ?_
      exact pj_readWords_418 hX hc hk7 h
    · rw [if_pos c2] at h
      refine zs_aload_n hX dX13_readWords_412 rfl rfl ?_
      refine zs_iconst (v := 1) hX dX13_readWords_413 (by decide) ?_
      refine zs_iload_n hX dX13_readWords_414 rfl rfl ?_
      obtain ⟨s3, e4, h⟩ := zcv_e h
      refine zc_fault hX dX13_readWords_415 (Nat.le_of_ble_eq_true rfl) (hc _ _ _ _ e4) (fun u9 h9 => ?_)
      cases h9
      refine zs_weak hX (lw := [some (.ref h0), some (.int x1), none, none, none, some (.int x5), none]) ⟨rfl, rfl, rfl, trivial⟩ ?_
      exact pj_readWords_418 hX hc hk7 h
set_option maxHeartbeats 4000000 in
theorem pj_readWords_395 {h0 : Nat} {qs : List Nat} {ks : Nat → Nat} {n : Nat} {call : zCl} {kc : Nat → List Value → zSt → (Option Value → zSt → Prop) → Prop} {v : Option Value × zSt} {X : Nat → zLv → List Value → zSt → Prop} (hX : zSem cX13_readWords 7 none h0 qs ks kc (fun r u => (r, u) = v) X) (hc : ∀ j av s w, call j av s = some w → kc j av s (fun r u => (r, u) = w)) {k7 : Int32 → zSt → zRs} (hk7 : ∀ (x1 : Int32) (s : zSt), k7 x1 s = some v → X 7 [some (.ref h0), some (.int x1), none, none, none, none, none] [] s) {x1 : Int32} {x5 : Int32} {σ : zSt} (h : j_readWords_395 n call h0 qs ks k7 x1 x5 σ = some v) : X 395 [some (.ref h0), some (.int x1), none, none, none, some (.int x5), none] [] σ := by
  rw [j_readWords_395] at h
  refine zs_iconst (v := 1) hX dX13_readWords_395 (by decide) ?_
  refine zs_goto (tgt := 400) hX dX13_readWords_396 (by decide) ?_
  exact pj_readWords_400 hX hc hk7 h
set_option maxHeartbeats 4000000 in
theorem pj_readWords_297 {h0 : Nat} {qs : List Nat} {ks : Nat → Nat} {n : Nat} {call : zCl} {kc : Nat → List Value → zSt → (Option Value → zSt → Prop) → Prop} {v : Option Value × zSt} {X : Nat → zLv → List Value → zSt → Prop} (hX : zSem cX13_readWords 7 none h0 qs ks kc (fun r u => (r, u) = v) X) (hc : ∀ j av s w, call j av s = some w → kc j av s (fun r u => (r, u) = w)) {k7 : Int32 → zSt → zRs} (hk7 : ∀ (x1 : Int32) (s : zSt), k7 x1 s = some v → X 7 [some (.ref h0), some (.int x1), none, none, none, none, none] [] s) {x1 : Int32} {x2 : Int32} {t0 : Int32} {σ : zSt} (h : j_readWords_297 n call h0 qs ks k7 x1 x2 t0 σ = some v) : X 297 [some (.ref h0), some (.int x1), some (.int x2), none, none, none, none] [.int t0] σ := by
  rw [j_readWords_297] at h
  refine zs_istore hX dX13_readWords_297 (by decide) rfl ?_
  dsimp only [List.set]
  refine zs_iload_n hX dX13_readWords_299 rfl rfl ?_
  refine zs_bipush (v := 40) hX dX13_readWords_300 (by decide) ?_
  refine zs_icmp_eq (tgt := 395) hX dX13_readWords_302 (by decide) (fun c1 => ?_) (fun c1 => ?_)
  · rw [if_pos c1] at h
    refine zs_weak hX (lw := [some (.ref h0), some (.int x1), none, none, none, some (.int t0), none]) ⟨rfl, rfl, rfl, trivial⟩ ?_
    exact pj_readWords_395 hX hc hk7 h
  · rw [if_neg c1] at h
    refine zs_iload_n hX dX13_readWords_305 rfl rfl ?_
    refine zs_bipush (v := 41) hX dX13_readWords_306 (by decide) ?_
    refine zs_icmp_eq (tgt := 395) hX dX13_readWords_308 (by decide) (fun c2 => ?_) (fun c2 => ?_)
    · rw [if_pos c2] at h
      refine zs_weak hX (lw := [some (.ref h0), some (.int x1), none, none, none, some (.int t0), none]) ⟨rfl, rfl, rfl, trivial⟩ ?_
      exact pj_readWords_395 hX hc hk7 h
    · rw [if_neg c2] at h
      refine zs_iload_n hX dX13_readWords_311 rfl rfl ?_
      refine zs_bipush (v := 91) hX dX13_readWords_312 (by decide) ?_
      refine zs_icmp_eq (tgt := 395) hX dX13_readWords_314 (by decide) (fun c3 => ?_) (fun c3 => ?_)
      · rw [if_pos c3] at h
        refine zs_weak hX (lw := [some (.ref h0), some (.int x1), none, none, none, some (.int t0), none]) ⟨rfl, rfl, rfl, trivial⟩ ?_
        exact pj_readWords_395 hX hc hk7 h
      · rw [if_neg c3] at h
        refine zs_iload_n hX dX13_readWords_317 rfl rfl ?_
        refine zs_bipush (v := 93) hX dX13_readWords_318 (by decide) ?_
        refine zs_icmp_eq (tgt := 395) hX dX13_readWords_320 (by decide) (fun c4 => ?_) (fun c4 => ?_)
        · rw [if_pos c4] at h
          refine zs_weak hX (lw := [some (.ref h0), some (.int x1), none, none, none, some (.int t0), none]) ⟨rfl, rfl, rfl, trivial⟩ ?_
          exact pj_readWords_395 hX hc hk7 h
        · rw [if_neg c4] at h
          refine zs_iload_n hX dX13_readWords_323 rfl rfl ?_
          refine zs_bipush (v := 44) hX dX13_readWords_324 (by decide) ?_
          refine zs_icmp_eq (tgt := 395) hX dX13_readWords_326 (by decide) (fun c5 => ?_) (fun c5 => ?_)
          · rw [if_pos c5] at h
            refine zs_weak hX (lw := [some (.ref h0), some (.int x1), none, none, none, some (.int t0), none]) ⟨rfl, rfl, rfl, trivial⟩ ?_
            exact pj_readWords_395 hX hc hk7 h
          · rw [if_neg c5] at h
            refine zs_iload_n hX dX13_readWords_329 rfl rfl ?_
            refine zs_bipush (v := 59) hX dX13_readWords_330 (by decide) ?_
            refine zs_icmp_eq (tgt := 395) hX dX13_readWords_332 (by decide) (fun c6 => ?_) (fun c6 => ?_)
            · rw [if_pos c6] at h
              refine zs_weak hX (lw := [some (.ref h0), some (.int x1), none, none, none, some (.int t0), none]) ⟨rfl, rfl, rfl, trivial⟩ ?_
              exact pj_readWords_395 hX hc hk7 h
            · rw [if_neg c6] at h
              refine zs_iload_n hX dX13_readWords_335 rfl rfl ?_
              refine zs_bipush (v := 58) hX dX13_readWords_336 (by decide) ?_
              refine zs_icmp_eq (tgt := 395) hX dX13_readWords_338 (by decide) (fun c7 => ?_) (fun c7 => ?_)
              · rw [if_pos c7] at h
                refine zs_weak hX (lw := [some (.ref h0), some (.int x1), none, none, none, some (.int t0), none]) ⟨rfl, rfl, rfl, trivial⟩ ?_
                exact pj_readWords_395 hX hc hk7 h
              · rw [if_neg c7] at h
                refine zs_iload_n hX dX13_readWords_341 rfl rfl ?_
                refine zs_bipush (v := 61) hX dX13_readWords_342 (by decide) ?_
                refine zs_icmp_eq (tgt := 395) hX dX13_readWords_344 (by decide) (fun c8 => ?_) (fun c8 => ?_)
                · rw [if_pos c8] at h
                  refine zs_weak hX (lw := [some (.ref h0), some (.int x1), none, none, none, some (.int t0), none]) ⟨rfl, rfl, rfl, trivial⟩ ?_
                  exact pj_readWords_395 hX hc hk7 h
                · rw [if_neg c8] at h
                  refine zs_iload_n hX dX13_readWords_347 rfl rfl ?_
                  refine zs_bipush (v := 35) hX dX13_readWords_348 (by decide) ?_
                  refine zs_icmp_eq (tgt := 395) hX dX13_readWords_350 (by decide) (fun c9 => ?_) (fun c9 => ?_)
                  · rw [if_pos c9] at h
                    refine zs_weak hX (lw := [some (.ref h0), some (.int x1), none, none, none, some (.int t0), none]) ⟨rfl, rfl, rfl, trivial⟩ ?_
                    exact pj_readWords_395 hX hc hk7 h
                  · rw [if_neg c9] at h
                    refine zs_iload_n hX dX13_readWords_353 rfl rfl ?_
                    refine zs_bipush (v := 60) hX dX13_readWords_354 (by decide) ?_
                    refine zs_icmp_eq (tgt := 395) hX dX13_readWords_356 (by decide) (fun c10 => ?_) (fun c10 => ?_)
                    · rw [if_pos c10] at h
                      refine zs_weak hX (lw := [some (.ref h0), some (.int x1), none, none, none, some (.int t0), none]) ⟨rfl, rfl, rfl, trivial⟩ ?_
                      exact pj_readWords_395 hX hc hk7 h
                    · rw [if_neg c10] at h
                      refine zs_iload_n hX dX13_readWords_359 rfl rfl ?_
                      refine zs_bipush (v := 62) hX dX13_readWords_360 (by decide) ?_
                      refine zs_icmp_eq (tgt := 395) hX dX13_readWords_362 (by decide) (fun c11 => ?_) (fun c11 => ?_)
                      · rw [if_pos c11] at h
                        refine zs_weak hX (lw := [some (.ref h0), some (.int x1), none, none, none, some (.int t0), none]) ⟨rfl, rfl, rfl, trivial⟩ ?_
                        exact pj_readWords_395 hX hc hk7 h
                      · rw [if_neg c11] at h
                        refine zs_iload_n hX dX13_readWords_365 rfl rfl ?_
                        refine zs_bipush (v := 43) hX dX13_readWords_366 (by decide) ?_
                        refine zs_icmp_eq (tgt := 395) hX dX13_readWords_368 (by decide) (fun c12 => ?_) (fun c12 => ?_)
                        · rw [if_pos c12] at h
                          refine zs_weak hX (lw := [some (.ref h0), some (.int x1), none, none, none, some (.int t0), none]) ⟨rfl, rfl, rfl, trivial⟩ ?_
                          exact pj_readWords_395 hX hc hk7 h
                        · rw [if_neg c12] at h
                          refine zs_iload_n hX dX13_readWords_371 rfl rfl ?_
                          refine zs_bipush (v := 45) hX dX13_readWords_372 (by decide) ?_
                          refine zs_icmp_eq (tgt := 395) hX dX13_readWords_374 (by decide) (fun c13 => ?_) (fun c13 => ?_)
                          · rw [if_pos c13] at h
                            refine zs_weak hX (lw := [some (.ref h0), some (.int x1), none, none, none, some (.int t0), none]) ⟨rfl, rfl, rfl, trivial⟩ ?_
                            exact pj_readWords_395 hX hc hk7 h
                          · rw [if_neg c13] at h
                            refine zs_iload_n hX dX13_readWords_377 rfl rfl ?_
                            refine zs_bipush (v := 42) hX dX13_readWords_378 (by decide) ?_
                            refine zs_icmp_eq (tgt := 395) hX dX13_readWords_380 (by decide) (fun c14 => ?_) (fun c14 => ?_)
                            · rw [if_pos c14] at h
                              refine zs_weak hX (lw := [some (.ref h0), some (.int x1), none, none, none, some (.int t0), none]) ⟨rfl, rfl, rfl, trivial⟩ ?_
                              exact pj_readWords_395 hX hc hk7 h
                            · rw [if_neg c14] at h
                              refine zs_iload_n hX dX13_readWords_383 rfl rfl ?_
                              refine zs_bipush (v := 47) hX dX13_readWords_384 (by decide) ?_
                              refine zs_icmp_eq (tgt := 395) hX dX13_readWords_386 (by decide) (fun c15 => ?_) (fun c15 => ?_)
                              · rw [if_pos c15] at h
                                refine zs_weak hX (lw := [some (.ref h0), some (.int x1), none, none, none, some (.int t0), none]) ⟨rfl, rfl, rfl, trivial⟩ ?_
                                exact pj_readWords_395 hX hc hk7 h
                              · rw [if_neg c15] at h
                                refine zs_iload_n hX dX13_readWords_389 rfl rfl ?_
                                refine zs_bipush (v := 37) hX dX13_readWords_390 (by decide) ?_
                                refine zs_icmp_ne (tgt := 399) hX dX13_readWords_392 (by decide) (fun c16 => ?_) (fun c16 => ?_)
                                · rw [if_neg c16] at h
                                  refine zs_iconst (v := 0) hX dX13_readWords_399 (by decide) ?_
                                  refine zs_weak hX (lw := [some (.ref h0), some (.int x1), none, none, none, some (.int t0), none]) ⟨rfl, rfl, rfl, trivial⟩ ?_
                                  exact pj_readWords_400 hX hc hk7 h
                                · rw [if_pos c16] at h
                                  refine zs_weak hX (lw := [some (.ref h0), some (.int x1), none, none, none, some (.int t0), none]) ⟨rfl, rfl, rfl, trivial⟩ ?_
                                  exact pj_readWords_395 hX hc hk7 h
set_option maxHeartbeats 4000000 in
theorem pj_readWords_296 {h0 : Nat} {qs : List Nat} {ks : Nat → Nat} {n : Nat} {call : zCl} {kc : Nat → List Value → zSt → (Option Value → zSt → Prop) → Prop} {v : Option Value × zSt} {X : Nat → zLv → List Value → zSt → Prop} (hX : zSem cX13_readWords 7 none h0 qs ks kc (fun r u => (r, u) = v) X) (hc : ∀ j av s w, call j av s = some w → kc j av s (fun r u => (r, u) = w)) {k7 : Int32 → zSt → zRs} (hk7 : ∀ (x1 : Int32) (s : zSt), k7 x1 s = some v → X 7 [some (.ref h0), some (.int x1), none, none, none, none, none] [] s) {x1 : Int32} {x2 : Int32} {σ : zSt} (h : j_readWords_296 n call h0 qs ks k7 x1 x2 σ = some v) : X 296 [some (.ref h0), some (.int x1), some (.int x2), none, none, none, none] [] σ := by
  rw [j_readWords_296] at h
  refine zs_iconst (v := 0) hX dX13_readWords_296 (by decide) ?_
  exact pj_readWords_297 hX hc hk7 h
set_option maxHeartbeats 4000000 in
theorem pj_readWords_292 {h0 : Nat} {qs : List Nat} {ks : Nat → Nat} {n : Nat} {call : zCl} {kc : Nat → List Value → zSt → (Option Value → zSt → Prop) → Prop} {v : Option Value × zSt} {X : Nat → zLv → List Value → zSt → Prop} (hX : zSem cX13_readWords 7 none h0 qs ks kc (fun r u => (r, u) = v) X) (hc : ∀ j av s w, call j av s = some w → kc j av s (fun r u => (r, u) = w)) {k7 : Int32 → zSt → zRs} (hk7 : ∀ (x1 : Int32) (s : zSt), k7 x1 s = some v → X 7 [some (.ref h0), some (.int x1), none, none, none, none, none] [] s) {x1 : Int32} {x2 : Int32} {σ : zSt} (h : j_readWords_292 n call h0 qs ks k7 x1 x2 σ = some v) : X 292 [some (.ref h0), some (.int x1), some (.int x2), none, none, none, none] [] σ := by
  rw [j_readWords_292] at h
  refine zs_iconst (v := 1) hX dX13_readWords_292 (by decide) ?_
  refine zs_goto (tgt := 297) hX dX13_readWords_293 (by decide) ?_
  exact pj_readWords_297 hX hc hk7 h
set_option maxHeartbeats 4000000 in
theorem pj_readWords_279 {h0 : Nat} {qs : List Nat} {ks : Nat → Nat} {n : Nat} {call : zCl} {kc : Nat → List Value → zSt → (Option Value → zSt → Prop) → Prop} {v : Option Value × zSt} {X : Nat → zLv → List Value → zSt → Prop} (hX : zSem cX13_readWords 7 none h0 qs ks kc (fun r u => (r, u) = v) X) (hc : ∀ j av s w, call j av s = some w → kc j av s (fun r u => (r, u) = w)) {k7 : Int32 → zSt → zRs} (hk7 : ∀ (x1 : Int32) (s : zSt), k7 x1 s = some v → X 7 [some (.ref h0), some (.int x1), none, none, none, none, none] [] s) {x1 : Int32} {x2 : Int32} {x4 : Int32} {σ : zSt} (h : j_readWords_279 n call h0 qs ks k7 x1 x2 x4 σ = some v) : X 279 [some (.ref h0), some (.int x1), some (.int x2), none, some (.int x4), none, none] [] σ := by
  rw [j_readWords_279] at h
  refine zs_iload_n hX dX13_readWords_279 rfl rfl ?_
  refine zs_bipush (v := 45) hX dX13_readWords_280 (by decide) ?_
  refine zs_icmp_ne (tgt := 296) hX dX13_readWords_282 (by decide) (fun c1 => ?_) (fun c1 => ?_)
  · rw [if_neg c1] at h
    refine zs_weak hX (lw := [some (.ref h0), some (.int x1), some (.int x2), none, none, none, none]) ⟨rfl, rfl, rfl, trivial⟩ ?_
    exact pj_readWords_296 hX hc hk7 h
  · rw [if_pos c1] at h
    refine zs_iload hX dX13_readWords_285 rfl ?_
    refine zs_bipush (v := 62) hX dX13_readWords_287 (by decide) ?_
    refine zs_icmp_ne (tgt := 296) hX dX13_readWords_289 (by decide) (fun c2 => ?_) (fun c2 => ?_)
    · rw [if_neg c2] at h
      refine zs_weak hX (lw := [some (.ref h0), some (.int x1), some (.int x2), none, none, none, none]) ⟨rfl, rfl, rfl, trivial⟩ ?_
      exact pj_readWords_296 hX hc hk7 h
    · rw [if_pos c2] at h
      refine zs_weak hX (lw := [some (.ref h0), some (.int x1), some (.int x2), none, none, none, none]) ⟨rfl, rfl, rfl, trivial⟩ ?_
      exact pj_readWords_292 hX hc hk7 h
set_option maxHeartbeats 4000000 in
theorem pj_readWords_266 {h0 : Nat} {qs : List Nat} {ks : Nat → Nat} {n : Nat} {call : zCl} {kc : Nat → List Value → zSt → (Option Value → zSt → Prop) → Prop} {v : Option Value × zSt} {X : Nat → zLv → List Value → zSt → Prop} (hX : zSem cX13_readWords 7 none h0 qs ks kc (fun r u => (r, u) = v) X) (hc : ∀ j av s w, call j av s = some w → kc j av s (fun r u => (r, u) = w)) {k7 : Int32 → zSt → zRs} (hk7 : ∀ (x1 : Int32) (s : zSt), k7 x1 s = some v → X 7 [some (.ref h0), some (.int x1), none, none, none, none, none] [] s) {x1 : Int32} {x2 : Int32} {x4 : Int32} {σ : zSt} (h : j_readWords_266 n call h0 qs ks k7 x1 x2 x4 σ = some v) : X 266 [some (.ref h0), some (.int x1), some (.int x2), none, some (.int x4), none, none] [] σ := by
  rw [j_readWords_266] at h
  refine zs_iload_n hX dX13_readWords_266 rfl rfl ?_
  refine zs_bipush (v := 124) hX dX13_readWords_267 (by decide) ?_
  refine zs_icmp_ne (tgt := 279) hX dX13_readWords_269 (by decide) (fun c1 => ?_) (fun c1 => ?_)
  · rw [if_neg c1] at h
    exact pj_readWords_279 hX hc hk7 h
  · rw [if_pos c1] at h
    refine zs_iload hX dX13_readWords_272 rfl ?_
    refine zs_bipush (v := 124) hX dX13_readWords_274 (by decide) ?_
    refine zs_icmp_eq (tgt := 292) hX dX13_readWords_276 (by decide) (fun c2 => ?_) (fun c2 => ?_)
    · rw [if_pos c2] at h
      refine zs_weak hX (lw := [some (.ref h0), some (.int x1), some (.int x2), none, none, none, none]) ⟨rfl, rfl, rfl, trivial⟩ ?_
      exact pj_readWords_292 hX hc hk7 h
    · rw [if_neg c2] at h
      exact pj_readWords_279 hX hc hk7 h
set_option maxHeartbeats 4000000 in
theorem pj_readWords_253 {h0 : Nat} {qs : List Nat} {ks : Nat → Nat} {n : Nat} {call : zCl} {kc : Nat → List Value → zSt → (Option Value → zSt → Prop) → Prop} {v : Option Value × zSt} {X : Nat → zLv → List Value → zSt → Prop} (hX : zSem cX13_readWords 7 none h0 qs ks kc (fun r u => (r, u) = v) X) (hc : ∀ j av s w, call j av s = some w → kc j av s (fun r u => (r, u) = w)) {k7 : Int32 → zSt → zRs} (hk7 : ∀ (x1 : Int32) (s : zSt), k7 x1 s = some v → X 7 [some (.ref h0), some (.int x1), none, none, none, none, none] [] s) {x1 : Int32} {x2 : Int32} {x4 : Int32} {σ : zSt} (h : j_readWords_253 n call h0 qs ks k7 x1 x2 x4 σ = some v) : X 253 [some (.ref h0), some (.int x1), some (.int x2), none, some (.int x4), none, none] [] σ := by
  rw [j_readWords_253] at h
  refine zs_iload_n hX dX13_readWords_253 rfl rfl ?_
  refine zs_bipush (v := 38) hX dX13_readWords_254 (by decide) ?_
  refine zs_icmp_ne (tgt := 266) hX dX13_readWords_256 (by decide) (fun c1 => ?_) (fun c1 => ?_)
  · rw [if_neg c1] at h
    exact pj_readWords_266 hX hc hk7 h
  · rw [if_pos c1] at h
    refine zs_iload hX dX13_readWords_259 rfl ?_
    refine zs_bipush (v := 38) hX dX13_readWords_261 (by decide) ?_
    refine zs_icmp_eq (tgt := 292) hX dX13_readWords_263 (by decide) (fun c2 => ?_) (fun c2 => ?_)
    · rw [if_pos c2] at h
      refine zs_weak hX (lw := [some (.ref h0), some (.int x1), some (.int x2), none, none, none, none]) ⟨rfl, rfl, rfl, trivial⟩ ?_
      exact pj_readWords_292 hX hc hk7 h
    · rw [if_neg c2] at h
      exact pj_readWords_266 hX hc hk7 h
set_option maxHeartbeats 4000000 in
theorem pj_readWords_246 {h0 : Nat} {qs : List Nat} {ks : Nat → Nat} {n : Nat} {call : zCl} {kc : Nat → List Value → zSt → (Option Value → zSt → Prop) → Prop} {v : Option Value × zSt} {X : Nat → zLv → List Value → zSt → Prop} (hX : zSem cX13_readWords 7 none h0 qs ks kc (fun r u => (r, u) = v) X) (hc : ∀ j av s w, call j av s = some w → kc j av s (fun r u => (r, u) = w)) {k7 : Int32 → zSt → zRs} (hk7 : ∀ (x1 : Int32) (s : zSt), k7 x1 s = some v → X 7 [some (.ref h0), some (.int x1), none, none, none, none, none] [] s) {x1 : Int32} {x2 : Int32} {x4 : Int32} {σ : zSt} (h : j_readWords_246 n call h0 qs ks k7 x1 x2 x4 σ = some v) : X 246 [some (.ref h0), some (.int x1), some (.int x2), none, some (.int x4), none, none] [] σ := by
  rw [j_readWords_246] at h
  refine zs_iload hX dX13_readWords_246 rfl ?_
  refine zs_bipush (v := 61) hX dX13_readWords_248 (by decide) ?_
  refine zs_icmp_eq (tgt := 292) hX dX13_readWords_250 (by decide) (fun c1 => ?_) (fun c1 => ?_)
  · rw [if_pos c1] at h
    refine zs_weak hX (lw := [some (.ref h0), some (.int x1), some (.int x2), none, none, none, none]) ⟨rfl, rfl, rfl, trivial⟩ ?_
    exact pj_readWords_292 hX hc hk7 h
  · rw [if_neg c1] at h
    exact pj_readWords_253 hX hc hk7 h
set_option maxHeartbeats 4000000 in
theorem pj_readWords_232 {h0 : Nat} {qs : List Nat} {ks : Nat → Nat} {n : Nat} {call : zCl} {kc : Nat → List Value → zSt → (Option Value → zSt → Prop) → Prop} {v : Option Value × zSt} {X : Nat → zLv → List Value → zSt → Prop} (hX : zSem cX13_readWords 7 none h0 qs ks kc (fun r u => (r, u) = v) X) (hc : ∀ j av s w, call j av s = some w → kc j av s (fun r u => (r, u) = w)) {k7 : Int32 → zSt → zRs} (hk7 : ∀ (x1 : Int32) (s : zSt), k7 x1 s = some v → X 7 [some (.ref h0), some (.int x1), none, none, none, none, none] [] s) {x1 : Int32} {x2 : Int32} {t0 : Int32} {σ : zSt} (h : j_readWords_232 n call h0 qs ks k7 x1 x2 t0 σ = some v) : X 232 [some (.ref h0), some (.int x1), some (.int x2), none, none, none, none] [.int t0] σ := by
  rw [j_readWords_232] at h
  refine zs_istore hX dX13_readWords_232 (by decide) rfl ?_
  dsimp only [List.set]
  refine zs_iload_n hX dX13_readWords_234 rfl rfl ?_
  refine zs_bipush (v := 60) hX dX13_readWords_235 (by decide) ?_
  refine zs_icmp_eq (tgt := 246) hX dX13_readWords_237 (by decide) (fun c1 => ?_) (fun c1 => ?_)
  · rw [if_pos c1] at h
    exact pj_readWords_246 hX hc hk7 h
  · rw [if_neg c1] at h
    refine zs_iload_n hX dX13_readWords_240 rfl rfl ?_
    refine zs_bipush (v := 62) hX dX13_readWords_241 (by decide) ?_
    refine zs_icmp_ne (tgt := 253) hX dX13_readWords_243 (by decide) (fun c2 => ?_) (fun c2 => ?_)
    · rw [if_neg c2] at h
      exact pj_readWords_253 hX hc hk7 h
    · rw [if_pos c2] at h
      exact pj_readWords_246 hX hc hk7 h
set_option maxHeartbeats 4000000 in
theorem pj_readWords_200 {h0 : Nat} {qs : List Nat} {ks : Nat → Nat} {n : Nat} {call : zCl} {kc : Nat → List Value → zSt → (Option Value → zSt → Prop) → Prop} {v : Option Value × zSt} {X : Nat → zLv → List Value → zSt → Prop} (hX : zSem cX13_readWords 7 none h0 qs ks kc (fun r u => (r, u) = v) X) (hc : ∀ j av s w, call j av s = some w → kc j av s (fun r u => (r, u) = w)) {k7 : Int32 → zSt → zRs} (hk7 : ∀ (x1 : Int32) (s : zSt), k7 x1 s = some v → X 7 [some (.ref h0), some (.int x1), none, none, none, none, none] [] s) {x1 : Int32} {x3 : Int32} {σ : zSt} (h : j_readWords_200 n call h0 qs ks k7 x1 x3 σ = some v) : X 200 [some (.ref h0), some (.int x1), none, some (.int x3), none, none, none] [] σ := by
  rw [j_readWords_200] at h
  refine zs_aload_n hX dX13_readWords_200 rfl rfl ?_
  refine zs_iconst (v := 2) hX dX13_readWords_201 (by decide) ?_
  refine zs_iload_n hX dX13_readWords_202 rfl rfl ?_
  refine zs_iload_n hX dX13_readWords_203 rfl rfl ?_
  obtain ⟨s1, e2, h⟩ := zcv_e h
  refine zc_word hX dX13_readWords_204 (Nat.le_of_ble_eq_true rfl) (hc _ _ _ _ e2) (fun u9 h9 => ?_)
  cases h9
  refine zs_goto (tgt := 438) hX dX13_readWords_207 (by decide) ?_
  refine zs_weak hX (lw := [some (.ref h0), none, none, some (.int x3), none, none, none]) ⟨rfl, rfl, trivial⟩ ?_
  exact pj_readWords_438 hX hc hk7 h
set_option maxHeartbeats 4000000 in
theorem pj_readWords_187 {h0 : Nat} {qs : List Nat} {ks : Nat → Nat} {n : Nat} {call : zCl} {kc : Nat → List Value → zSt → (Option Value → zSt → Prop) → Prop} {v : Option Value × zSt} {X : Nat → zLv → List Value → zSt → Prop} (hX : zSem cX13_readWords 7 none h0 qs ks kc (fun r u => (r, u) = v) X) (hc : ∀ j av s w, call j av s = some w → kc j av s (fun r u => (r, u) = w)) {k7 : Int32 → zSt → zRs} (hk7 : ∀ (x1 : Int32) (s : zSt), k7 x1 s = some v → X 7 [some (.ref h0), some (.int x1), none, none, none, none, none] [] s) {x1 : Int32} {x3 : Int32} {σ : zSt} (h : j_readWords_187 n call h0 qs ks k7 x1 x3 σ = some v) : X 187 [some (.ref h0), some (.int x1), none, some (.int x3), none, none, none] [] σ := by
  rw [j_readWords_187] at h
  refine zs_iload_n hX dX13_readWords_187 rfl rfl ?_
  refine zs_iload_n hX dX13_readWords_188 rfl rfl ?_
  refine zs_isub hX dX13_readWords_189 ?_
  refine zs_iconst (v := 4) hX dX13_readWords_190 (by decide) ?_
  refine zs_icmp_le (tgt := 200) hX dX13_readWords_191 (by decide) (fun c1 => ?_) (fun c1 => ?_)
  · rw [if_pos c1] at h
    exact pj_readWords_200 hX hc hk7 h
  · rw [if_neg c1] at h
    refine zs_aload_n hX dX13_readWords_194 rfl rfl ?_
    refine zs_iconst (v := 1) hX dX13_readWords_195 (by decide) ?_
    refine zs_iload_n hX dX13_readWords_196 rfl rfl ?_
    obtain ⟨s2, e3, h⟩ := zcv_e h
    refine zc_fault hX dX13_readWords_197 (Nat.le_of_ble_eq_true rfl) (hc _ _ _ _ e3) (fun u9 h9 => ?_)
    cases h9
    exact pj_readWords_200 hX hc hk7 h
set_option maxHeartbeats 4000000 in
theorem pl_readWords_161 {h0 : Nat} {qs : List Nat} {ks : Nat → Nat} {n : Nat} {call : zCl} {kc : Nat → List Value → zSt → (Option Value → zSt → Prop) → Prop} {v : Option Value × zSt} {X : Nat → zLv → List Value → zSt → Prop} (hX : zSem cX13_readWords 7 none h0 qs ks kc (fun r u => (r, u) = v) X) (hc : ∀ j av s w, call j av s = some w → kc j av s (fun r u => (r, u) = w)) {k7 : Int32 → zSt → zRs} (hk7 : ∀ (x1 : Int32) (s : zSt), k7 x1 s = some v → X 7 [some (.ref h0), some (.int x1), none, none, none, none, none] [] s) : ∀ (f : Nat) (x1 : Int32) (x3 : Int32) (σ : zSt), l_readWords_161 n call h0 qs ks k7 f x1 x3 σ = some v → X 161 [some (.ref h0), some (.int x1), none, some (.int x3), none, none, none] [] σ := by
  intro f
  induction f with
  | zero => intro x1 x3 σ h; cases h
  | succ f hk161 =>
    intro x1 x3 σ h
    rw [l_readWords_161] at h
    refine zs_iload_n hX dX13_readWords_161 rfl rfl ?_
    refine zs_aload_n hX dX13_readWords_162 rfl rfl ?_
    refine zg_size hX dX13_readWords_163 ?_
    refine zs_icmp_ge (tgt := 187) hX dX13_readWords_166 (by decide) (fun c1 => ?_) (fun c1 => ?_)
    · rw [if_pos c1] at h
      exact pj_readWords_187 hX hc hk7 h
    · rw [if_neg c1] at h
      refine zs_aload_n hX dX13_readWords_169 rfl rfl ?_
      refine zg_text hX dX13_readWords_170 ?_
      refine zs_iload_n hX dX13_readWords_173 rfl rfl ?_
      obtain ⟨b2, h⟩ := zgd_e h
      refine zl_text hX dX13_readWords_174 (zin_ok b2) ?_
      obtain ⟨r5, s3, e4, h⟩ := zci_e h
      refine zc_isDigit hX dX13_readWords_175 (Nat.le_of_ble_eq_true rfl) (hc _ _ _ _ e4) (fun r9 u9 h9 => ?_)
      cases h9
      refine zs_if_eq (tgt := 187) hX dX13_readWords_178 (by decide) (fun c6 => ?_) (fun c6 => ?_)
      · rw [if_pos c6] at h
        exact pj_readWords_187 hX hc hk7 h
      · rw [if_neg c6] at h
        refine zs_iinc (v := x3 + 1) hX dX13_readWords_181 rfl rfl (by decide) rfl ?_
        dsimp only [List.set]
        refine zs_goto (tgt := 161) hX dX13_readWords_184 (by decide) ?_
        exact hk161 _ _ _ h
set_option maxHeartbeats 4000000 in
theorem pj_readWords_119 {h0 : Nat} {qs : List Nat} {ks : Nat → Nat} {n : Nat} {call : zCl} {kc : Nat → List Value → zSt → (Option Value → zSt → Prop) → Prop} {v : Option Value × zSt} {X : Nat → zLv → List Value → zSt → Prop} (hX : zSem cX13_readWords 7 none h0 qs ks kc (fun r u => (r, u) = v) X) (hc : ∀ j av s w, call j av s = some w → kc j av s (fun r u => (r, u) = w)) {k7 : Int32 → zSt → zRs} (hk7 : ∀ (x1 : Int32) (s : zSt), k7 x1 s = some v → X 7 [some (.ref h0), some (.int x1), none, none, none, none, none] [] s) {x1 : Int32} {x3 : Int32} {σ : zSt} (h : j_readWords_119 n call h0 qs ks k7 x1 x3 σ = some v) : X 119 [some (.ref h0), some (.int x1), none, some (.int x3), none, none, none] [] σ := by
  rw [j_readWords_119] at h
  refine zs_aload_n hX dX13_readWords_119 rfl rfl ?_
  refine zs_iconst (v := 1) hX dX13_readWords_120 (by decide) ?_
  refine zs_iload_n hX dX13_readWords_121 rfl rfl ?_
  refine zs_iload_n hX dX13_readWords_122 rfl rfl ?_
  obtain ⟨s1, e2, h⟩ := zcv_e h
  refine zc_word hX dX13_readWords_123 (Nat.le_of_ble_eq_true rfl) (hc _ _ _ _ e2) (fun u9 h9 => ?_)
  cases h9
  refine zs_aload_n hX dX13_readWords_126 rfl rfl ?_
  refine zs_aload_n hX dX13_readWords_127 rfl rfl ?_
  refine zg_words hX dX13_readWords_128 ?_
  refine zs_iconst (v := 1) hX dX13_readWords_131 (by decide) ?_
  refine zs_isub hX dX13_readWords_132 ?_
  obtain ⟨r5, s3, e4, h⟩ := zci_e h
  refine zc_isKey hX dX13_readWords_133 (Nat.le_of_ble_eq_true rfl) (hc _ _ _ _ e4) (fun r9 u9 h9 => ?_)
  cases h9
  refine zs_if_eq (tgt := 438) hX dX13_readWords_136 (by decide) (fun c6 => ?_) (fun c6 => ?_)
  · rw [if_pos c6] at h
    refine zs_weak hX (lw := [some (.ref h0), none, none, some (.int x3), none, none, none]) ⟨rfl, rfl, trivial⟩ ?_
    exact pj_readWords_438 hX hc hk7 h
  · rw [if_neg c6] at h
    refine zs_aload_n hX dX13_readWords_139 rfl rfl ?_
    refine zg_wKind hX dX13_readWords_140 ?_
    refine zs_aload_n hX dX13_readWords_143 rfl rfl ?_
    refine zg_words hX dX13_readWords_144 ?_
    refine zs_iconst (v := 1) hX dX13_readWords_147 (by decide) ?_
    refine zs_isub hX dX13_readWords_148 ?_
    refine zs_iconst (v := 3) hX dX13_readWords_149 (by decide) ?_
    obtain ⟨b7, h⟩ := zgd_e h
    obtain ⟨s8, e9, h⟩ := zlet_e h
    refine zt_wKind hX dX13_readWords_150 (zin_ok b7) ?_
    rw [← e9]
    refine zs_goto (tgt := 438) hX dX13_readWords_151 (by decide) ?_
    refine zs_weak hX (lw := [some (.ref h0), none, none, some (.int x3), none, none, none]) ⟨rfl, rfl, trivial⟩ ?_
    exact pj_readWords_438 hX hc hk7 h
set_option maxHeartbeats 4000000 in
theorem pj_readWords_105 {h0 : Nat} {qs : List Nat} {ks : Nat → Nat} {n : Nat} {call : zCl} {kc : Nat → List Value → zSt → (Option Value → zSt → Prop) → Prop} {v : Option Value × zSt} {X : Nat → zLv → List Value → zSt → Prop} (hX : zSem cX13_readWords 7 none h0 qs ks kc (fun r u => (r, u) = v) X) (hc : ∀ j av s w, call j av s = some w → kc j av s (fun r u => (r, u) = w)) {k7 : Int32 → zSt → zRs} (hk7 : ∀ (x1 : Int32) (s : zSt), k7 x1 s = some v → X 7 [some (.ref h0), some (.int x1), none, none, none, none, none] [] s) {x1 : Int32} {x3 : Int32} {σ : zSt} (h : j_readWords_105 n call h0 qs ks k7 x1 x3 σ = some v) : X 105 [some (.ref h0), some (.int x1), none, some (.int x3), none, none, none] [] σ := by
  rw [j_readWords_105] at h
  refine zs_iload_n hX dX13_readWords_105 rfl rfl ?_
  refine zs_iload_n hX dX13_readWords_106 rfl rfl ?_
  refine zs_isub hX dX13_readWords_107 ?_
  refine zs_bipush (v := 10) hX dX13_readWords_108 (by decide) ?_
  refine zs_icmp_le (tgt := 119) hX dX13_readWords_110 (by decide) (fun c1 => ?_) (fun c1 => ?_)
  · rw [if_pos c1] at h
    exact pj_readWords_119 hX hc hk7 h
  · rw [if_neg c1] at h
    refine zs_aload_n hX dX13_readWords_113 rfl rfl ?_
    refine zs_iconst (v := 1) hX dX13_readWords_114 (by decide) ?_
    refine zs_iload_n hX dX13_readWords_115 rfl rfl ?_
    obtain ⟨s2, e3, h⟩ := zcv_e h
    refine zc_fault hX dX13_readWords_116 (Nat.le_of_ble_eq_true rfl) (hc _ _ _ _ e3) (fun u9 h9 => ?_)
    cases h9
    exact pj_readWords_119 hX hc hk7 h
set_option maxHeartbeats 4000000 in
theorem pj_readWords_99 {h0 : Nat} {qs : List Nat} {ks : Nat → Nat} {n : Nat} {call : zCl} {kc : Nat → List Value → zSt → (Option Value → zSt → Prop) → Prop} {v : Option Value × zSt} {X : Nat → zLv → List Value → zSt → Prop} (hX : zSem cX13_readWords 7 none h0 qs ks kc (fun r u => (r, u) = v) X) (hc : ∀ j av s w, call j av s = some w → kc j av s (fun r u => (r, u) = w)) {k7 : Int32 → zSt → zRs} (hk7 : ∀ (x1 : Int32) (s : zSt), k7 x1 s = some v → X 7 [some (.ref h0), some (.int x1), none, none, none, none, none] [] s) {k56 : Int32 → Int32 → zSt → zRs} (hk56 : ∀ (x1 : Int32) (x3 : Int32) (s : zSt), k56 x1 x3 s = some v → X 56 [some (.ref h0), some (.int x1), none, some (.int x3), none, none, none] [] s) {x1 : Int32} {x3 : Int32} {σ : zSt} (h : j_readWords_99 n call h0 qs ks k7 k56 x1 x3 σ = some v) : X 99 [some (.ref h0), some (.int x1), none, some (.int x3), none, none, none] [] σ := by
  rw [j_readWords_99] at h
  refine zs_iinc (v := x3 + 1) hX dX13_readWords_99 rfl rfl (by decide) rfl ?_
  dsimp only [List.set]
  refine zs_goto (tgt := 56) hX dX13_readWords_102 (by decide) ?_
  exact hk56 _ _ _ h
set_option maxHeartbeats 4000000 in
theorem pl_readWords_56 {h0 : Nat} {qs : List Nat} {ks : Nat → Nat} {n : Nat} {call : zCl} {kc : Nat → List Value → zSt → (Option Value → zSt → Prop) → Prop} {v : Option Value × zSt} {X : Nat → zLv → List Value → zSt → Prop} (hX : zSem cX13_readWords 7 none h0 qs ks kc (fun r u => (r, u) = v) X) (hc : ∀ j av s w, call j av s = some w → kc j av s (fun r u => (r, u) = w)) {k7 : Int32 → zSt → zRs} (hk7 : ∀ (x1 : Int32) (s : zSt), k7 x1 s = some v → X 7 [some (.ref h0), some (.int x1), none, none, none, none, none] [] s) : ∀ (f : Nat) (x1 : Int32) (x3 : Int32) (σ : zSt), l_readWords_56 n call h0 qs ks k7 f x1 x3 σ = some v → X 56 [some (.ref h0), some (.int x1), none, some (.int x3), none, none, none] [] σ := by
  intro f
  induction f with
  | zero => intro x1 x3 σ h; cases h
  | succ f hk56 =>
    intro x1 x3 σ h
    rw [l_readWords_56] at h
    refine zs_iload_n hX dX13_readWords_56 rfl rfl ?_
    refine zs_aload_n hX dX13_readWords_57 rfl rfl ?_
    refine zg_size hX dX13_readWords_58 ?_
    refine zs_icmp_ge (tgt := 105) hX dX13_readWords_61 (by decide) (fun c1 => ?_) (fun c1 => ?_)
    · rw [if_pos c1] at h
      exact pj_readWords_105 hX hc hk7 h
    · rw [if_neg c1] at h
      refine zs_aload_n hX dX13_readWords_64 rfl rfl ?_
      refine zg_text hX dX13_readWords_65 ?_
      refine zs_iload_n hX dX13_readWords_68 rfl rfl ?_
      obtain ⟨b2, h⟩ := zgd_e h
      refine zl_text hX dX13_readWords_69 (zin_ok b2) ?_
      obtain ⟨r5, s3, e4, h⟩ := zci_e h
      refine zc_isLow hX dX13_readWords_70 (Nat.le_of_ble_eq_true rfl) (hc _ _ _ _ e4) (fun r9 u9 h9 => ?_)
      cases h9
      refine zs_if_ne (tgt := 99) hX dX13_readWords_73 (by decide) (fun c6 => ?_) (fun c6 => ?_)
      · rw [if_neg c6] at h
        exact pj_readWords_99 hX hc hk7 hk56 h
      · rw [if_pos c6] at h
        refine zs_aload_n hX dX13_readWords_76 rfl rfl ?_
        refine zg_text hX dX13_readWords_77 ?_
        refine zs_iload_n hX dX13_readWords_80 rfl rfl ?_
        obtain ⟨b7, h⟩ := zgd_e h
        refine zl_text hX dX13_readWords_81 (zin_ok b7) ?_
        obtain ⟨r10, s8, e9, h⟩ := zci_e h
        refine zc_isDigit hX dX13_readWords_82 (Nat.le_of_ble_eq_true rfl) (hc _ _ _ _ e9) (fun r9 u9 h9 => ?_)
        cases h9
        refine zs_if_ne (tgt := 99) hX dX13_readWords_85 (by decide) (fun c11 => ?_) (fun c11 => ?_)
        · rw [if_neg c11] at h
          exact pj_readWords_99 hX hc hk7 hk56 h
        · rw [if_pos c11] at h
          refine zs_aload_n hX dX13_readWords_88 rfl rfl ?_
          refine zg_text hX dX13_readWords_89 ?_
          refine zs_iload_n hX dX13_readWords_92 rfl rfl ?_
          obtain ⟨b12, h⟩ := zgd_e h
          refine zl_text hX dX13_readWords_93 (zin_ok b12) ?_
          refine zs_bipush (v := 95) hX dX13_readWords_94 (by decide) ?_
          refine zs_icmp_ne (tgt := 105) hX dX13_readWords_96 (by decide) (fun c13 => ?_) (fun c13 => ?_)
          · rw [if_neg c13] at h
            exact pj_readWords_105 hX hc hk7 h
          · rw [if_pos c13] at h
            exact pj_readWords_99 hX hc hk7 hk56 h
set_option maxHeartbeats 4000000 in
theorem pj_readWords_43 {h0 : Nat} {qs : List Nat} {ks : Nat → Nat} {n : Nat} {call : zCl} {kc : Nat → List Value → zSt → (Option Value → zSt → Prop) → Prop} {v : Option Value × zSt} {X : Nat → zLv → List Value → zSt → Prop} (hX : zSem cX13_readWords 7 none h0 qs ks kc (fun r u => (r, u) = v) X) (hc : ∀ j av s w, call j av s = some w → kc j av s (fun r u => (r, u) = w)) {k7 : Int32 → zSt → zRs} (hk7 : ∀ (x1 : Int32) (s : zSt), k7 x1 s = some v → X 7 [some (.ref h0), some (.int x1), none, none, none, none, none] [] s) {x1 : Int32} {σ : zSt} (h : j_readWords_43 n call h0 qs ks k7 x1 σ = some v) : X 43 [some (.ref h0), some (.int x1), none, none, none, none, none] [] σ := by
  rw [j_readWords_43] at h
  refine zs_iinc (v := x1 + 1) hX dX13_readWords_43 rfl rfl (by decide) rfl ?_
  dsimp only [List.set]
  refine zs_goto (tgt := 7) hX dX13_readWords_46 (by decide) ?_
  exact hk7 _ _ h
set_option maxHeartbeats 4000000 in
theorem pl_readWords_7 {h0 : Nat} {qs : List Nat} {ks : Nat → Nat} {n : Nat} {call : zCl} {kc : Nat → List Value → zSt → (Option Value → zSt → Prop) → Prop} {v : Option Value × zSt} {X : Nat → zLv → List Value → zSt → Prop} (hX : zSem cX13_readWords 7 none h0 qs ks kc (fun r u => (r, u) = v) X) (hc : ∀ j av s w, call j av s = some w → kc j av s (fun r u => (r, u) = w)) : ∀ (f : Nat) (x1 : Int32) (σ : zSt), l_readWords_7 n call h0 qs ks f x1 σ = some v → X 7 [some (.ref h0), some (.int x1), none, none, none, none, none] [] σ := by
  intro f
  induction f with
  | zero => intro x1 σ h; cases h
  | succ f hk7 =>
    intro x1 σ h
    rw [l_readWords_7] at h
    refine zs_iload_n hX dX13_readWords_7 rfl rfl ?_
    refine zs_aload_n hX dX13_readWords_8 rfl rfl ?_
    refine zg_size hX dX13_readWords_9 ?_
    refine zs_icmp_ge (tgt := 443) hX dX13_readWords_12 (by decide) (fun c1 => ?_) (fun c1 => ?_)
    · rw [if_pos c1] at h
      refine zs_weak hX (lw := [some (.ref h0), none, none, none, none, none, none]) ⟨rfl, trivial⟩ ?_
      exact pj_readWords_443 hX hc h
    · rw [if_neg c1] at h
      refine zs_aload_n hX dX13_readWords_15 rfl rfl ?_
      refine zg_bad hX dX13_readWords_16 ?_
      refine zs_if_ne (tgt := 443) hX dX13_readWords_19 (by decide) (fun c2 => ?_) (fun c2 => ?_)
      · rw [if_neg c2] at h
        refine zs_weak hX (lw := [some (.ref h0), none, none, none, none, none, none]) ⟨rfl, trivial⟩ ?_
        exact pj_readWords_443 hX hc h
      · rw [if_pos c2] at h
        refine zs_aload_n hX dX13_readWords_22 rfl rfl ?_
        refine zg_text hX dX13_readWords_23 ?_
        refine zs_iload_n hX dX13_readWords_26 rfl rfl ?_
        obtain ⟨b3, h⟩ := zgd_e h
        refine zl_text hX dX13_readWords_27 (zin_ok b3) ?_
        refine zs_istore_n hX dX13_readWords_28 rfl (by decide) rfl ?_
        dsimp only [List.set]
        refine zs_iload_n hX dX13_readWords_29 rfl rfl ?_
        refine zs_istore_n hX dX13_readWords_30 rfl (by decide) rfl ?_
        dsimp only [List.set]
        refine zs_iload_n hX dX13_readWords_31 rfl rfl ?_
        refine zs_bipush (v := 32) hX dX13_readWords_32 (by decide) ?_
        refine zs_icmp_eq (tgt := 43) hX dX13_readWords_34 (by decide) (fun c4 => ?_) (fun c4 => ?_)
        · rw [if_pos c4] at h
          refine zs_weak hX (lw := [some (.ref h0), some (.int x1), none, none, none, none, none]) ⟨rfl, rfl, trivial⟩ ?_
          exact pj_readWords_43 hX hc hk7 h
        · rw [if_neg c4] at h
          refine zs_iload_n hX dX13_readWords_37 rfl rfl ?_
          refine zs_bipush (v := 10) hX dX13_readWords_38 (by decide) ?_
          refine zs_icmp_ne (tgt := 49) hX dX13_readWords_40 (by decide) (fun c5 => ?_) (fun c5 => ?_)
          · rw [if_neg c5] at h
            refine zs_iload_n hX dX13_readWords_49 rfl rfl ?_
            obtain ⟨r8, s6, e7, h⟩ := zci_e h
            refine zc_isLow hX dX13_readWords_50 (Nat.le_of_ble_eq_true rfl) (hc _ _ _ _ e7) (fun r9 u9 h9 => ?_)
            cases h9
            refine zs_if_eq (tgt := 154) hX dX13_readWords_53 (by decide) (fun c9 => ?_) (fun c9 => ?_)
            · rw [if_pos c9] at h
              refine zs_iload_n hX dX13_readWords_154 rfl rfl ?_
              obtain ⟨r12, s10, e11, h⟩ := zci_e h
              refine zc_isDigit hX dX13_readWords_155 (Nat.le_of_ble_eq_true rfl) (hc _ _ _ _ e11) (fun r9 u9 h9 => ?_)
              cases h9
              refine zs_if_eq (tgt := 210) hX dX13_readWords_158 (by decide) (fun c13 => ?_) (fun c13 => ?_)
              · rw [if_pos c13] at h
                refine zs_iload_n hX dX13_readWords_210 rfl rfl ?_
                refine zs_iconst (v := 1) hX dX13_readWords_211 (by decide) ?_
                refine zs_iadd hX dX13_readWords_212 ?_
                refine zs_aload_n hX dX13_readWords_213 rfl rfl ?_
                refine zg_size hX dX13_readWords_214 ?_
                refine zs_icmp_ge (tgt := 231) hX dX13_readWords_217 (by decide) (fun c14 => ?_) (fun c14 => ?_)
                · rw [if_pos c14] at h
                  refine zs_iconst (v := 0) hX dX13_readWords_231 (by decide) ?_
                  refine zs_weak hX (lw := [some (.ref h0), some (.int x1), some (.int (σ.2.2.1 1 (x1).toNatClampNeg)), none, none, none, none]) ⟨rfl, rfl, rfl, trivial⟩ ?_
                  exact pj_readWords_232 hX hc hk7 h
                · rw [if_neg c14] at h
                  refine zs_aload_n hX dX13_readWords_220 rfl rfl ?_
                  refine zg_text hX dX13_readWords_221 ?_
                  refine zs_iload_n hX dX13_readWords_224 rfl rfl ?_
                  refine zs_iconst (v := 1) hX dX13_readWords_225 (by decide) ?_
                  refine zs_iadd hX dX13_readWords_226 ?_
                  obtain ⟨b15, h⟩ := zgd_e h
                  refine zl_text hX dX13_readWords_227 (zin_ok b15) ?_
                  refine zs_goto (tgt := 232) hX dX13_readWords_228 (by decide) ?_
                  refine zs_weak hX (lw := [some (.ref h0), some (.int x1), some (.int (σ.2.2.1 1 (x1).toNatClampNeg)), none, none, none, none]) ⟨rfl, rfl, rfl, trivial⟩ ?_
                  exact pj_readWords_232 hX hc hk7 h
              · rw [if_neg c13] at h
                refine zs_weak hX (lw := [some (.ref h0), some (.int x1), none, some (.int x1), none, none, none]) ⟨rfl, rfl, rfl, trivial⟩ ?_
                exact pl_readWords_161 hX hc hk7 n _ _ _ h
            · rw [if_neg c9] at h
              refine zs_weak hX (lw := [some (.ref h0), some (.int x1), none, some (.int x1), none, none, none]) ⟨rfl, rfl, rfl, trivial⟩ ?_
              exact pl_readWords_56 hX hc hk7 n _ _ _ h
          · rw [if_pos c5] at h
            refine zs_weak hX (lw := [some (.ref h0), some (.int x1), none, none, none, none, none]) ⟨rfl, rfl, trivial⟩ ?_
            exact pj_readWords_43 hX hc hk7 h
set_option maxHeartbeats 4000000 in
theorem pb_readWords {h0 : Nat} {qs : List Nat} {ks : Nat → Nat} {n : Nat} {call : zCl} {kc : Nat → List Value → zSt → (Option Value → zSt → Prop) → Prop} {v : Option Value × zSt} {X : Nat → zLv → List Value → zSt → Prop} (hX : zSem cX13_readWords 7 none h0 qs ks kc (fun r u => (r, u) = v) X) (hc : ∀ j av s w, call j av s = some w → kc j av s (fun r u => (r, u) = w)) {σ : zSt} (h : b_readWords n call h0 qs ks σ = some v) : X 0 [some (.ref h0), none, none, none, none, none, none] [] σ := by
  rw [b_readWords] at h
  refine zs_aload_n hX dX13_readWords_0 rfl rfl ?_
  refine zs_iconst (v := 0) hX dX13_readWords_1 (by decide) ?_
  obtain ⟨s1, e2, h⟩ := zlet_e h
  refine zp_words hX dX13_readWords_2 ?_
  rw [← e2]
  refine zs_iconst (v := 0) hX dX13_readWords_5 (by decide) ?_
  refine zs_istore_n hX dX13_readWords_6 rfl (by decide) rfl ?_
  dsimp only [List.set]
  exact pl_readWords_7 hX hc n _ _ h
def b_node (n : Nat) (call : zCl) (h0 : Nat) (qs : List Nat) (ks : Nat → Nat) (x1 : Int32) (x2 : Int32) (σ : zSt) : zRs :=
  zgd (zin (σ.1 20) 2100) (zlet (zA σ 6 (upd (σ.2.2.1 6) ((σ.1 20)).toNatClampNeg x1)) fun s2 =>
  zgd (zin (s2.1 20) 2100) (zlet (zA s2 7 (upd (s2.2.2.1 7) ((s2.1 20)).toNatClampNeg x2)) fun s5 =>
  zgd (zin (s5.1 20) 2100) (zlet (zA s5 8 (upd (s5.2.2.1 8) ((s5.1 20)).toNatClampNeg x2)) fun s8 =>
  zlet (zI s8 20 ((s8.1 20) + 1)) fun s10 =>
  some (some (.int ((s10.1 20) - 1)), s10))))
set_option maxHeartbeats 4000000 in
theorem pb_node {h0 : Nat} {qs : List Nat} {ks : Nat → Nat} {n : Nat} {call : zCl} {kc : Nat → List Value → zSt → (Option Value → zSt → Prop) → Prop} {v : Option Value × zSt} {X : Nat → zLv → List Value → zSt → Prop} (hX : zSem cX13_node 3 (some .int) h0 qs ks kc (fun r u => (r, u) = v) X) (hc : ∀ j av s w, call j av s = some w → kc j av s (fun r u => (r, u) = w)) {x1 : Int32} {x2 : Int32} {σ : zSt} (h : b_node n call h0 qs ks x1 x2 σ = some v) : X 0 [some (.ref h0), some (.int x1), some (.int x2)] [] σ := by
  rw [b_node] at h
  refine zs_aload_n hX dX13_node_0 rfl rfl ?_
  refine zg_kind hX dX13_node_1 ?_
  refine zs_aload_n hX dX13_node_4 rfl rfl ?_
  refine zg_nodes hX dX13_node_5 ?_
  refine zs_iload_n hX dX13_node_8 rfl rfl ?_
  obtain ⟨b1, h⟩ := zgd_e h
  obtain ⟨s2, e3, h⟩ := zlet_e h
  refine zt_kind hX dX13_node_9 (zin_ok b1) ?_
  rw [← e3]
  refine zs_aload_n hX dX13_node_10 rfl rfl ?_
  refine zg_at hX dX13_node_11 ?_
  refine zs_aload_n hX dX13_node_14 rfl rfl ?_
  refine zg_nodes hX dX13_node_15 ?_
  refine zs_iload_n hX dX13_node_18 rfl rfl ?_
  obtain ⟨b4, h⟩ := zgd_e h
  obtain ⟨s5, e6, h⟩ := zlet_e h
  refine zt_at hX dX13_node_19 (zin_ok b4) ?_
  rw [← e6]
  refine zs_aload_n hX dX13_node_20 rfl rfl ?_
  refine zg_sign hX dX13_node_21 ?_
  refine zs_aload_n hX dX13_node_24 rfl rfl ?_
  refine zg_nodes hX dX13_node_25 ?_
  refine zs_iload_n hX dX13_node_28 rfl rfl ?_
  obtain ⟨b7, h⟩ := zgd_e h
  obtain ⟨s8, e9, h⟩ := zlet_e h
  refine zt_sign hX dX13_node_29 (zin_ok b7) ?_
  rw [← e9]
  refine zs_aload_n hX dX13_node_30 rfl rfl ?_
  refine zs_dup hX dX13_node_31 rfl ?_
  refine zg_nodes hX dX13_node_32 ?_
  refine zs_iconst (v := 1) hX dX13_node_35 (by decide) ?_
  refine zs_iadd hX dX13_node_36 ?_
  obtain ⟨s10, e11, h⟩ := zlet_e h
  refine zp_nodes hX dX13_node_37 ?_
  rw [← e11]
  refine zs_aload_n hX dX13_node_40 rfl rfl ?_
  refine zg_nodes hX dX13_node_41 ?_
  refine zs_iconst (v := 1) hX dX13_node_44 (by decide) ?_
  refine zs_isub hX dX13_node_45 ?_
  exact zs_iret hX dX13_node_46 rfl (Option.some.inj h)
def b_here (n : Nat) (call : zCl) (h0 : Nat) (qs : List Nat) (ks : Nat → Nat) (x1 : Nat) (σ : zSt) : zRs :=
  if (σ.1 11) = 0 then
    zci (call 7 [.ref h0, .int (σ.1 10), .ref x1] σ) fun r4 s2 =>
    if r4 = 0 then
      some (some (.int 0), s2)
    else
      some (some (.int 1), s2)
  else
    some (some (.int 0), σ)
set_option maxHeartbeats 4000000 in
theorem pb_here {h0 : Nat} {qs : List Nat} {ks : Nat → Nat} {n : Nat} {call : zCl} {kc : Nat → List Value → zSt → (Option Value → zSt → Prop) → Prop} {v : Option Value × zSt} {X : Nat → zLv → List Value → zSt → Prop} (hX : zSem cX13_here 2 (some .boolean) h0 qs ks kc (fun r u => (r, u) = v) X) (hc : ∀ j av s w, call j av s = some w → kc j av s (fun r u => (r, u) = w)) {x1 : Nat} {σ : zSt} (h : b_here n call h0 qs ks x1 σ = some v) : X 0 [some (.ref h0), some (.ref x1)] [] σ := by
  rw [b_here] at h
  refine zs_aload_n hX dX13_here_0 rfl rfl ?_
  refine zg_bad hX dX13_here_1 ?_
  refine zs_if_ne (tgt := 23) hX dX13_here_4 (by decide) (fun c1 => ?_) (fun c1 => ?_)
  · rw [if_neg c1] at h
    refine zs_iconst (v := 0) hX dX13_here_23 (by decide) ?_
    exact zs_zret hX dX13_here_24 rfl (by decide) (Option.some.inj h)
  · rw [if_pos c1] at h
    refine zs_aload_n hX dX13_here_7 rfl rfl ?_
    refine zs_aload_n hX dX13_here_8 rfl rfl ?_
    refine zg_w hX dX13_here_9 ?_
    refine zs_aload_n hX dX13_here_12 rfl rfl ?_
    obtain ⟨r4, s2, e3, h⟩ := zci_e h
    refine zc_isText hX dX13_here_13 (Nat.le_of_ble_eq_true rfl) (hc _ _ _ _ e3) (fun r9 u9 h9 => ?_)
    cases h9
    refine zs_if_eq (tgt := 23) hX dX13_here_16 (by decide) (fun c5 => ?_) (fun c5 => ?_)
    · rw [if_pos c5] at h
      refine zs_iconst (v := 0) hX dX13_here_23 (by decide) ?_
      exact zs_zret hX dX13_here_24 rfl (by decide) (Option.some.inj h)
    · rw [if_neg c5] at h
      refine zs_iconst (v := 1) hX dX13_here_19 (by decide) ?_
      refine zs_goto (tgt := 24) hX dX13_here_20 (by decide) ?_
      exact zs_zret hX dX13_here_24 rfl (by decide) (Option.some.inj h)
def b_skip (n : Nat) (call : zCl) (h0 : Nat) (qs : List Nat) (ks : Nat → Nat) (x1 : Nat) (σ : zSt) : zRs :=
  zci (call 11 [.ref h0, .ref x1] σ) fun r3 s1 =>
  if r3 = 0 then
    zgd (zbo r3) (some (some (.int r3), s1))
  else
    zlet (zI s1 10 ((s1.1 10) + 1)) fun s6 =>
    zgd (zbo r3) (some (some (.int r3), s6))
set_option maxHeartbeats 4000000 in
theorem pb_skip {h0 : Nat} {qs : List Nat} {ks : Nat → Nat} {n : Nat} {call : zCl} {kc : Nat → List Value → zSt → (Option Value → zSt → Prop) → Prop} {v : Option Value × zSt} {X : Nat → zLv → List Value → zSt → Prop} (hX : zSem cX13_skip 3 (some .boolean) h0 qs ks kc (fun r u => (r, u) = v) X) (hc : ∀ j av s w, call j av s = some w → kc j av s (fun r u => (r, u) = w)) {x1 : Nat} {σ : zSt} (h : b_skip n call h0 qs ks x1 σ = some v) : X 0 [some (.ref h0), some (.ref x1), none] [] σ := by
  rw [b_skip] at h
  refine zs_aload_n hX dX13_skip_0 rfl rfl ?_
  refine zs_aload_n hX dX13_skip_1 rfl rfl ?_
  obtain ⟨r3, s1, e2, h⟩ := zci_e h
  refine zc_here hX dX13_skip_2 (Nat.le_of_ble_eq_true rfl) (hc _ _ _ _ e2) (fun r9 u9 h9 => ?_)
  cases h9
  refine zs_istore_n hX dX13_skip_5 rfl (by decide) rfl ?_
  dsimp only [List.set]
  refine zs_iload_n hX dX13_skip_6 rfl rfl ?_
  refine zs_if_eq (tgt := 20) hX dX13_skip_7 (by decide) (fun c4 => ?_) (fun c4 => ?_)
  · rw [if_pos c4] at h
    refine zs_iload_n hX dX13_skip_20 rfl rfl ?_
    obtain ⟨b5, h⟩ := zgd_e h
    exact zs_zret hX dX13_skip_21 rfl (zbo_n b5) (Option.some.inj h)
  · rw [if_neg c4] at h
    refine zs_aload_n hX dX13_skip_10 rfl rfl ?_
    refine zs_dup hX dX13_skip_11 rfl ?_
    refine zg_w hX dX13_skip_12 ?_
    refine zs_iconst (v := 1) hX dX13_skip_15 (by decide) ?_
    refine zs_iadd hX dX13_skip_16 ?_
    obtain ⟨s6, e7, h⟩ := zlet_e h
    refine zp_w hX dX13_skip_17 ?_
    rw [← e7]
    refine zs_iload_n hX dX13_skip_20 rfl rfl ?_
    obtain ⟨b8, h⟩ := zgd_e h
    exact zs_zret hX dX13_skip_21 rfl (zbo_n b8) (Option.some.inj h)
def b_form (n : Nat) (call : zCl) (h0 : Nat) (qs : List Nat) (ks : Nat → Nat) (σ : zSt) : zRs :=
  zgd (zin (σ.1 10) 2010) (
  zcv (call 3 [.ref h0, .int 2, .int (σ.2.2.1 4 ((σ.1 10)).toNatClampNeg)] σ) fun s2 =>
  some (none, s2))
set_option maxHeartbeats 4000000 in
theorem pb_form {h0 : Nat} {qs : List Nat} {ks : Nat → Nat} {n : Nat} {call : zCl} {kc : Nat → List Value → zSt → (Option Value → zSt → Prop) → Prop} {v : Option Value × zSt} {X : Nat → zLv → List Value → zSt → Prop} (hX : zSem cX13_form 1 none h0 qs ks kc (fun r u => (r, u) = v) X) (hc : ∀ j av s w, call j av s = some w → kc j av s (fun r u => (r, u) = w)) {σ : zSt} (h : b_form n call h0 qs ks σ = some v) : X 0 [some (.ref h0)] [] σ := by
  rw [b_form] at h
  refine zs_aload_n hX dX13_form_0 rfl rfl ?_
  refine zs_iconst (v := 2) hX dX13_form_1 (by decide) ?_
  refine zs_aload_n hX dX13_form_2 rfl rfl ?_
  refine zg_wAt hX dX13_form_3 ?_
  refine zs_aload_n hX dX13_form_6 rfl rfl ?_
  refine zg_w hX dX13_form_7 ?_
  obtain ⟨b1, h⟩ := zgd_e h
  refine zl_wAt hX dX13_form_10 (zin_ok b1) ?_
  obtain ⟨s2, e3, h⟩ := zcv_e h
  refine zc_fault hX dX13_form_11 (Nat.le_of_ble_eq_true rfl) (hc _ _ _ _ e3) (fun u9 h9 => ?_)
  cases h9
  exact zs_vret hX dX13_form_14 rfl (Option.some.inj h)
def b_must (n : Nat) (call : zCl) (h0 : Nat) (qs : List Nat) (ks : Nat → Nat) (x1 : Nat) (σ : zSt) : zRs :=
  zci (call 12 [.ref h0, .ref x1] σ) fun r3 s1 =>
  if r3 = 0 then
    zcv (call 13 [.ref h0] s1) fun s5 =>
    some (none, s5)
  else
    some (none, s1)
set_option maxHeartbeats 4000000 in
theorem pb_must {h0 : Nat} {qs : List Nat} {ks : Nat → Nat} {n : Nat} {call : zCl} {kc : Nat → List Value → zSt → (Option Value → zSt → Prop) → Prop} {v : Option Value × zSt} {X : Nat → zLv → List Value → zSt → Prop} (hX : zSem cX13_must 2 none h0 qs ks kc (fun r u => (r, u) = v) X) (hc : ∀ j av s w, call j av s = some w → kc j av s (fun r u => (r, u) = w)) {x1 : Nat} {σ : zSt} (h : b_must n call h0 qs ks x1 σ = some v) : X 0 [some (.ref h0), some (.ref x1)] [] σ := by
  rw [b_must] at h
  refine zs_aload_n hX dX13_must_0 rfl rfl ?_
  refine zs_aload_n hX dX13_must_1 rfl rfl ?_
  obtain ⟨r3, s1, e2, h⟩ := zci_e h
  refine zc_skip hX dX13_must_2 (Nat.le_of_ble_eq_true rfl) (hc _ _ _ _ e2) (fun r9 u9 h9 => ?_)
  cases h9
  refine zs_if_ne (tgt := 12) hX dX13_must_5 (by decide) (fun c4 => ?_) (fun c4 => ?_)
  · rw [if_neg c4] at h
    exact zs_vret hX dX13_must_12 rfl (Option.some.inj h)
  · rw [if_pos c4] at h
    refine zs_aload_n hX dX13_must_8 rfl rfl ?_
    obtain ⟨s5, e6, h⟩ := zcv_e h
    refine zc_form hX dX13_must_9 (Nat.le_of_ble_eq_true rfl) (hc _ _ _ _ e6) (fun u9 h9 => ?_)
    cases h9
    exact zs_vret hX dX13_must_12 rfl (Option.some.inj h)
def b_name (n : Nat) (call : zCl) (h0 : Nat) (qs : List Nat) (ks : Nat → Nat) (σ : zSt) : zRs :=
  if (σ.1 11) = 0 then
    zgd (zin (σ.1 10) 2010) (
    if (σ.2.2.1 3 ((σ.1 10)).toNatClampNeg) = 1 then
      zlet (zI σ 10 ((σ.1 10) + 1)) fun s4 =>
      some (some (.int ((s4.1 10) - 1)), s4)
    else
      zcv (call 13 [.ref h0] σ) fun s6 =>
      some (some (.int 0), s6))
  else
    some (some (.int 0), σ)
set_option maxHeartbeats 4000000 in
theorem pb_name {h0 : Nat} {qs : List Nat} {ks : Nat → Nat} {n : Nat} {call : zCl} {kc : Nat → List Value → zSt → (Option Value → zSt → Prop) → Prop} {v : Option Value × zSt} {X : Nat → zLv → List Value → zSt → Prop} (hX : zSem cX13_name 1 (some .int) h0 qs ks kc (fun r u => (r, u) = v) X) (hc : ∀ j av s w, call j av s = some w → kc j av s (fun r u => (r, u) = w)) {σ : zSt} (h : b_name n call h0 qs ks σ = some v) : X 0 [some (.ref h0)] [] σ := by
  rw [b_name] at h
  refine zs_aload_n hX dX13_name_0 rfl rfl ?_
  refine zg_bad hX dX13_name_1 ?_
  refine zs_if_eq (tgt := 9) hX dX13_name_4 (by decide) (fun c1 => ?_) (fun c1 => ?_)
  · rw [if_pos c1] at h
    refine zs_aload_n hX dX13_name_9 rfl rfl ?_
    refine zg_wKind hX dX13_name_10 ?_
    refine zs_aload_n hX dX13_name_13 rfl rfl ?_
    refine zg_w hX dX13_name_14 ?_
    obtain ⟨b2, h⟩ := zgd_e h
    refine zl_wKind hX dX13_name_17 (zin_ok b2) ?_
    refine zs_iconst (v := 1) hX dX13_name_18 (by decide) ?_
    refine zs_icmp_eq (tgt := 28) hX dX13_name_19 (by decide) (fun c3 => ?_) (fun c3 => ?_)
    · rw [if_pos c3] at h
      refine zs_aload_n hX dX13_name_28 rfl rfl ?_
      refine zs_dup hX dX13_name_29 rfl ?_
      refine zg_w hX dX13_name_30 ?_
      refine zs_iconst (v := 1) hX dX13_name_33 (by decide) ?_
      refine zs_iadd hX dX13_name_34 ?_
      obtain ⟨s4, e5, h⟩ := zlet_e h
      refine zp_w hX dX13_name_35 ?_
      rw [← e5]
      refine zs_aload_n hX dX13_name_38 rfl rfl ?_
      refine zg_w hX dX13_name_39 ?_
      refine zs_iconst (v := 1) hX dX13_name_42 (by decide) ?_
      refine zs_isub hX dX13_name_43 ?_
      exact zs_iret hX dX13_name_44 rfl (Option.some.inj h)
    · rw [if_neg c3] at h
      refine zs_aload_n hX dX13_name_22 rfl rfl ?_
      obtain ⟨s6, e7, h⟩ := zcv_e h
      refine zc_form hX dX13_name_23 (Nat.le_of_ble_eq_true rfl) (hc _ _ _ _ e7) (fun u9 h9 => ?_)
      cases h9
      refine zs_iconst (v := 0) hX dX13_name_26 (by decide) ?_
      exact zs_iret hX dX13_name_27 rfl (Option.some.inj h)
  · rw [if_neg c1] at h
    refine zs_iconst (v := 0) hX dX13_name_7 (by decide) ?_
    exact zs_iret hX dX13_name_8 rfl (Option.some.inj h)
def l_numberOf_9 (n : Nat) (call : zCl) (h0 : Nat) (qs : List Nat) (ks : Nat → Nat) : Nat → Int32 → Int32 → Int32 → zSt → zRs
  | 0, _, _, _, _ => none
  | f + 1, x1, x2, x3, σ =>
    zgd (zin x1 2010) (
    if (σ.2.2.1 5 (x1).toNatClampNeg) ≤ x3 then
      some (some (.int x2), σ)
    else
      zgd (zin x3 2000) (
      l_numberOf_9 n call h0 qs ks f x1 (((10 * x2) + (σ.2.2.1 1 (x3).toNatClampNeg)) - 48) (x3 + 1) σ))
def b_numberOf (n : Nat) (call : zCl) (h0 : Nat) (qs : List Nat) (ks : Nat → Nat) (x1 : Int32) (σ : zSt) : zRs :=
  zgd (zin x1 2010) (
  l_numberOf_9 n call h0 qs ks n x1 0 (σ.2.2.1 4 (x1).toNatClampNeg) σ)
set_option maxHeartbeats 4000000 in
theorem pl_numberOf_9 {h0 : Nat} {qs : List Nat} {ks : Nat → Nat} {n : Nat} {call : zCl} {kc : Nat → List Value → zSt → (Option Value → zSt → Prop) → Prop} {v : Option Value × zSt} {X : Nat → zLv → List Value → zSt → Prop} (hX : zSem cX13_numberOf 4 (some .int) h0 qs ks kc (fun r u => (r, u) = v) X) (hc : ∀ j av s w, call j av s = some w → kc j av s (fun r u => (r, u) = w)) : ∀ (f : Nat) (x1 : Int32) (x2 : Int32) (x3 : Int32) (σ : zSt), l_numberOf_9 n call h0 qs ks f x1 x2 x3 σ = some v → X 9 [some (.ref h0), some (.int x1), some (.int x2), some (.int x3)] [] σ := by
  intro f
  induction f with
  | zero => intro x1 x2 x3 σ h; cases h
  | succ f hk9 =>
    intro x1 x2 x3 σ h
    rw [l_numberOf_9] at h
    refine zs_iload_n hX dX13_numberOf_9 rfl rfl ?_
    refine zs_aload_n hX dX13_numberOf_10 rfl rfl ?_
    refine zg_wEnd hX dX13_numberOf_11 ?_
    refine zs_iload_n hX dX13_numberOf_14 rfl rfl ?_
    obtain ⟨b1, h⟩ := zgd_e h
    refine zl_wEnd hX dX13_numberOf_15 (zin_ok b1) ?_
    refine zs_icmp_ge (tgt := 40) hX dX13_numberOf_16 (by decide) (fun c2 => ?_) (fun c2 => ?_)
    · rw [if_pos c2] at h
      refine zs_iload_n hX dX13_numberOf_40 rfl rfl ?_
      exact zs_iret hX dX13_numberOf_41 rfl (Option.some.inj h)
    · rw [if_neg c2] at h
      refine zs_bipush (v := 10) hX dX13_numberOf_19 (by decide) ?_
      refine zs_iload_n hX dX13_numberOf_21 rfl rfl ?_
      refine zs_imul hX dX13_numberOf_22 ?_
      refine zs_aload_n hX dX13_numberOf_23 rfl rfl ?_
      refine zg_text hX dX13_numberOf_24 ?_
      refine zs_iload_n hX dX13_numberOf_27 rfl rfl ?_
      obtain ⟨b3, h⟩ := zgd_e h
      refine zl_text hX dX13_numberOf_28 (zin_ok b3) ?_
      refine zs_iadd hX dX13_numberOf_29 ?_
      refine zs_bipush (v := 48) hX dX13_numberOf_30 (by decide) ?_
      refine zs_isub hX dX13_numberOf_32 ?_
      refine zs_istore_n hX dX13_numberOf_33 rfl (by decide) rfl ?_
      dsimp only [List.set]
      refine zs_iinc (v := x3 + 1) hX dX13_numberOf_34 rfl rfl (by decide) rfl ?_
      dsimp only [List.set]
      refine zs_goto (tgt := 9) hX dX13_numberOf_37 (by decide) ?_
      exact hk9 _ _ _ _ h
set_option maxHeartbeats 4000000 in
theorem pb_numberOf {h0 : Nat} {qs : List Nat} {ks : Nat → Nat} {n : Nat} {call : zCl} {kc : Nat → List Value → zSt → (Option Value → zSt → Prop) → Prop} {v : Option Value × zSt} {X : Nat → zLv → List Value → zSt → Prop} (hX : zSem cX13_numberOf 4 (some .int) h0 qs ks kc (fun r u => (r, u) = v) X) (hc : ∀ j av s w, call j av s = some w → kc j av s (fun r u => (r, u) = w)) {x1 : Int32} {σ : zSt} (h : b_numberOf n call h0 qs ks x1 σ = some v) : X 0 [some (.ref h0), some (.int x1), none, none] [] σ := by
  rw [b_numberOf] at h
  refine zs_iconst (v := 0) hX dX13_numberOf_0 (by decide) ?_
  refine zs_istore_n hX dX13_numberOf_1 rfl (by decide) rfl ?_
  dsimp only [List.set]
  refine zs_aload_n hX dX13_numberOf_2 rfl rfl ?_
  refine zg_wAt hX dX13_numberOf_3 ?_
  refine zs_iload_n hX dX13_numberOf_6 rfl rfl ?_
  obtain ⟨b1, h⟩ := zgd_e h
  refine zl_wAt hX dX13_numberOf_7 (zin_ok b1) ?_
  refine zs_istore_n hX dX13_numberOf_8 rfl (by decide) rfl ?_
  dsimp only [List.set]
  exact pl_numberOf_9 hX hc n _ _ _ _ h
def b_number (n : Nat) (call : zCl) (h0 : Nat) (qs : List Nat) (ks : Nat → Nat) (σ : zSt) : zRs :=
  if (σ.1 11) = 0 then
    zgd (zin (σ.1 10) 2010) (
    if (σ.2.2.1 3 ((σ.1 10)).toNatClampNeg) = 2 then
      zlet (zI σ 10 ((σ.1 10) + 1)) fun s4 =>
      zci (call 16 [.ref h0, .int ((s4.1 10) - 1)] s4) fun r8 s6 =>
      some (some (.int r8), s6)
    else
      zcv (call 13 [.ref h0] σ) fun s9 =>
      some (some (.int 0), s9))
  else
    some (some (.int 0), σ)
set_option maxHeartbeats 4000000 in
theorem pb_number {h0 : Nat} {qs : List Nat} {ks : Nat → Nat} {n : Nat} {call : zCl} {kc : Nat → List Value → zSt → (Option Value → zSt → Prop) → Prop} {v : Option Value × zSt} {X : Nat → zLv → List Value → zSt → Prop} (hX : zSem cX13_number 1 (some .int) h0 qs ks kc (fun r u => (r, u) = v) X) (hc : ∀ j av s w, call j av s = some w → kc j av s (fun r u => (r, u) = w)) {σ : zSt} (h : b_number n call h0 qs ks σ = some v) : X 0 [some (.ref h0)] [] σ := by
  rw [b_number] at h
  refine zs_aload_n hX dX13_number_0 rfl rfl ?_
  refine zg_bad hX dX13_number_1 ?_
  refine zs_if_eq (tgt := 9) hX dX13_number_4 (by decide) (fun c1 => ?_) (fun c1 => ?_)
  · rw [if_pos c1] at h
    refine zs_aload_n hX dX13_number_9 rfl rfl ?_
    refine zg_wKind hX dX13_number_10 ?_
    refine zs_aload_n hX dX13_number_13 rfl rfl ?_
    refine zg_w hX dX13_number_14 ?_
    obtain ⟨b2, h⟩ := zgd_e h
    refine zl_wKind hX dX13_number_17 (zin_ok b2) ?_
    refine zs_iconst (v := 2) hX dX13_number_18 (by decide) ?_
    refine zs_icmp_eq (tgt := 28) hX dX13_number_19 (by decide) (fun c3 => ?_) (fun c3 => ?_)
    · rw [if_pos c3] at h
      refine zs_aload_n hX dX13_number_28 rfl rfl ?_
      refine zs_dup hX dX13_number_29 rfl ?_
      refine zg_w hX dX13_number_30 ?_
      refine zs_iconst (v := 1) hX dX13_number_33 (by decide) ?_
      refine zs_iadd hX dX13_number_34 ?_
      obtain ⟨s4, e5, h⟩ := zlet_e h
      refine zp_w hX dX13_number_35 ?_
      rw [← e5]
      refine zs_aload_n hX dX13_number_38 rfl rfl ?_
      refine zs_aload_n hX dX13_number_39 rfl rfl ?_
      refine zg_w hX dX13_number_40 ?_
      refine zs_iconst (v := 1) hX dX13_number_43 (by decide) ?_
      refine zs_isub hX dX13_number_44 ?_
      obtain ⟨r8, s6, e7, h⟩ := zci_e h
      refine zc_numberOf hX dX13_number_45 (Nat.le_of_ble_eq_true rfl) (hc _ _ _ _ e7) (fun r9 u9 h9 => ?_)
      cases h9
      exact zs_iret hX dX13_number_48 rfl (Option.some.inj h)
    · rw [if_neg c3] at h
      refine zs_aload_n hX dX13_number_22 rfl rfl ?_
      obtain ⟨s9, e10, h⟩ := zcv_e h
      refine zc_form hX dX13_number_23 (Nat.le_of_ble_eq_true rfl) (hc _ _ _ _ e10) (fun u9 h9 => ?_)
      cases h9
      refine zs_iconst (v := 0) hX dX13_number_26 (by decide) ?_
      exact zs_iret hX dX13_number_27 rfl (Option.some.inj h)
  · rw [if_neg c1] at h
    refine zs_iconst (v := 0) hX dX13_number_7 (by decide) ?_
    exact zs_iret hX dX13_number_8 rfl (Option.some.inj h)
def b_relation (n : Nat) (call : zCl) (h0 : Nat) (qs : List Nat) (ks : Nat → Nat) (σ : zSt) : zRs :=
  zci (call 11 [.ref h0, .ref (ks 457)] σ) fun r3 s1 =>
  if r3 = 0 then
    zci (call 11 [.ref h0, .ref (ks 459)] s1) fun r7 s5 =>
    if r7 = 0 then
      zci (call 11 [.ref h0, .ref (ks 461)] s5) fun r11 s9 =>
      if r11 = 0 then
        zci (call 11 [.ref h0, .ref (ks 463)] s9) fun r15 s13 =>
        if r15 = 0 then
          zci (call 11 [.ref h0, .ref (ks 465)] s13) fun r19 s17 =>
          if r19 = 0 then
            zci (call 11 [.ref h0, .ref (ks 467)] s17) fun r23 s21 =>
            if r23 = 0 then
              some (some (.int (-1)), s21)
            else
              some (some (.int 5), s21)
          else
            some (some (.int 4), s17)
        else
          some (some (.int 3), s13)
      else
        some (some (.int 2), s9)
    else
      some (some (.int 1), s5)
  else
    some (some (.int 0), s1)
set_option maxHeartbeats 4000000 in
theorem pb_relation {h0 : Nat} {qs : List Nat} {ks : Nat → Nat} {n : Nat} {call : zCl} {kc : Nat → List Value → zSt → (Option Value → zSt → Prop) → Prop} {v : Option Value × zSt} {X : Nat → zLv → List Value → zSt → Prop} (hX : zSem cX13_relation 1 (some .int) h0 qs ks kc (fun r u => (r, u) = v) X) (hc : ∀ j av s w, call j av s = some w → kc j av s (fun r u => (r, u) = w)) {σ : zSt} (h : b_relation n call h0 qs ks σ = some v) : X 0 [some (.ref h0)] [] σ := by
  rw [b_relation] at h
  refine zs_aload_n hX dX13_relation_0 rfl rfl ?_
  refine zs_ldcS hX dX13_relation_1 (List.mem_of_getElem? (i := 7) rfl) ?_
  obtain ⟨r3, s1, e2, h⟩ := zci_e h
  refine zc_here hX dX13_relation_4 (Nat.le_of_ble_eq_true rfl) (hc _ _ _ _ e2) (fun r9 u9 h9 => ?_)
  cases h9
  refine zs_if_eq (tgt := 12) hX dX13_relation_7 (by decide) (fun c4 => ?_) (fun c4 => ?_)
  · rw [if_pos c4] at h
    refine zs_aload_n hX dX13_relation_12 rfl rfl ?_
    refine zs_ldcS hX dX13_relation_13 (List.mem_of_getElem? (i := 8) rfl) ?_
    obtain ⟨r7, s5, e6, h⟩ := zci_e h
    refine zc_here hX dX13_relation_16 (Nat.le_of_ble_eq_true rfl) (hc _ _ _ _ e6) (fun r9 u9 h9 => ?_)
    cases h9
    refine zs_if_eq (tgt := 24) hX dX13_relation_19 (by decide) (fun c8 => ?_) (fun c8 => ?_)
    · rw [if_pos c8] at h
      refine zs_aload_n hX dX13_relation_24 rfl rfl ?_
      refine zs_ldcS hX dX13_relation_25 (List.mem_of_getElem? (i := 9) rfl) ?_
      obtain ⟨r11, s9, e10, h⟩ := zci_e h
      refine zc_here hX dX13_relation_28 (Nat.le_of_ble_eq_true rfl) (hc _ _ _ _ e10) (fun r9 u9 h9 => ?_)
      cases h9
      refine zs_if_eq (tgt := 36) hX dX13_relation_31 (by decide) (fun c12 => ?_) (fun c12 => ?_)
      · rw [if_pos c12] at h
        refine zs_aload_n hX dX13_relation_36 rfl rfl ?_
        refine zs_ldcS hX dX13_relation_37 (List.mem_of_getElem? (i := 10) rfl) ?_
        obtain ⟨r15, s13, e14, h⟩ := zci_e h
        refine zc_here hX dX13_relation_40 (Nat.le_of_ble_eq_true rfl) (hc _ _ _ _ e14) (fun r9 u9 h9 => ?_)
        cases h9
        refine zs_if_eq (tgt := 48) hX dX13_relation_43 (by decide) (fun c16 => ?_) (fun c16 => ?_)
        · rw [if_pos c16] at h
          refine zs_aload_n hX dX13_relation_48 rfl rfl ?_
          refine zs_ldcS hX dX13_relation_49 (List.mem_of_getElem? (i := 11) rfl) ?_
          obtain ⟨r19, s17, e18, h⟩ := zci_e h
          refine zc_here hX dX13_relation_52 (Nat.le_of_ble_eq_true rfl) (hc _ _ _ _ e18) (fun r9 u9 h9 => ?_)
          cases h9
          refine zs_if_eq (tgt := 60) hX dX13_relation_55 (by decide) (fun c20 => ?_) (fun c20 => ?_)
          · rw [if_pos c20] at h
            refine zs_aload_n hX dX13_relation_60 rfl rfl ?_
            refine zs_ldcS hX dX13_relation_61 (List.mem_of_getElem? (i := 12) rfl) ?_
            obtain ⟨r23, s21, e22, h⟩ := zci_e h
            refine zc_here hX dX13_relation_64 (Nat.le_of_ble_eq_true rfl) (hc _ _ _ _ e22) (fun r9 u9 h9 => ?_)
            cases h9
            refine zs_if_eq (tgt := 74) hX dX13_relation_67 (by decide) (fun c24 => ?_) (fun c24 => ?_)
            · rw [if_pos c24] at h
              refine zs_iconst (v := (-1)) hX dX13_relation_74 (by decide) ?_
              exact zs_iret hX dX13_relation_75 rfl (Option.some.inj h)
            · rw [if_neg c24] at h
              refine zs_iconst (v := 5) hX dX13_relation_70 (by decide) ?_
              refine zs_goto (tgt := 75) hX dX13_relation_71 (by decide) ?_
              exact zs_iret hX dX13_relation_75 rfl (Option.some.inj h)
          · rw [if_neg c20] at h
            refine zs_iconst (v := 4) hX dX13_relation_58 (by decide) ?_
            exact zs_iret hX dX13_relation_59 rfl (Option.some.inj h)
        · rw [if_neg c16] at h
          refine zs_iconst (v := 3) hX dX13_relation_46 (by decide) ?_
          exact zs_iret hX dX13_relation_47 rfl (Option.some.inj h)
      · rw [if_neg c12] at h
        refine zs_iconst (v := 2) hX dX13_relation_34 (by decide) ?_
        exact zs_iret hX dX13_relation_35 rfl (Option.some.inj h)
    · rw [if_neg c8] at h
      refine zs_iconst (v := 1) hX dX13_relation_22 (by decide) ?_
      exact zs_iret hX dX13_relation_23 rfl (Option.some.inj h)
  · rw [if_neg c4] at h
    refine zs_iconst (v := 0) hX dX13_relation_10 (by decide) ?_
    exact zs_iret hX dX13_relation_11 rfl (Option.some.inj h)
def j_isArgument_63 (n : Nat) (call : zCl) (h0 : Nat) (qs : List Nat) (ks : Nat → Nat) (σ : zSt) : zRs :=
  some (some (.int 1), σ)
def b_isArgument (n : Nat) (call : zCl) (h0 : Nat) (qs : List Nat) (ks : Nat → Nat) (σ : zSt) : zRs :=
  if (σ.1 11) = 0 then
    zgd (zin (σ.1 10) 2010) (
    if (σ.2.2.1 3 ((σ.1 10)).toNatClampNeg) = 1 then
      j_isArgument_63 n call h0 qs ks σ
    else
      zgd (zin (σ.1 10) 2010) (
      if (σ.2.2.1 3 ((σ.1 10)).toNatClampNeg) = 2 then
        j_isArgument_63 n call h0 qs ks σ
      else
        zci (call 11 [.ref h0, .ref (ks 582)] σ) fun r8 s6 =>
        if r8 = 0 then
          zci (call 11 [.ref h0, .ref (ks 578)] s6) fun r12 s10 =>
          if r12 = 0 then
            zci (call 11 [.ref h0, .ref (ks 580)] s10) fun r16 s14 =>
            if r16 = 0 then
              some (some (.int 0), s14)
            else
              j_isArgument_63 n call h0 qs ks s14
          else
            j_isArgument_63 n call h0 qs ks s10
        else
          j_isArgument_63 n call h0 qs ks s6))
  else
    some (some (.int 0), σ)
set_option maxHeartbeats 4000000 in
theorem pj_isArgument_63 {h0 : Nat} {qs : List Nat} {ks : Nat → Nat} {n : Nat} {call : zCl} {kc : Nat → List Value → zSt → (Option Value → zSt → Prop) → Prop} {v : Option Value × zSt} {X : Nat → zLv → List Value → zSt → Prop} (hX : zSem cX13_isArgument 1 (some .boolean) h0 qs ks kc (fun r u => (r, u) = v) X) (hc : ∀ j av s w, call j av s = some w → kc j av s (fun r u => (r, u) = w)) {σ : zSt} (h : j_isArgument_63 n call h0 qs ks σ = some v) : X 63 [none] [] σ := by
  rw [j_isArgument_63] at h
  refine zs_iconst (v := 1) hX dX13_isArgument_63 (by decide) ?_
  refine zs_goto (tgt := 68) hX dX13_isArgument_64 (by decide) ?_
  exact zs_zret hX dX13_isArgument_68 rfl (by decide) (Option.some.inj h)
set_option maxHeartbeats 4000000 in
theorem pb_isArgument {h0 : Nat} {qs : List Nat} {ks : Nat → Nat} {n : Nat} {call : zCl} {kc : Nat → List Value → zSt → (Option Value → zSt → Prop) → Prop} {v : Option Value × zSt} {X : Nat → zLv → List Value → zSt → Prop} (hX : zSem cX13_isArgument 1 (some .boolean) h0 qs ks kc (fun r u => (r, u) = v) X) (hc : ∀ j av s w, call j av s = some w → kc j av s (fun r u => (r, u) = w)) {σ : zSt} (h : b_isArgument n call h0 qs ks σ = some v) : X 0 [some (.ref h0)] [] σ := by
  rw [b_isArgument] at h
  refine zs_aload_n hX dX13_isArgument_0 rfl rfl ?_
  refine zg_bad hX dX13_isArgument_1 ?_
  refine zs_if_ne (tgt := 67) hX dX13_isArgument_4 (by decide) (fun c1 => ?_) (fun c1 => ?_)
  · rw [if_neg c1] at h
    refine zs_iconst (v := 0) hX dX13_isArgument_67 (by decide) ?_
    exact zs_zret hX dX13_isArgument_68 rfl (by decide) (Option.some.inj h)
  · rw [if_pos c1] at h
    refine zs_aload_n hX dX13_isArgument_7 rfl rfl ?_
    refine zg_wKind hX dX13_isArgument_8 ?_
    refine zs_aload_n hX dX13_isArgument_11 rfl rfl ?_
    refine zg_w hX dX13_isArgument_12 ?_
    obtain ⟨b2, h⟩ := zgd_e h
    refine zl_wKind hX dX13_isArgument_15 (zin_ok b2) ?_
    refine zs_iconst (v := 1) hX dX13_isArgument_16 (by decide) ?_
    refine zs_icmp_eq (tgt := 63) hX dX13_isArgument_17 (by decide) (fun c3 => ?_) (fun c3 => ?_)
    · rw [if_pos c3] at h
      refine zs_weak hX (lw := [none]) trivial ?_
      exact pj_isArgument_63 hX hc h
    · rw [if_neg c3] at h
      refine zs_aload_n hX dX13_isArgument_20 rfl rfl ?_
      refine zg_wKind hX dX13_isArgument_21 ?_
      refine zs_aload_n hX dX13_isArgument_24 rfl rfl ?_
      refine zg_w hX dX13_isArgument_25 ?_
      obtain ⟨b4, h⟩ := zgd_e h
      refine zl_wKind hX dX13_isArgument_28 (zin_ok b4) ?_
      refine zs_iconst (v := 2) hX dX13_isArgument_29 (by decide) ?_
      refine zs_icmp_eq (tgt := 63) hX dX13_isArgument_30 (by decide) (fun c5 => ?_) (fun c5 => ?_)
      · rw [if_pos c5] at h
        refine zs_weak hX (lw := [none]) trivial ?_
        exact pj_isArgument_63 hX hc h
      · rw [if_neg c5] at h
        refine zs_aload_n hX dX13_isArgument_33 rfl rfl ?_
        refine zs_ldcS hX dX13_isArgument_34 (List.mem_of_getElem? (i := 26) rfl) ?_
        obtain ⟨r8, s6, e7, h⟩ := zci_e h
        refine zc_here hX dX13_isArgument_37 (Nat.le_of_ble_eq_true rfl) (hc _ _ _ _ e7) (fun r9 u9 h9 => ?_)
        cases h9
        refine zs_if_ne (tgt := 63) hX dX13_isArgument_40 (by decide) (fun c9 => ?_) (fun c9 => ?_)
        · rw [if_neg c9] at h
          refine zs_weak hX (lw := [none]) trivial ?_
          exact pj_isArgument_63 hX hc h
        · rw [if_pos c9] at h
          refine zs_aload_n hX dX13_isArgument_43 rfl rfl ?_
          refine zs_ldcS hX dX13_isArgument_44 (List.mem_of_getElem? (i := 28) rfl) ?_
          obtain ⟨r12, s10, e11, h⟩ := zci_e h
          refine zc_here hX dX13_isArgument_47 (Nat.le_of_ble_eq_true rfl) (hc _ _ _ _ e11) (fun r9 u9 h9 => ?_)
          cases h9
          refine zs_if_ne (tgt := 63) hX dX13_isArgument_50 (by decide) (fun c13 => ?_) (fun c13 => ?_)
          · rw [if_neg c13] at h
            refine zs_weak hX (lw := [none]) trivial ?_
            exact pj_isArgument_63 hX hc h
          · rw [if_pos c13] at h
            refine zs_aload_n hX dX13_isArgument_53 rfl rfl ?_
            refine zs_ldcS hX dX13_isArgument_54 (List.mem_of_getElem? (i := 29) rfl) ?_
            obtain ⟨r16, s14, e15, h⟩ := zci_e h
            refine zc_here hX dX13_isArgument_57 (Nat.le_of_ble_eq_true rfl) (hc _ _ _ _ e15) (fun r9 u9 h9 => ?_)
            cases h9
            refine zs_if_eq (tgt := 67) hX dX13_isArgument_60 (by decide) (fun c17 => ?_) (fun c17 => ?_)
            · rw [if_pos c17] at h
              refine zs_iconst (v := 0) hX dX13_isArgument_67 (by decide) ?_
              exact zs_zret hX dX13_isArgument_68 rfl (by decide) (Option.some.inj h)
            · rw [if_neg c17] at h
              refine zs_weak hX (lw := [none]) trivial ?_
              exact pj_isArgument_63 hX hc h
