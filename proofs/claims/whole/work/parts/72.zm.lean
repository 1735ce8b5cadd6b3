/-! the methods of the reference as plain functions (20 to 39) -/
def j_part_77 (n : Nat) (call : zCl) (h0 : Nat) (qs : List Nat) (ks : Nat → Nat) (x1 : Int32) (x2 : Int32) (σ : zSt) : zRs :=
  zgd (zin (σ.1 28) 2100) (zlet (zA σ 16 (upd (σ.2.2.1 16) ((σ.1 28)).toNatClampNeg x2)) fun s2 =>
  zgd (zin (s2.1 28) 2100) (zlet (zA s2 17 (upd (s2.2.2.1 17) ((s2.1 28)).toNatClampNeg x1)) fun s5 =>
  zgd (zin (s5.1 28) 2100) (zlet (zA s5 18 (upd (s5.2.2.1 18) ((s5.1 28)).toNatClampNeg (s5.1 10))) fun s8 =>
  zlet (zI s8 28 ((s8.1 28) + 1)) fun s10 =>
  zlet (zI s10 10 ((s10.1 10) + 1)) fun s12 =>
  some (none, s12))))
def j_part_55 (n : Nat) (call : zCl) (h0 : Nat) (qs : List Nat) (ks : Nat → Nat) (x1 : Int32) (x2 : Int32) (σ : zSt) : zRs :=
  if x2 ≤ 0 then
    j_part_77 n call h0 qs ks x1 x2 σ
  else
    zgd (zin (σ.1 10) 2010) (
    if (σ.2.2.1 3 ((σ.1 10)).toNatClampNeg) = 1 then
      j_part_77 n call h0 qs ks x1 x2 σ
    else
      zcv (call 13 [.ref h0] σ) fun s4 =>
      some (none, s4))
def b_part (n : Nat) (call : zCl) (h0 : Nat) (qs : List Nat) (ks : Nat → Nat) (x1 : Int32) (σ : zSt) : zRs :=
  if (σ.1 11) = 0 then
    zci (call 12 [.ref h0, .ref (ks 609)] σ) fun r4 s2 =>
    if r4 = 0 then
      zci (call 12 [.ref h0, .ref (ks 611)] s2) fun r8 s6 =>
      if r8 = 0 then
        zgd (zin (s6.1 10) 2010) (
        if (s6.2.2.1 3 ((s6.1 10)).toNatClampNeg) = 2 then
          j_part_55 n call h0 qs ks x1 0 s6
        else
          j_part_55 n call h0 qs ks x1 1 s6)
      else
        j_part_55 n call h0 qs ks x1 3 s6
    else
      j_part_55 n call h0 qs ks x1 2 s2
  else
    some (none, σ)
set_option maxHeartbeats 4000000 in
theorem pj_part_77 {h0 : Nat} {qs : List Nat} {ks : Nat → Nat} {n : Nat} {call : zCl} {kc : Nat → List Value → zSt → (Option Value → zSt → Prop) → Prop} {v : Option Value × zSt} {X : Nat → zLv → List Value → zSt → Prop} (hX : zSem cX13_part 3 none h0 qs ks kc (fun r u => (r, u) = v) X) (hc : ∀ j av s w, call j av s = some w → kc j av s (fun r u => (r, u) = w)) {x1 : Int32} {x2 : Int32} {σ : zSt} (h : j_part_77 n call h0 qs ks x1 x2 σ = some v) : X 77 [some (.ref h0), some (.int x1), some (.int x2)] [] σ := by
  rw [j_part_77] at h
  refine zs_aload_n hX dX13_part_77 rfl rfl ?_
  refine zg_pKind hX dX13_part_78 ?_
  refine zs_aload_n hX dX13_part_81 rfl rfl ?_
  refine zg_partsMany hX dX13_part_82 ?_
  refine zs_iload_n hX dX13_part_85 rfl rfl ?_
  obtain ⟨b1, h⟩ := zgd_e h
  obtain ⟨s2, e3, h⟩ := zlet_e h
  refine zt_pKind hX dX13_part_86 (zin_ok b1) ?_
  rw [← e3]
  refine zs_aload_n hX dX13_part_87 rfl rfl ?_
  refine zg_pSign hX dX13_part_88 ?_
  refine zs_aload_n hX dX13_part_91 rfl rfl ?_
  refine zg_partsMany hX dX13_part_92 ?_
  refine zs_iload_n hX dX13_part_95 rfl rfl ?_
  obtain ⟨b4, h⟩ := zgd_e h
  obtain ⟨s5, e6, h⟩ := zlet_e h
  refine zt_pSign hX dX13_part_96 (zin_ok b4) ?_
  rw [← e6]
  refine zs_aload_n hX dX13_part_97 rfl rfl ?_
  refine zg_pWord hX dX13_part_98 ?_
  refine zs_aload_n hX dX13_part_101 rfl rfl ?_
  refine zg_partsMany hX dX13_part_102 ?_
  refine zs_aload_n hX dX13_part_105 rfl rfl ?_
  refine zg_w hX dX13_part_106 ?_
  obtain ⟨b7, h⟩ := zgd_e h
  obtain ⟨s8, e9, h⟩ := zlet_e h
  refine zt_pWord hX dX13_part_109 (zin_ok b7) ?_
  rw [← e9]
  refine zs_aload_n hX dX13_part_110 rfl rfl ?_
  refine zs_dup hX dX13_part_111 rfl ?_
  refine zg_partsMany hX dX13_part_112 ?_
  refine zs_iconst (v := 1) hX dX13_part_115 (by decide) ?_
  refine zs_iadd hX dX13_part_116 ?_
  obtain ⟨s10, e11, h⟩ := zlet_e h
  refine zp_partsMany hX dX13_part_117 ?_
  rw [← e11]
  refine zs_aload_n hX dX13_part_120 rfl rfl ?_
  refine zs_dup hX dX13_part_121 rfl ?_
  refine zg_w hX dX13_part_122 ?_
  refine zs_iconst (v := 1) hX dX13_part_125 (by decide) ?_
  refine zs_iadd hX dX13_part_126 ?_
  obtain ⟨s12, e13, h⟩ := zlet_e h
  refine zp_w hX dX13_part_127 ?_
  rw [← e13]
  exact zs_vret hX dX13_part_130 rfl (Option.some.inj h)
set_option maxHeartbeats 4000000 in
theorem pj_part_55 {h0 : Nat} {qs : List Nat} {ks : Nat → Nat} {n : Nat} {call : zCl} {kc : Nat → List Value → zSt → (Option Value → zSt → Prop) → Prop} {v : Option Value × zSt} {X : Nat → zLv → List Value → zSt → Prop} (hX : zSem cX13_part 3 none h0 qs ks kc (fun r u => (r, u) = v) X) (hc : ∀ j av s w, call j av s = some w → kc j av s (fun r u => (r, u) = w)) {x1 : Int32} {x2 : Int32} {σ : zSt} (h : j_part_55 n call h0 qs ks x1 x2 σ = some v) : X 55 [some (.ref h0), some (.int x1), some (.int x2)] [] σ := by
  rw [j_part_55] at h
  refine zs_iload_n hX dX13_part_55 rfl rfl ?_
  refine zs_if_le (tgt := 77) hX dX13_part_56 (by decide) (fun c1 => ?_) (fun c1 => ?_)
  · rw [if_pos c1] at h
    exact pj_part_77 hX hc h
  · rw [if_neg c1] at h
    refine zs_aload_n hX dX13_part_59 rfl rfl ?_
    refine zg_wKind hX dX13_part_60 ?_
    refine zs_aload_n hX dX13_part_63 rfl rfl ?_
    refine zg_w hX dX13_part_64 ?_
    obtain ⟨b2, h⟩ := zgd_e h
    refine zl_wKind hX dX13_part_67 (zin_ok b2) ?_
    refine zs_iconst (v := 1) hX dX13_part_68 (by decide) ?_
    refine zs_icmp_eq (tgt := 77) hX dX13_part_69 (by decide) (fun c3 => ?_) (fun c3 => ?_)
    · rw [if_pos c3] at h
      exact pj_part_77 hX hc h
    · rw [if_neg c3] at h
      refine zs_aload_n hX dX13_part_72 rfl rfl ?_
      obtain ⟨s4, e5, h⟩ := zcv_e h
      refine zc_form hX dX13_part_73 (Nat.le_of_ble_eq_true rfl) (hc _ _ _ _ e5) (fun u9 h9 => ?_)
      cases h9
      exact zs_vret hX dX13_part_76 rfl (Option.some.inj h)
set_option maxHeartbeats 4000000 in
theorem pb_part {h0 : Nat} {qs : List Nat} {ks : Nat → Nat} {n : Nat} {call : zCl} {kc : Nat → List Value → zSt → (Option Value → zSt → Prop) → Prop} {v : Option Value × zSt} {X : Nat → zLv → List Value → zSt → Prop} (hX : zSem cX13_part 3 none h0 qs ks kc (fun r u => (r, u) = v) X) (hc : ∀ j av s w, call j av s = some w → kc j av s (fun r u => (r, u) = w)) {x1 : Int32} {σ : zSt} (h : b_part n call h0 qs ks x1 σ = some v) : X 0 [some (.ref h0), some (.int x1), none] [] σ := by
  rw [b_part] at h
  refine zs_aload_n hX dX13_part_0 rfl rfl ?_
  refine zg_bad hX dX13_part_1 ?_
  refine zs_if_eq (tgt := 8) hX dX13_part_4 (by decide) (fun c1 => ?_) (fun c1 => ?_)
  · rw [if_pos c1] at h
    refine zs_iconst (v := 1) hX dX13_part_8 (by decide) ?_
    refine zs_istore_n hX dX13_part_9 rfl (by decide) rfl ?_
    dsimp only [List.set]
    refine zs_aload_n hX dX13_part_10 rfl rfl ?_
    refine zs_ldcS hX dX13_part_11 (List.mem_of_getElem? (i := 30) rfl) ?_
    obtain ⟨r4, s2, e3, h⟩ := zci_e h
    refine zc_skip hX dX13_part_14 (Nat.le_of_ble_eq_true rfl) (hc _ _ _ _ e3) (fun r9 u9 h9 => ?_)
    cases h9
    refine zs_if_eq (tgt := 25) hX dX13_part_17 (by decide) (fun c5 => ?_) (fun c5 => ?_)
    · rw [if_pos c5] at h
      refine zs_aload_n hX dX13_part_25 rfl rfl ?_
      refine zs_ldcS hX dX13_part_26 (List.mem_of_getElem? (i := 31) rfl) ?_
      obtain ⟨r8, s6, e7, h⟩ := zci_e h
      refine zc_skip hX dX13_part_29 (Nat.le_of_ble_eq_true rfl) (hc _ _ _ _ e7) (fun r9 u9 h9 => ?_)
      cases h9
      refine zs_if_eq (tgt := 40) hX dX13_part_32 (by decide) (fun c9 => ?_) (fun c9 => ?_)
      · rw [if_pos c9] at h
        refine zs_aload_n hX dX13_part_40 rfl rfl ?_
        refine zg_wKind hX dX13_part_41 ?_
        refine zs_aload_n hX dX13_part_44 rfl rfl ?_
        refine zg_w hX dX13_part_45 ?_
        obtain ⟨b10, h⟩ := zgd_e h
        refine zl_wKind hX dX13_part_48 (zin_ok b10) ?_
        refine zs_iconst (v := 2) hX dX13_part_49 (by decide) ?_
        refine zs_icmp_ne (tgt := 55) hX dX13_part_50 (by decide) (fun c11 => ?_) (fun c11 => ?_)
        · rw [if_neg c11] at h
          exact pj_part_55 hX hc h
        · rw [if_pos c11] at h
          refine zs_iconst (v := 0) hX dX13_part_53 (by decide) ?_
          refine zs_istore_n hX dX13_part_54 rfl (by decide) rfl ?_
          dsimp only [List.set]
          exact pj_part_55 hX hc h
      · rw [if_neg c9] at h
        refine zs_iconst (v := 3) hX dX13_part_35 (by decide) ?_
        refine zs_istore_n hX dX13_part_36 rfl (by decide) rfl ?_
        dsimp only [List.set]
        refine zs_goto (tgt := 55) hX dX13_part_37 (by decide) ?_
        exact pj_part_55 hX hc h
    · rw [if_neg c5] at h
      refine zs_iconst (v := 2) hX dX13_part_20 (by decide) ?_
      refine zs_istore_n hX dX13_part_21 rfl (by decide) rfl ?_
      dsimp only [List.set]
      refine zs_goto (tgt := 55) hX dX13_part_22 (by decide) ?_
      exact pj_part_55 hX hc h
  · rw [if_neg c1] at h
    exact zs_vret hX dX13_part_7 rfl (Option.some.inj h)
def j_sum_96 (n : Nat) (call : zCl) (h0 : Nat) (qs : List Nat) (ks : Nat → Nat) (k61 : Int32 → zSt → zRs) (x1 : Int32) (t0 : Int32) (σ : zSt) : zRs :=
  zlet (zI σ 10 ((σ.1 10) + 1)) fun s1 =>
  zcv (call 20 [.ref h0, .int t0] s1) fun s3 =>
  k61 x1 s3
def j_sum_81 (n : Nat) (call : zCl) (h0 : Nat) (qs : List Nat) (ks : Nat → Nat) (k61 : Int32 → zSt → zRs) (x1 : Int32) (σ : zSt) : zRs :=
  zci (call 11 [.ref h0, .ref (ks 506)] σ) fun r3 s1 =>
  if r3 = 0 then
    j_sum_96 n call h0 qs ks k61 x1 1 s1
  else
    j_sum_96 n call h0 qs ks k61 x1 (-1) s1
def l_sum_61 (n : Nat) (call : zCl) (h0 : Nat) (qs : List Nat) (ks : Nat → Nat) : Nat → Int32 → zSt → zRs
  | 0, _, _ => none
  | f + 1, x1, σ =>
    zci (call 11 [.ref h0, .ref (ks 510)] σ) fun r3 s1 =>
    if r3 = 0 then
      zci (call 11 [.ref h0, .ref (ks 506)] s1) fun r7 s5 =>
      if r7 = 0 then
        zgd (zin x1 2100) (zlet (zA s5 14 (upd (s5.2.2.1 14) (x1).toNatClampNeg (s5.1 28))) fun s10 =>
        some (some (.int x1), s10))
      else
        j_sum_81 n call h0 qs ks (l_sum_61 n call h0 qs ks f) x1 s5
    else
      j_sum_81 n call h0 qs ks (l_sum_61 n call h0 qs ks f) x1 s1
def j_sum_55 (n : Nat) (call : zCl) (h0 : Nat) (qs : List Nat) (ks : Nat → Nat) (x1 : Int32) (t0 : Int32) (σ : zSt) : zRs :=
  zcv (call 20 [.ref h0, .int t0] σ) fun s1 =>
  l_sum_61 n call h0 qs ks n x1 s1
def b_sum (n : Nat) (call : zCl) (h0 : Nat) (qs : List Nat) (ks : Nat → Nat) (σ : zSt) : zRs :=
  zlet (zI σ 24 ((σ.1 24) + 1)) fun s1 =>
  zgd (zin (s1.1 10) 2010) (
  zgd (zin (σ.1 24) 2100) (zlet (zA s1 15 (upd (s1.2.2.1 15) ((σ.1 24)).toNatClampNeg (s1.2.2.1 4 ((s1.1 10)).toNatClampNeg))) fun s5 =>
  zgd (zin (σ.1 24) 2100) (zlet (zA s5 13 (upd (s5.2.2.1 13) ((σ.1 24)).toNatClampNeg (s5.1 28))) fun s8 =>
  zci (call 12 [.ref h0, .ref (ks 506)] s8) fun r12 s10 =>
  if r12 = 0 then
    j_sum_55 n call h0 qs ks (σ.1 24) 1 s10
  else
    j_sum_55 n call h0 qs ks (σ.1 24) (-1) s10)))
set_option maxHeartbeats 4000000 in
theorem pj_sum_96 {h0 : Nat} {qs : List Nat} {ks : Nat → Nat} {n : Nat} {call : zCl} {kc : Nat → List Value → zSt → (Option Value → zSt → Prop) → Prop} {v : Option Value × zSt} {X : Nat → zLv → List Value → zSt → Prop} (hX : zSem cX13_sum 3 (some .int) h0 qs ks kc (fun r u => (r, u) = v) X) (hc : ∀ j av s w, call j av s = some w → kc j av s (fun r u => (r, u) = w)) {k61 : Int32 → zSt → zRs} (hk61 : ∀ (x1 : Int32) (s : zSt), k61 x1 s = some v → X 61 [some (.ref h0), some (.int x1), none] [] s) {x1 : Int32} {t0 : Int32} {σ : zSt} (h : j_sum_96 n call h0 qs ks k61 x1 t0 σ = some v) : X 96 [some (.ref h0), some (.int x1), none] [.int t0] σ := by
  rw [j_sum_96] at h
  refine zs_istore_n hX dX13_sum_96 rfl (by decide) rfl ?_
  dsimp only [List.set]
  refine zs_aload_n hX dX13_sum_97 rfl rfl ?_
  refine zs_dup hX dX13_sum_98 rfl ?_
  refine zg_w hX dX13_sum_99 ?_
  refine zs_iconst (v := 1) hX dX13_sum_102 (by decide) ?_
  refine zs_iadd hX dX13_sum_103 ?_
  obtain ⟨s1, e2, h⟩ := zlet_e h
  refine zp_w hX dX13_sum_104 ?_
  rw [← e2]
  refine zs_aload_n hX dX13_sum_107 rfl rfl ?_
  refine zs_iload_n hX dX13_sum_108 rfl rfl ?_
  obtain ⟨s3, e4, h⟩ := zcv_e h
  refine zc_part hX dX13_sum_109 (Nat.le_of_ble_eq_true rfl) (hc _ _ _ _ e4) (fun u9 h9 => ?_)
  cases h9
  refine zs_goto (tgt := 61) hX dX13_sum_112 (by decide) ?_
  refine zs_weak hX (lw := [some (.ref h0), some (.int x1), none]) ⟨rfl, rfl, trivial⟩ ?_
  exact hk61 _ _ h
set_option maxHeartbeats 4000000 in
theorem pj_sum_81 {h0 : Nat} {qs : List Nat} {ks : Nat → Nat} {n : Nat} {call : zCl} {kc : Nat → List Value → zSt → (Option Value → zSt → Prop) → Prop} {v : Option Value × zSt} {X : Nat → zLv → List Value → zSt → Prop} (hX : zSem cX13_sum 3 (some .int) h0 qs ks kc (fun r u => (r, u) = v) X) (hc : ∀ j av s w, call j av s = some w → kc j av s (fun r u => (r, u) = w)) {k61 : Int32 → zSt → zRs} (hk61 : ∀ (x1 : Int32) (s : zSt), k61 x1 s = some v → X 61 [some (.ref h0), some (.int x1), none] [] s) {x1 : Int32} {σ : zSt} (h : j_sum_81 n call h0 qs ks k61 x1 σ = some v) : X 81 [some (.ref h0), some (.int x1), none] [] σ := by
  rw [j_sum_81] at h
  refine zs_aload_n hX dX13_sum_81 rfl rfl ?_
  refine zs_ldcS hX dX13_sum_82 (List.mem_of_getElem? (i := 13) rfl) ?_
  obtain ⟨r3, s1, e2, h⟩ := zci_e h
  refine zc_here hX dX13_sum_85 (Nat.le_of_ble_eq_true rfl) (hc _ _ _ _ e2) (fun r9 u9 h9 => ?_)
  cases h9
  refine zs_if_eq (tgt := 95) hX dX13_sum_88 (by decide) (fun c4 => ?_) (fun c4 => ?_)
  · rw [if_pos c4] at h
    refine zs_iconst (v := 1) hX dX13_sum_95 (by decide) ?_
    exact pj_sum_96 hX hc hk61 h
  · rw [if_neg c4] at h
    refine zs_iconst (v := (-1)) hX dX13_sum_91 (by decide) ?_
    refine zs_goto (tgt := 96) hX dX13_sum_92 (by decide) ?_
    exact pj_sum_96 hX hc hk61 h
set_option maxHeartbeats 4000000 in
theorem pl_sum_61 {h0 : Nat} {qs : List Nat} {ks : Nat → Nat} {n : Nat} {call : zCl} {kc : Nat → List Value → zSt → (Option Value → zSt → Prop) → Prop} {v : Option Value × zSt} {X : Nat → zLv → List Value → zSt → Prop} (hX : zSem cX13_sum 3 (some .int) h0 qs ks kc (fun r u => (r, u) = v) X) (hc : ∀ j av s w, call j av s = some w → kc j av s (fun r u => (r, u) = w)) : ∀ (f : Nat) (x1 : Int32) (σ : zSt), l_sum_61 n call h0 qs ks f x1 σ = some v → X 61 [some (.ref h0), some (.int x1), none] [] σ := by
  intro f
  induction f with
  | zero => intro x1 σ h; cases h
  | succ f hk61 =>
    intro x1 σ h
    rw [l_sum_61] at h
    refine zs_aload_n hX dX13_sum_61 rfl rfl ?_
    refine zs_ldcS hX dX13_sum_62 (List.mem_of_getElem? (i := 15) rfl) ?_
    obtain ⟨r3, s1, e2, h⟩ := zci_e h
    refine zc_here hX dX13_sum_65 (Nat.le_of_ble_eq_true rfl) (hc _ _ _ _ e2) (fun r9 u9 h9 => ?_)
    cases h9
    refine zs_if_ne (tgt := 81) hX dX13_sum_68 (by decide) (fun c4 => ?_) (fun c4 => ?_)
    · rw [if_neg c4] at h
      exact pj_sum_81 hX hc hk61 h
    · rw [if_pos c4] at h
      refine zs_aload_n hX dX13_sum_71 rfl rfl ?_
      refine zs_ldcS hX dX13_sum_72 (List.mem_of_getElem? (i := 13) rfl) ?_
      obtain ⟨r7, s5, e6, h⟩ := zci_e h
      refine zc_here hX dX13_sum_75 (Nat.le_of_ble_eq_true rfl) (hc _ _ _ _ e6) (fun r9 u9 h9 => ?_)
      cases h9
      refine zs_if_eq (tgt := 115) hX dX13_sum_78 (by decide) (fun c8 => ?_) (fun c8 => ?_)
      · rw [if_pos c8] at h
        refine zs_aload_n hX dX13_sum_115 rfl rfl ?_
        refine zg_sTo hX dX13_sum_116 ?_
        refine zs_iload_n hX dX13_sum_119 rfl rfl ?_
        refine zs_aload_n hX dX13_sum_120 rfl rfl ?_
        refine zg_partsMany hX dX13_sum_121 ?_
        obtain ⟨b9, h⟩ := zgd_e h
        obtain ⟨s10, e11, h⟩ := zlet_e h
        refine zt_sTo hX dX13_sum_124 (zin_ok b9) ?_
        rw [← e11]
        refine zs_iload_n hX dX13_sum_125 rfl rfl ?_
        exact zs_iret hX dX13_sum_126 rfl (Option.some.inj h)
      · rw [if_neg c8] at h
        exact pj_sum_81 hX hc hk61 h
set_option maxHeartbeats 4000000 in
theorem pj_sum_55 {h0 : Nat} {qs : List Nat} {ks : Nat → Nat} {n : Nat} {call : zCl} {kc : Nat → List Value → zSt → (Option Value → zSt → Prop) → Prop} {v : Option Value × zSt} {X : Nat → zLv → List Value → zSt → Prop} (hX : zSem cX13_sum 3 (some .int) h0 qs ks kc (fun r u => (r, u) = v) X) (hc : ∀ j av s w, call j av s = some w → kc j av s (fun r u => (r, u) = w)) {x1 : Int32} {t0 : Int32} {σ : zSt} (h : j_sum_55 n call h0 qs ks x1 t0 σ = some v) : X 55 [some (.ref h0), some (.int x1), none] [.int t0] σ := by
  rw [j_sum_55] at h
  refine zs_istore_n hX dX13_sum_55 rfl (by decide) rfl ?_
  dsimp only [List.set]
  refine zs_aload_n hX dX13_sum_56 rfl rfl ?_
  refine zs_iload_n hX dX13_sum_57 rfl rfl ?_
  obtain ⟨s1, e2, h⟩ := zcv_e h
  refine zc_part hX dX13_sum_58 (Nat.le_of_ble_eq_true rfl) (hc _ _ _ _ e2) (fun u9 h9 => ?_)
  cases h9
  refine zs_weak hX (lw := [some (.ref h0), some (.int x1), none]) ⟨rfl, rfl, trivial⟩ ?_
  exact pl_sum_61 hX hc n _ _ h
set_option maxHeartbeats 4000000 in
theorem pb_sum {h0 : Nat} {qs : List Nat} {ks : Nat → Nat} {n : Nat} {call : zCl} {kc : Nat → List Value → zSt → (Option Value → zSt → Prop) → Prop} {v : Option Value × zSt} {X : Nat → zLv → List Value → zSt → Prop} (hX : zSem cX13_sum 3 (some .int) h0 qs ks kc (fun r u => (r, u) = v) X) (hc : ∀ j av s w, call j av s = some w → kc j av s (fun r u => (r, u) = w)) {σ : zSt} (h : b_sum n call h0 qs ks σ = some v) : X 0 [some (.ref h0), none, none] [] σ := by
  rw [b_sum] at h
  refine zs_aload_n hX dX13_sum_0 rfl rfl ?_
  refine zg_sums hX dX13_sum_1 ?_
  refine zs_istore_n hX dX13_sum_4 rfl (by decide) rfl ?_
  dsimp only [List.set]
  refine zs_aload_n hX dX13_sum_5 rfl rfl ?_
  refine zs_dup hX dX13_sum_6 rfl ?_
  refine zg_sums hX dX13_sum_7 ?_
  refine zs_iconst (v := 1) hX dX13_sum_10 (by decide) ?_
  refine zs_iadd hX dX13_sum_11 ?_
  obtain ⟨s1, e2, h⟩ := zlet_e h
  refine zp_sums hX dX13_sum_12 ?_
  rw [← e2]
  refine zs_aload_n hX dX13_sum_15 rfl rfl ?_
  refine zg_sAt hX dX13_sum_16 ?_
  refine zs_iload_n hX dX13_sum_19 rfl rfl ?_
  refine zs_aload_n hX dX13_sum_20 rfl rfl ?_
  refine zg_wAt hX dX13_sum_21 ?_
  refine zs_aload_n hX dX13_sum_24 rfl rfl ?_
  refine zg_w hX dX13_sum_25 ?_
  obtain ⟨b3, h⟩ := zgd_e h
  refine zl_wAt hX dX13_sum_28 (zin_ok b3) ?_
  obtain ⟨b4, h⟩ := zgd_e h
  obtain ⟨s5, e6, h⟩ := zlet_e h
  refine zt_sAt hX dX13_sum_29 (zin_ok b4) ?_
  rw [← e6]
  refine zs_aload_n hX dX13_sum_30 rfl rfl ?_
  refine zg_sFrom hX dX13_sum_31 ?_
  refine zs_iload_n hX dX13_sum_34 rfl rfl ?_
  refine zs_aload_n hX dX13_sum_35 rfl rfl ?_
  refine zg_partsMany hX dX13_sum_36 ?_
  obtain ⟨b7, h⟩ := zgd_e h
  obtain ⟨s8, e9, h⟩ := zlet_e h
  refine zt_sFrom hX dX13_sum_39 (zin_ok b7) ?_
  rw [← e9]
  refine zs_aload_n hX dX13_sum_40 rfl rfl ?_
  refine zs_ldcS hX dX13_sum_41 (List.mem_of_getElem? (i := 13) rfl) ?_
  obtain ⟨r12, s10, e11, h⟩ := zci_e h
  refine zc_skip hX dX13_sum_44 (Nat.le_of_ble_eq_true rfl) (hc _ _ _ _ e11) (fun r9 u9 h9 => ?_)
  cases h9
  refine zs_if_eq (tgt := 54) hX dX13_sum_47 (by decide) (fun c13 => ?_) (fun c13 => ?_)
  · rw [if_pos c13] at h
    refine zs_iconst (v := 1) hX dX13_sum_54 (by decide) ?_
    exact pj_sum_55 hX hc h
  · rw [if_neg c13] at h
    refine zs_iconst (v := (-1)) hX dX13_sum_50 (by decide) ?_
    refine zs_goto (tgt := 55) hX dX13_sum_51 (by decide) ?_
    exact pj_sum_55 hX hc h
def l_both_5 (n : Nat) (call : zCl) (h0 : Nat) (qs : List Nat) (ks : Nat → Nat) : Nat → Int32 → zSt → zRs
  | 0, _, _ => none
  | f + 1, x1, σ =>
    zci (call 11 [.ref h0, .ref (ks 620)] σ) fun r3 s1 =>
    if r3 = 0 then
      some (some (.int x1), s1)
    else
      zgd (zin x1 2100) (
      zci (call 10 [.ref h0, .int 21, .int (s1.2.2.1 7 (x1).toNatClampNeg)] s1) fun r8 s6 =>
      zlet (zI s6 10 ((s6.1 10) + 1)) fun s9 =>
      zgd (zin r8 2100) (zlet (zA s9 9 (upd (s9.2.2.1 9) (r8).toNatClampNeg x1)) fun s12 =>
      zci (call 24 [.ref h0] s12) fun r16 s14 =>
      zgd (zin r8 2100) (zlet (zA s14 10 (upd (s14.2.2.1 10) (r8).toNatClampNeg r16)) fun s18 =>
      l_both_5 n call h0 qs ks f r8 s18)))
def b_both (n : Nat) (call : zCl) (h0 : Nat) (qs : List Nat) (ks : Nat → Nat) (σ : zSt) : zRs :=
  zci (call 24 [.ref h0] σ) fun r3 s1 =>
  l_both_5 n call h0 qs ks n r3 s1
set_option maxHeartbeats 4000000 in
theorem pl_both_5 {h0 : Nat} {qs : List Nat} {ks : Nat → Nat} {n : Nat} {call : zCl} {kc : Nat → List Value → zSt → (Option Value → zSt → Prop) → Prop} {v : Option Value × zSt} {X : Nat → zLv → List Value → zSt → Prop} (hX : zSem cX13_both 3 (some .int) h0 qs ks kc (fun r u => (r, u) = v) X) (hc : ∀ j av s w, call j av s = some w → kc j av s (fun r u => (r, u) = w)) : ∀ (f : Nat) (x1 : Int32) (σ : zSt), l_both_5 n call h0 qs ks f x1 σ = some v → X 5 [some (.ref h0), some (.int x1), none] [] σ := by
  intro f
  induction f with
  | zero => intro x1 σ h; cases h
  | succ f hk5 =>
    intro x1 σ h
    rw [l_both_5] at h
    refine zs_aload_n hX dX13_both_5 rfl rfl ?_
    refine zs_ldcS hX dX13_both_6 (List.mem_of_getElem? (i := 32) rfl) ?_
    obtain ⟨r3, s1, e2, h⟩ := zci_e h
    refine zc_here hX dX13_both_9 (Nat.le_of_ble_eq_true rfl) (hc _ _ _ _ e2) (fun r9 u9 h9 => ?_)
    cases h9
    refine zs_if_eq (tgt := 60) hX dX13_both_12 (by decide) (fun c4 => ?_) (fun c4 => ?_)
    · rw [if_pos c4] at h
      refine zs_iload_n hX dX13_both_60 rfl rfl ?_
      exact zs_iret hX dX13_both_61 rfl (Option.some.inj h)
    · rw [if_neg c4] at h
      refine zs_aload_n hX dX13_both_15 rfl rfl ?_
      refine zs_bipush (v := 21) hX dX13_both_16 (by decide) ?_
      refine zs_aload_n hX dX13_both_18 rfl rfl ?_
      refine zg_at hX dX13_both_19 ?_
      refine zs_iload_n hX dX13_both_22 rfl rfl ?_
      obtain ⟨b5, h⟩ := zgd_e h
      refine zl_at hX dX13_both_23 (zin_ok b5) ?_
      obtain ⟨r8, s6, e7, h⟩ := zci_e h
      refine zc_node hX dX13_both_24 (Nat.le_of_ble_eq_true rfl) (hc _ _ _ _ e7) (fun r9 u9 h9 => ?_)
      cases h9
      refine zs_istore_n hX dX13_both_27 rfl (by decide) rfl ?_
      dsimp only [List.set]
      refine zs_aload_n hX dX13_both_28 rfl rfl ?_
      refine zs_dup hX dX13_both_29 rfl ?_
      refine zg_w hX dX13_both_30 ?_
      refine zs_iconst (v := 1) hX dX13_both_33 (by decide) ?_
      refine zs_iadd hX dX13_both_34 ?_
      obtain ⟨s9, e10, h⟩ := zlet_e h
      refine zp_w hX dX13_both_35 ?_
      rw [← e10]
      refine zs_aload_n hX dX13_both_38 rfl rfl ?_
      refine zg_x1 hX dX13_both_39 ?_
      refine zs_iload_n hX dX13_both_42 rfl rfl ?_
      refine zs_iload_n hX dX13_both_43 rfl rfl ?_
      obtain ⟨b11, h⟩ := zgd_e h
      obtain ⟨s12, e13, h⟩ := zlet_e h
      refine zt_x1 hX dX13_both_44 (zin_ok b11) ?_
      rw [← e13]
      refine zs_aload_n hX dX13_both_45 rfl rfl ?_
      refine zg_x2 hX dX13_both_46 ?_
      refine zs_iload_n hX dX13_both_49 rfl rfl ?_
      refine zs_aload_n hX dX13_both_50 rfl rfl ?_
      obtain ⟨r16, s14, e15, h⟩ := zci_e h
      refine zc_single hX dX13_both_51 (Nat.le_of_ble_eq_true rfl) (hc _ _ _ _ e15) (fun r9 u9 h9 => ?_)
      cases h9
      obtain ⟨b17, h⟩ := zgd_e h
      obtain ⟨s18, e19, h⟩ := zlet_e h
      refine zt_x2 hX dX13_both_54 (zin_ok b17) ?_
      rw [← e19]
      refine zs_iload_n hX dX13_both_55 rfl rfl ?_
      refine zs_istore_n hX dX13_both_56 rfl (by decide) rfl ?_
      dsimp only [List.set]
      refine zs_goto (tgt := 5) hX dX13_both_57 (by decide) ?_
      refine zs_weak hX (lw := [some (.ref h0), some (.int r8), none]) ⟨rfl, rfl, trivial⟩ ?_
      exact hk5 _ _ h
set_option maxHeartbeats 4000000 in
theorem pb_both {h0 : Nat} {qs : List Nat} {ks : Nat → Nat} {n : Nat} {call : zCl} {kc : Nat → List Value → zSt → (Option Value → zSt → Prop) → Prop} {v : Option Value × zSt} {X : Nat → zLv → List Value → zSt → Prop} (hX : zSem cX13_both 3 (some .int) h0 qs ks kc (fun r u => (r, u) = v) X) (hc : ∀ j av s w, call j av s = some w → kc j av s (fun r u => (r, u) = w)) {σ : zSt} (h : b_both n call h0 qs ks σ = some v) : X 0 [some (.ref h0), none, none] [] σ := by
  rw [b_both] at h
  refine zs_aload_n hX dX13_both_0 rfl rfl ?_
  obtain ⟨r3, s1, e2, h⟩ := zci_e h
  refine zc_single hX dX13_both_1 (Nat.le_of_ble_eq_true rfl) (hc _ _ _ _ e2) (fun r9 u9 h9 => ?_)
  cases h9
  refine zs_istore_n hX dX13_both_4 rfl (by decide) rfl ?_
  dsimp only [List.set]
  exact pl_both_5 hX hc n _ _ h
def l_condition_5 (n : Nat) (call : zCl) (h0 : Nat) (qs : List Nat) (ks : Nat → Nat) : Nat → Int32 → zSt → zRs
  | 0, _, _ => none
  | f + 1, x1, σ =>
    zci (call 11 [.ref h0, .ref (ks 615)] σ) fun r3 s1 =>
    if r3 = 0 then
      some (some (.int x1), s1)
    else
      zgd (zin x1 2100) (
      zci (call 10 [.ref h0, .int 20, .int (s1.2.2.1 7 (x1).toNatClampNeg)] s1) fun r8 s6 =>
      zlet (zI s6 10 ((s6.1 10) + 1)) fun s9 =>
      zgd (zin r8 2100) (zlet (zA s9 9 (upd (s9.2.2.1 9) (r8).toNatClampNeg x1)) fun s12 =>
      zci (call 22 [.ref h0] s12) fun r16 s14 =>
      zgd (zin r8 2100) (zlet (zA s14 10 (upd (s14.2.2.1 10) (r8).toNatClampNeg r16)) fun s18 =>
      l_condition_5 n call h0 qs ks f r8 s18)))
def b_condition (n : Nat) (call : zCl) (h0 : Nat) (qs : List Nat) (ks : Nat → Nat) (σ : zSt) : zRs :=
  zci (call 22 [.ref h0] σ) fun r3 s1 =>
  l_condition_5 n call h0 qs ks n r3 s1
set_option maxHeartbeats 4000000 in
theorem pl_condition_5 {h0 : Nat} {qs : List Nat} {ks : Nat → Nat} {n : Nat} {call : zCl} {kc : Nat → List Value → zSt → (Option Value → zSt → Prop) → Prop} {v : Option Value × zSt} {X : Nat → zLv → List Value → zSt → Prop} (hX : zSem cX13_condition 3 (some .int) h0 qs ks kc (fun r u => (r, u) = v) X) (hc : ∀ j av s w, call j av s = some w → kc j av s (fun r u => (r, u) = w)) : ∀ (f : Nat) (x1 : Int32) (σ : zSt), l_condition_5 n call h0 qs ks f x1 σ = some v → X 5 [some (.ref h0), some (.int x1), none] [] σ := by
  intro f
  induction f with
  | zero => intro x1 σ h; cases h
  | succ f hk5 =>
    intro x1 σ h
    rw [l_condition_5] at h
    refine zs_aload_n hX dX13_condition_5 rfl rfl ?_
    refine zs_ldcS hX dX13_condition_6 (List.mem_of_getElem? (i := 33) rfl) ?_
    obtain ⟨r3, s1, e2, h⟩ := zci_e h
    refine zc_here hX dX13_condition_9 (Nat.le_of_ble_eq_true rfl) (hc _ _ _ _ e2) (fun r9 u9 h9 => ?_)
    cases h9
    refine zs_if_eq (tgt := 60) hX dX13_condition_12 (by decide) (fun c4 => ?_) (fun c4 => ?_)
    · rw [if_pos c4] at h
      refine zs_iload_n hX dX13_condition_60 rfl rfl ?_
      exact zs_iret hX dX13_condition_61 rfl (Option.some.inj h)
    · rw [if_neg c4] at h
      refine zs_aload_n hX dX13_condition_15 rfl rfl ?_
      refine zs_bipush (v := 20) hX dX13_condition_16 (by decide) ?_
      refine zs_aload_n hX dX13_condition_18 rfl rfl ?_
      refine zg_at hX dX13_condition_19 ?_
      refine zs_iload_n hX dX13_condition_22 rfl rfl ?_
      obtain ⟨b5, h⟩ := zgd_e h
      refine zl_at hX dX13_condition_23 (zin_ok b5) ?_
      obtain ⟨r8, s6, e7, h⟩ := zci_e h
      refine zc_node hX dX13_condition_24 (Nat.le_of_ble_eq_true rfl) (hc _ _ _ _ e7) (fun r9 u9 h9 => ?_)
      cases h9
      refine zs_istore_n hX dX13_condition_27 rfl (by decide) rfl ?_
      dsimp only [List.set]
      refine zs_aload_n hX dX13_condition_28 rfl rfl ?_
      refine zs_dup hX dX13_condition_29 rfl ?_
      refine zg_w hX dX13_condition_30 ?_
      refine zs_iconst (v := 1) hX dX13_condition_33 (by decide) ?_
      refine zs_iadd hX dX13_condition_34 ?_
      obtain ⟨s9, e10, h⟩ := zlet_e h
      refine zp_w hX dX13_condition_35 ?_
      rw [← e10]
      refine zs_aload_n hX dX13_condition_38 rfl rfl ?_
      refine zg_x1 hX dX13_condition_39 ?_
      refine zs_iload_n hX dX13_condition_42 rfl rfl ?_
      refine zs_iload_n hX dX13_condition_43 rfl rfl ?_
      obtain ⟨b11, h⟩ := zgd_e h
      obtain ⟨s12, e13, h⟩ := zlet_e h
      refine zt_x1 hX dX13_condition_44 (zin_ok b11) ?_
      rw [← e13]
      refine zs_aload_n hX dX13_condition_45 rfl rfl ?_
      refine zg_x2 hX dX13_condition_46 ?_
      refine zs_iload_n hX dX13_condition_49 rfl rfl ?_
      refine zs_aload_n hX dX13_condition_50 rfl rfl ?_
      obtain ⟨r16, s14, e15, h⟩ := zci_e h
      refine zc_both hX dX13_condition_51 (Nat.le_of_ble_eq_true rfl) (hc _ _ _ _ e15) (fun r9 u9 h9 => ?_)
      cases h9
      obtain ⟨b17, h⟩ := zgd_e h
      obtain ⟨s18, e19, h⟩ := zlet_e h
      refine zt_x2 hX dX13_condition_54 (zin_ok b17) ?_
      rw [← e19]
      refine zs_iload_n hX dX13_condition_55 rfl rfl ?_
      refine zs_istore_n hX dX13_condition_56 rfl (by decide) rfl ?_
      dsimp only [List.set]
      refine zs_goto (tgt := 5) hX dX13_condition_57 (by decide) ?_
      refine zs_weak hX (lw := [some (.ref h0), some (.int r8), none]) ⟨rfl, rfl, trivial⟩ ?_
      exact hk5 _ _ h
set_option maxHeartbeats 4000000 in
theorem pb_condition {h0 : Nat} {qs : List Nat} {ks : Nat → Nat} {n : Nat} {call : zCl} {kc : Nat → List Value → zSt → (Option Value → zSt → Prop) → Prop} {v : Option Value × zSt} {X : Nat → zLv → List Value → zSt → Prop} (hX : zSem cX13_condition 3 (some .int) h0 qs ks kc (fun r u => (r, u) = v) X) (hc : ∀ j av s w, call j av s = some w → kc j av s (fun r u => (r, u) = w)) {σ : zSt} (h : b_condition n call h0 qs ks σ = some v) : X 0 [some (.ref h0), none, none] [] σ := by
  rw [b_condition] at h
  refine zs_aload_n hX dX13_condition_0 rfl rfl ?_
  obtain ⟨r3, s1, e2, h⟩ := zci_e h
  refine zc_both hX dX13_condition_1 (Nat.le_of_ble_eq_true rfl) (hc _ _ _ _ e2) (fun r9 u9 h9 => ?_)
  cases h9
  refine zs_istore_n hX dX13_condition_4 rfl (by decide) rfl ?_
  dsimp only [List.set]
  exact pl_condition_5 hX hc n _ _ h
def j_single_330 (n : Nat) (call : zCl) (h0 : Nat) (qs : List Nat) (ks : Nat → Nat) (σ : zSt) : zRs :=
  zcv (call 13 [.ref h0] σ) fun s1 =>
  some (some (.int 0), s1)
def j_single_199 (n : Nat) (call : zCl) (h0 : Nat) (qs : List Nat) (ks : Nat → Nat) (x2 : Int32) (t1 : Int32) (t2 : Int32) (σ : zSt) : zRs :=
  zgd (zin t1 2100) (zlet (zA σ 9 (upd (σ.2.2.1 9) (t1).toNatClampNeg t2)) fun s2 =>
  zlet (zI s2 10 ((s2.1 10) + 1)) fun s4 =>
  some (some (.int x2), s4))
def j_single_171 (n : Nat) (call : zCl) (h0 : Nat) (qs : List Nat) (ks : Nat → Nat) (x1 : Int32) (σ : zSt) : zRs :=
  zci (call 10 [.ref h0, .int 23, .int x1] σ) fun r3 s1 =>
  zci (call 11 [.ref h0, .ref (ks 578)] s1) fun r6 s4 =>
  if r6 = 0 then
    j_single_199 n call h0 qs ks r3 r3 0 s4
  else
    j_single_199 n call h0 qs ks r3 r3 1 s4
def j_single_95 (n : Nat) (call : zCl) (h0 : Nat) (qs : List Nat) (ks : Nat → Nat) (x1 : Int32) (x2 : Int32) (t0 : Int32) (σ : zSt) : zRs :=
  zlet (zI σ 33 ((σ.1 33) - 1)) fun s1 =>
  if x2 = 0 then
    zcv (call 14 [.ref h0, .ref (ks 584)] s1) fun s10 =>
    zgd (zin t0 2100) (
    zgd (zin t0 2100) (zlet (zA s10 7 (upd (s10.2.2.1 7) (t0).toNatClampNeg (s10.2.2.1 7 (t0).toNatClampNeg))) fun s14 =>
    some (some (.int t0), s14)))
  else
    zci (call 10 [.ref h0, .int 22, .int x1] s1) fun r6 s4 =>
    zgd (zin r6 2100) (zlet (zA s4 9 (upd (s4.2.2.1 9) (r6).toNatClampNeg t0)) fun s8 =>
    some (some (.int r6), s8))
def j_single_80 (n : Nat) (call : zCl) (h0 : Nat) (qs : List Nat) (ks : Nat → Nat) (x1 : Int32) (x2 : Int32) (σ : zSt) : zRs :=
  if x2 = 0 then
    zci (call 23 [.ref h0] σ) fun r4 s2 =>
    j_single_95 n call h0 qs ks x1 x2 r4 s2
  else
    zci (call 24 [.ref h0] σ) fun r7 s5 =>
    j_single_95 n call h0 qs ks x1 x2 r7 s5
def j_single_39 (n : Nat) (call : zCl) (h0 : Nat) (qs : List Nat) (ks : Nat → Nat) (x1 : Int32) (σ : zSt) : zRs :=
  zci (call 11 [.ref h0, .ref (ks 622)] σ) fun r3 s1 =>
  zlet (zI s1 10 ((s1.1 10) + 1)) fun s4 =>
  zlet (zI s4 33 ((s4.1 33) + 1)) fun s6 =>
  if (s6.1 33) ≤ 30 then
    j_single_80 n call h0 qs ks x1 r3 s6
  else
    zcv (call 13 [.ref h0] s6) fun s9 =>
    j_single_80 n call h0 qs ks x1 r3 s9
def b_single (n : Nat) (call : zCl) (h0 : Nat) (qs : List Nat) (ks : Nat → Nat) (σ : zSt) : zRs :=
  if (σ.1 11) = 0 then
    zgd (zin (σ.1 10) 2010) (
    zci (call 11 [.ref h0, .ref (ks 622)] σ) fun r5 s3 =>
    if r5 = 0 then
      zci (call 11 [.ref h0, .ref (ks 582)] s3) fun r9 s7 =>
      if r9 = 0 then
        zci (call 11 [.ref h0, .ref (ks 578)] s7) fun r13 s11 =>
        if r13 = 0 then
          zci (call 11 [.ref h0, .ref (ks 580)] s11) fun r17 s15 =>
          if r17 = 0 then
            zci (call 21 [.ref h0] s15) fun r21 s19 =>
            zci (call 18 [.ref h0] s19) fun r24 s22 =>
            if 0 ≤ r24 then
              zci (call 10 [.ref h0, .int 25, .int (σ.2.2.1 4 ((σ.1 10)).toNatClampNeg)] s22) fun r28 s26 =>
              zgd (zin (s26.1 10) 2010) (
              zgd (zin r28 2100) (zlet (zA s26 8 (upd (s26.2.2.1 8) (r28).toNatClampNeg (s26.2.2.1 4 ((s26.1 10)).toNatClampNeg))) fun s31 =>
              zlet (zI s31 10 ((s31.1 10) + 1)) fun s33 =>
              zgd (zin r28 2100) (zlet (zA s33 9 (upd (s33.2.2.1 9) (r28).toNatClampNeg r21)) fun s36 =>
              zgd (zin r28 2100) (zlet (zA s36 11 (upd (s36.2.2.1 11) (r28).toNatClampNeg r24)) fun s39 =>
              zci (call 21 [.ref h0] s39) fun r43 s41 =>
              zgd (zin r28 2100) (zlet (zA s41 10 (upd (s41.2.2.1 10) (r28).toNatClampNeg r43)) fun s45 =>
              some (some (.int r28), s45))))))
            else
              if (s22.1 11) = 0 then
                zgd (zin r21 2100) (
                zgd (zin r21 2100) (
                if ((s22.2.2.1 14 (r21).toNatClampNeg) - (s22.2.2.1 13 (r21).toNatClampNeg)) = 1 then
                  zgd (zin r21 2100) (
                  zgd (zin (s22.2.2.1 13 (r21).toNatClampNeg) 2100) (
                  if (s22.2.2.1 16 ((s22.2.2.1 13 (r21).toNatClampNeg)).toNatClampNeg) = 1 then
                    zgd (zin r21 2100) (
                    zgd (zin (s22.2.2.1 13 (r21).toNatClampNeg) 2100) (
                    if (s22.2.2.1 17 ((s22.2.2.1 13 (r21).toNatClampNeg)).toNatClampNeg) = 1 then
                      zgd (zin r21 2100) (
                      zgd (zin (s22.2.2.1 13 (r21).toNatClampNeg) 2100) (
                      zgd (zin (s22.2.2.1 18 ((s22.2.2.1 13 (r21).toNatClampNeg)).toNatClampNeg) 2010) (
                      if (s22.2.2.1 4 ((s22.2.2.1 18 ((s22.2.2.1 13 (r21).toNatClampNeg)).toNatClampNeg)).toNatClampNeg) = (σ.2.2.1 4 ((σ.1 10)).toNatClampNeg) then
                        zci (call 10 [.ref h0, .int 24, .int (σ.2.2.1 4 ((σ.1 10)).toNatClampNeg)] s22) fun r63 s61 =>
                        zgd (zin r21 2100) (
                        zgd (zin (s61.2.2.1 13 (r21).toNatClampNeg) 2100) (
                        zgd (zin r63 2100) (zlet (zA s61 9 (upd (s61.2.2.1 9) (r63).toNatClampNeg (s61.2.2.1 18 ((s61.2.2.1 13 (r21).toNatClampNeg)).toNatClampNeg))) fun s67 =>
                        some (some (.int r63), s67))))
                      else
                        j_single_330 n call h0 qs ks s22)))
                    else
                      j_single_330 n call h0 qs ks s22))
                  else
                    j_single_330 n call h0 qs ks s22))
                else
                  j_single_330 n call h0 qs ks s22))
              else
                j_single_330 n call h0 qs ks s22
          else
            j_single_171 n call h0 qs ks (σ.2.2.1 4 ((σ.1 10)).toNatClampNeg) s15
        else
          j_single_171 n call h0 qs ks (σ.2.2.1 4 ((σ.1 10)).toNatClampNeg) s11
      else
        j_single_39 n call h0 qs ks (σ.2.2.1 4 ((σ.1 10)).toNatClampNeg) s7
    else
      j_single_39 n call h0 qs ks (σ.2.2.1 4 ((σ.1 10)).toNatClampNeg) s3)
  else
    some (some (.int 0), σ)
set_option maxHeartbeats 4000000 in
theorem pj_single_330 {h0 : Nat} {qs : List Nat} {ks : Nat → Nat} {n : Nat} {call : zCl} {kc : Nat → List Value → zSt → (Option Value → zSt → Prop) → Prop} {v : Option Value × zSt} {X : Nat → zLv → List Value → zSt → Prop} (hX : zSem cX13_single 5 (some .int) h0 qs ks kc (fun r u => (r, u) = v) X) (hc : ∀ j av s w, call j av s = some w → kc j av s (fun r u => (r, u) = w)) {σ : zSt} (h : j_single_330 n call h0 qs ks σ = some v) : X 330 [some (.ref h0), none, none, none, none] [] σ := by
  rw [j_single_330] at h
  refine zs_aload_n hX dX13_single_330 rfl rfl ?_
  obtain ⟨s1, e2, h⟩ := zcv_e h
  refine zc_form hX dX13_single_331 (Nat.le_of_ble_eq_true rfl) (hc _ _ _ _ e2) (fun u9 h9 => ?_)
  cases h9
  refine zs_iconst (v := 0) hX dX13_single_334 (by decide) ?_
  exact zs_iret hX dX13_single_335 rfl (Option.some.inj h)
set_option maxHeartbeats 4000000 in
theorem pj_single_199 {h0 : Nat} {qs : List Nat} {ks : Nat → Nat} {n : Nat} {call : zCl} {kc : Nat → List Value → zSt → (Option Value → zSt → Prop) → Prop} {v : Option Value × zSt} {X : Nat → zLv → List Value → zSt → Prop} (hX : zSem cX13_single 5 (some .int) h0 qs ks kc (fun r u => (r, u) = v) X) (hc : ∀ j av s w, call j av s = some w → kc j av s (fun r u => (r, u) = w)) {x2 : Int32} {t1 : Int32} {t2 : Int32} {σ : zSt} (h : j_single_199 n call h0 qs ks x2 t1 t2 σ = some v) : X 199 [some (.ref h0), none, some (.int x2), none, none] [.int t2, .int t1, .ref (qs.getD 9 0)] σ := by
  rw [j_single_199] at h
  obtain ⟨b1, h⟩ := zgd_e h
  obtain ⟨s2, e3, h⟩ := zlet_e h
  refine zt_x1 hX dX13_single_199 (zin_ok b1) ?_
  rw [← e3]
  refine zs_aload_n hX dX13_single_200 rfl rfl ?_
  refine zs_dup hX dX13_single_201 rfl ?_
  refine zg_w hX dX13_single_202 ?_
  refine zs_iconst (v := 1) hX dX13_single_205 (by decide) ?_
  refine zs_iadd hX dX13_single_206 ?_
  obtain ⟨s4, e5, h⟩ := zlet_e h
  refine zp_w hX dX13_single_207 ?_
  rw [← e5]
  refine zs_iload_n hX dX13_single_210 rfl rfl ?_
  exact zs_iret hX dX13_single_211 rfl (Option.some.inj h)
set_option maxHeartbeats 4000000 in
theorem pj_single_171 {h0 : Nat} {qs : List Nat} {ks : Nat → Nat} {n : Nat} {call : zCl} {kc : Nat → List Value → zSt → (Option Value → zSt → Prop) → Prop} {v : Option Value × zSt} {X : Nat → zLv → List Value → zSt → Prop} (hX : zSem cX13_single 5 (some .int) h0 qs ks kc (fun r u => (r, u) = v) X) (hc : ∀ j av s w, call j av s = some w → kc j av s (fun r u => (r, u) = w)) {x1 : Int32} {σ : zSt} (h : j_single_171 n call h0 qs ks x1 σ = some v) : X 171 [some (.ref h0), some (.int x1), none, none, none] [] σ := by
  rw [j_single_171] at h
  refine zs_aload_n hX dX13_single_171 rfl rfl ?_
  refine zs_bipush (v := 23) hX dX13_single_172 (by decide) ?_
  refine zs_iload_n hX dX13_single_174 rfl rfl ?_
  obtain ⟨r3, s1, e2, h⟩ := zci_e h
  refine zc_node hX dX13_single_175 (Nat.le_of_ble_eq_true rfl) (hc _ _ _ _ e2) (fun r9 u9 h9 => ?_)
  cases h9
  refine zs_istore_n hX dX13_single_178 rfl (by decide) rfl ?_
  dsimp only [List.set]
  refine zs_aload_n hX dX13_single_179 rfl rfl ?_
  refine zg_x1 hX dX13_single_180 ?_
  refine zs_iload_n hX dX13_single_183 rfl rfl ?_
  refine zs_aload_n hX dX13_single_184 rfl rfl ?_
  refine zs_ldcS hX dX13_single_185 (List.mem_of_getElem? (i := 28) rfl) ?_
  obtain ⟨r6, s4, e5, h⟩ := zci_e h
  refine zc_here hX dX13_single_188 (Nat.le_of_ble_eq_true rfl) (hc _ _ _ _ e5) (fun r9 u9 h9 => ?_)
  cases h9
  refine zs_if_eq (tgt := 198) hX dX13_single_191 (by decide) (fun c7 => ?_) (fun c7 => ?_)
  · rw [if_pos c7] at h
    refine zs_iconst (v := 0) hX dX13_single_198 (by decide) ?_
    refine zs_weak hX (lw := [some (.ref h0), none, some (.int r3), none, none]) ⟨rfl, rfl, trivial⟩ ?_
    exact pj_single_199 hX hc h
  · rw [if_neg c7] at h
    refine zs_iconst (v := 1) hX dX13_single_194 (by decide) ?_
    refine zs_goto (tgt := 199) hX dX13_single_195 (by decide) ?_
    refine zs_weak hX (lw := [some (.ref h0), none, some (.int r3), none, none]) ⟨rfl, rfl, trivial⟩ ?_
    exact pj_single_199 hX hc h
set_option maxHeartbeats 4000000 in
theorem pj_single_95 {h0 : Nat} {qs : List Nat} {ks : Nat → Nat} {n : Nat} {call : zCl} {kc : Nat → List Value → zSt → (Option Value → zSt → Prop) → Prop} {v : Option Value × zSt} {X : Nat → zLv → List Value → zSt → Prop} (hX : zSem cX13_single 5 (some .int) h0 qs ks kc (fun r u => (r, u) = v) X) (hc : ∀ j av s w, call j av s = some w → kc j av s (fun r u => (r, u) = w)) {x1 : Int32} {x2 : Int32} {t0 : Int32} {σ : zSt} (h : j_single_95 n call h0 qs ks x1 x2 t0 σ = some v) : X 95 [some (.ref h0), some (.int x1), some (.int x2), none, none] [.int t0] σ := by
  rw [j_single_95] at h
  refine zs_istore_n hX dX13_single_95 rfl (by decide) rfl ?_
  dsimp only [List.set]
  refine zs_aload_n hX dX13_single_96 rfl rfl ?_
  refine zs_dup hX dX13_single_97 rfl ?_
  refine zg_deep hX dX13_single_98 ?_
  refine zs_iconst (v := 1) hX dX13_single_101 (by decide) ?_
  refine zs_isub hX dX13_single_102 ?_
  obtain ⟨s1, e2, h⟩ := zlet_e h
  refine zp_deep hX dX13_single_103 ?_
  rw [← e2]
  refine zs_iload_n hX dX13_single_106 rfl rfl ?_
  refine zs_if_ne (tgt := 131) hX dX13_single_107 (by decide) (fun c3 => ?_) (fun c3 => ?_)
  · rw [if_neg c3] at h
    refine zs_aload_n hX dX13_single_131 rfl rfl ?_
    refine zs_bipush (v := 22) hX dX13_single_132 (by decide) ?_
    refine zs_iload_n hX dX13_single_134 rfl rfl ?_
    obtain ⟨r6, s4, e5, h⟩ := zci_e h
    refine zc_node hX dX13_single_135 (Nat.le_of_ble_eq_true rfl) (hc _ _ _ _ e5) (fun r9 u9 h9 => ?_)
    cases h9
    refine zs_istore hX dX13_single_138 (by decide) rfl ?_
    dsimp only [List.set]
    refine zs_aload_n hX dX13_single_140 rfl rfl ?_
    refine zg_x1 hX dX13_single_141 ?_
    refine zs_iload hX dX13_single_144 rfl ?_
    refine zs_iload_n hX dX13_single_146 rfl rfl ?_
    obtain ⟨b7, h⟩ := zgd_e h
    obtain ⟨s8, e9, h⟩ := zlet_e h
    refine zt_x1 hX dX13_single_147 (zin_ok b7) ?_
    rw [← e9]
    refine zs_iload hX dX13_single_148 rfl ?_
    exact zs_iret hX dX13_single_150 rfl (Option.some.inj h)
  · rw [if_pos c3] at h
    refine zs_aload_n hX dX13_single_110 rfl rfl ?_
    refine zs_ldcS hX dX13_single_111 (List.mem_of_getElem? (i := 27) rfl) ?_
    obtain ⟨s10, e11, h⟩ := zcv_e h
    refine zc_must hX dX13_single_114 (Nat.le_of_ble_eq_true rfl) (hc _ _ _ _ e11) (fun u9 h9 => ?_)
    cases h9
    refine zs_aload_n hX dX13_single_117 rfl rfl ?_
    refine zg_at hX dX13_single_118 ?_
    refine zs_iload_n hX dX13_single_121 rfl rfl ?_
    refine zs_aload_n hX dX13_single_122 rfl rfl ?_
    refine zg_at hX dX13_single_123 ?_
    refine zs_iload_n hX dX13_single_126 rfl rfl ?_
    obtain ⟨b12, h⟩ := zgd_e h
    refine zl_at hX dX13_single_127 (zin_ok b12) ?_
    obtain ⟨b13, h⟩ := zgd_e h
    obtain ⟨s14, e15, h⟩ := zlet_e h
    refine zt_at hX dX13_single_128 (zin_ok b13) ?_
    rw [← e15]
    refine zs_iload_n hX dX13_single_129 rfl rfl ?_
    exact zs_iret hX dX13_single_130 rfl (Option.some.inj h)
set_option maxHeartbeats 4000000 in
theorem pj_single_80 {h0 : Nat} {qs : List Nat} {ks : Nat → Nat} {n : Nat} {call : zCl} {kc : Nat → List Value → zSt → (Option Value → zSt → Prop) → Prop} {v : Option Value × zSt} {X : Nat → zLv → List Value → zSt → Prop} (hX : zSem cX13_single 5 (some .int) h0 qs ks kc (fun r u => (r, u) = v) X) (hc : ∀ j av s w, call j av s = some w → kc j av s (fun r u => (r, u) = w)) {x1 : Int32} {x2 : Int32} {σ : zSt} (h : j_single_80 n call h0 qs ks x1 x2 σ = some v) : X 80 [some (.ref h0), some (.int x1), some (.int x2), none, none] [] σ := by
  rw [j_single_80] at h
  refine zs_iload_n hX dX13_single_80 rfl rfl ?_
  refine zs_if_eq (tgt := 91) hX dX13_single_81 (by decide) (fun c1 => ?_) (fun c1 => ?_)
  · rw [if_pos c1] at h
    refine zs_aload_n hX dX13_single_91 rfl rfl ?_
    obtain ⟨r4, s2, e3, h⟩ := zci_e h
    refine zc_condition hX dX13_single_92 (Nat.le_of_ble_eq_true rfl) (hc _ _ _ _ e3) (fun r9 u9 h9 => ?_)
    cases h9
    exact pj_single_95 hX hc h
  · rw [if_neg c1] at h
    refine zs_aload_n hX dX13_single_84 rfl rfl ?_
    obtain ⟨r7, s5, e6, h⟩ := zci_e h
    refine zc_single hX dX13_single_85 (Nat.le_of_ble_eq_true rfl) (hc _ _ _ _ e6) (fun r9 u9 h9 => ?_)
    cases h9
    refine zs_goto (tgt := 95) hX dX13_single_88 (by decide) ?_
    exact pj_single_95 hX hc h
set_option maxHeartbeats 4000000 in
theorem pj_single_39 {h0 : Nat} {qs : List Nat} {ks : Nat → Nat} {n : Nat} {call : zCl} {kc : Nat → List Value → zSt → (Option Value → zSt → Prop) → Prop} {v : Option Value × zSt} {X : Nat → zLv → List Value → zSt → Prop} (hX : zSem cX13_single 5 (some .int) h0 qs ks kc (fun r u => (r, u) = v) X) (hc : ∀ j av s w, call j av s = some w → kc j av s (fun r u => (r, u) = w)) {x1 : Int32} {σ : zSt} (h : j_single_39 n call h0 qs ks x1 σ = some v) : X 39 [some (.ref h0), some (.int x1), none, none, none] [] σ := by
  rw [j_single_39] at h
  refine zs_aload_n hX dX13_single_39 rfl rfl ?_
  refine zs_ldcS hX dX13_single_40 (List.mem_of_getElem? (i := 25) rfl) ?_
  obtain ⟨r3, s1, e2, h⟩ := zci_e h
  refine zc_here hX dX13_single_43 (Nat.le_of_ble_eq_true rfl) (hc _ _ _ _ e2) (fun r9 u9 h9 => ?_)
  cases h9
  refine zs_istore_n hX dX13_single_46 rfl (by decide) rfl ?_
  dsimp only [List.set]
  refine zs_aload_n hX dX13_single_47 rfl rfl ?_
  refine zs_dup hX dX13_single_48 rfl ?_
  refine zg_w hX dX13_single_49 ?_
  refine zs_iconst (v := 1) hX dX13_single_52 (by decide) ?_
  refine zs_iadd hX dX13_single_53 ?_
  obtain ⟨s4, e5, h⟩ := zlet_e h
  refine zp_w hX dX13_single_54 ?_
  rw [← e5]
  refine zs_aload_n hX dX13_single_57 rfl rfl ?_
  refine zs_dup hX dX13_single_58 rfl ?_
  refine zg_deep hX dX13_single_59 ?_
  refine zs_iconst (v := 1) hX dX13_single_62 (by decide) ?_
  refine zs_iadd hX dX13_single_63 ?_
  obtain ⟨s6, e7, h⟩ := zlet_e h
  refine zp_deep hX dX13_single_64 ?_
  rw [← e7]
  refine zs_aload_n hX dX13_single_67 rfl rfl ?_
  refine zg_deep hX dX13_single_68 ?_
  refine zs_bipush (v := 30) hX dX13_single_71 (by decide) ?_
  refine zs_icmp_le (tgt := 80) hX dX13_single_73 (by decide) (fun c8 => ?_) (fun c8 => ?_)
  · rw [if_pos c8] at h
    exact pj_single_80 hX hc h
  · rw [if_neg c8] at h
    refine zs_aload_n hX dX13_single_76 rfl rfl ?_
    obtain ⟨s9, e10, h⟩ := zcv_e h
    refine zc_form hX dX13_single_77 (Nat.le_of_ble_eq_true rfl) (hc _ _ _ _ e10) (fun u9 h9 => ?_)
    cases h9
    exact pj_single_80 hX hc h
set_option maxHeartbeats 4000000 in
theorem pb_single {h0 : Nat} {qs : List Nat} {ks : Nat → Nat} {n : Nat} {call : zCl} {kc : Nat → List Value → zSt → (Option Value → zSt → Prop) → Prop} {v : Option Value × zSt} {X : Nat → zLv → List Value → zSt → Prop} (hX : zSem cX13_single 5 (some .int) h0 qs ks kc (fun r u => (r, u) = v) X) (hc : ∀ j av s w, call j av s = some w → kc j av s (fun r u => (r, u) = w)) {σ : zSt} (h : b_single n call h0 qs ks σ = some v) : X 0 [some (.ref h0), none, none, none, none] [] σ := by
  rw [b_single] at h
  refine zs_aload_n hX dX13_single_0 rfl rfl ?_
  refine zg_bad hX dX13_single_1 ?_
  refine zs_if_eq (tgt := 9) hX dX13_single_4 (by decide) (fun c1 => ?_) (fun c1 => ?_)
  · rw [if_pos c1] at h
    refine zs_aload_n hX dX13_single_9 rfl rfl ?_
    refine zg_wAt hX dX13_single_10 ?_
    refine zs_aload_n hX dX13_single_13 rfl rfl ?_
    refine zg_w hX dX13_single_14 ?_
    obtain ⟨b2, h⟩ := zgd_e h
    refine zl_wAt hX dX13_single_17 (zin_ok b2) ?_
    refine zs_istore_n hX dX13_single_18 rfl (by decide) rfl ?_
    dsimp only [List.set]
    refine zs_aload_n hX dX13_single_19 rfl rfl ?_
    refine zs_ldcS hX dX13_single_20 (List.mem_of_getElem? (i := 25) rfl) ?_
    obtain ⟨r5, s3, e4, h⟩ := zci_e h
    refine zc_here hX dX13_single_23 (Nat.le_of_ble_eq_true rfl) (hc _ _ _ _ e4) (fun r9 u9 h9 => ?_)
    cases h9
    refine zs_if_ne (tgt := 39) hX dX13_single_26 (by decide) (fun c6 => ?_) (fun c6 => ?_)
    · rw [if_neg c6] at h
      exact pj_single_39 hX hc h
    · rw [if_pos c6] at h
      refine zs_aload_n hX dX13_single_29 rfl rfl ?_
      refine zs_ldcS hX dX13_single_30 (List.mem_of_getElem? (i := 26) rfl) ?_
      obtain ⟨r9, s7, e8, h⟩ := zci_e h
      refine zc_here hX dX13_single_33 (Nat.le_of_ble_eq_true rfl) (hc _ _ _ _ e8) (fun r9 u9 h9 => ?_)
      cases h9
      refine zs_if_eq (tgt := 151) hX dX13_single_36 (by decide) (fun c10 => ?_) (fun c10 => ?_)
      · rw [if_pos c10] at h
        refine zs_aload_n hX dX13_single_151 rfl rfl ?_
        refine zs_ldcS hX dX13_single_152 (List.mem_of_getElem? (i := 28) rfl) ?_
        obtain ⟨r13, s11, e12, h⟩ := zci_e h
        refine zc_here hX dX13_single_155 (Nat.le_of_ble_eq_true rfl) (hc _ _ _ _ e12) (fun r9 u9 h9 => ?_)
        cases h9
        refine zs_if_ne (tgt := 171) hX dX13_single_158 (by decide) (fun c14 => ?_) (fun c14 => ?_)
        · rw [if_neg c14] at h
          exact pj_single_171 hX hc h
        · rw [if_pos c14] at h
          refine zs_aload_n hX dX13_single_161 rfl rfl ?_
          refine zs_ldcS hX dX13_single_162 (List.mem_of_getElem? (i := 29) rfl) ?_
          obtain ⟨r17, s15, e16, h⟩ := zci_e h
          refine zc_here hX dX13_single_165 (Nat.le_of_ble_eq_true rfl) (hc _ _ _ _ e16) (fun r9 u9 h9 => ?_)
          cases h9
          refine zs_if_eq (tgt := 212) hX dX13_single_168 (by decide) (fun c18 => ?_) (fun c18 => ?_)
          · rw [if_pos c18] at h
            refine zs_aload_n hX dX13_single_212 rfl rfl ?_
            obtain ⟨r21, s19, e20, h⟩ := zci_e h
            refine zc_sum hX dX13_single_213 (Nat.le_of_ble_eq_true rfl) (hc _ _ _ _ e20) (fun r9 u9 h9 => ?_)
            cases h9
            refine zs_istore_n hX dX13_single_216 rfl (by decide) rfl ?_
            dsimp only [List.set]
            refine zs_aload_n hX dX13_single_217 rfl rfl ?_
            obtain ⟨r24, s22, e23, h⟩ := zci_e h
            refine zc_relation hX dX13_single_218 (Nat.le_of_ble_eq_true rfl) (hc _ _ _ _ e23) (fun r9 u9 h9 => ?_)
            cases h9
            refine zs_istore_n hX dX13_single_221 rfl (by decide) rfl ?_
            dsimp only [List.set]
            refine zs_iload_n hX dX13_single_222 rfl rfl ?_
            refine zs_if_ge (tgt := 336) hX dX13_single_223 (by decide) (fun c25 => ?_) (fun c25 => ?_)
            · rw [if_pos c25] at h
              refine zs_aload_n hX dX13_single_336 rfl rfl ?_
              refine zs_bipush (v := 25) hX dX13_single_337 (by decide) ?_
              refine zs_iload_n hX dX13_single_339 rfl rfl ?_
              obtain ⟨r28, s26, e27, h⟩ := zci_e h
              refine zc_node hX dX13_single_340 (Nat.le_of_ble_eq_true rfl) (hc _ _ _ _ e27) (fun r9 u9 h9 => ?_)
              cases h9
              refine zs_istore hX dX13_single_343 (by decide) rfl ?_
              dsimp only [List.set]
              refine zs_aload_n hX dX13_single_345 rfl rfl ?_
              refine zg_sign hX dX13_single_346 ?_
              refine zs_iload hX dX13_single_349 rfl ?_
              refine zs_aload_n hX dX13_single_351 rfl rfl ?_
              refine zg_wAt hX dX13_single_352 ?_
              refine zs_aload_n hX dX13_single_355 rfl rfl ?_
              refine zg_w hX dX13_single_356 ?_
              obtain ⟨b29, h⟩ := zgd_e h
              refine zl_wAt hX dX13_single_359 (zin_ok b29) ?_
              obtain ⟨b30, h⟩ := zgd_e h
              obtain ⟨s31, e32, h⟩ := zlet_e h
              refine zt_sign hX dX13_single_360 (zin_ok b30) ?_
              rw [← e32]
              refine zs_aload_n hX dX13_single_361 rfl rfl ?_
              refine zs_dup hX dX13_single_362 rfl ?_
              refine zg_w hX dX13_single_363 ?_
              refine zs_iconst (v := 1) hX dX13_single_366 (by decide) ?_
              refine zs_iadd hX dX13_single_367 ?_
              obtain ⟨s33, e34, h⟩ := zlet_e h
              refine zp_w hX dX13_single_368 ?_
              rw [← e34]
              refine zs_aload_n hX dX13_single_371 rfl rfl ?_
              refine zg_x1 hX dX13_single_372 ?_
              refine zs_iload hX dX13_single_375 rfl ?_
              refine zs_iload_n hX dX13_single_377 rfl rfl ?_
              obtain ⟨b35, h⟩ := zgd_e h
              obtain ⟨s36, e37, h⟩ := zlet_e h
              refine zt_x1 hX dX13_single_378 (zin_ok b35) ?_
              rw [← e37]
              refine zs_aload_n hX dX13_single_379 rfl rfl ?_
              refine zg_x3 hX dX13_single_380 ?_
              refine zs_iload hX dX13_single_383 rfl ?_
              refine zs_iload_n hX dX13_single_385 rfl rfl ?_
              obtain ⟨b38, h⟩ := zgd_e h
              obtain ⟨s39, e40, h⟩ := zlet_e h
              refine zt_x3 hX dX13_single_386 (zin_ok b38) ?_
              rw [← e40]
              refine zs_aload_n hX dX13_single_387 rfl rfl ?_
              refine zg_x2 hX dX13_single_388 ?_
              refine zs_iload hX dX13_single_391 rfl ?_
              refine zs_aload_n hX dX13_single_393 rfl rfl ?_
              obtain ⟨r43, s41, e42, h⟩ := zci_e h
              refine zc_sum hX dX13_single_394 (Nat.le_of_ble_eq_true rfl) (hc _ _ _ _ e42) (fun r9 u9 h9 => ?_)
              cases h9
              obtain ⟨b44, h⟩ := zgd_e h
              obtain ⟨s45, e46, h⟩ := zlet_e h
              refine zt_x2 hX dX13_single_397 (zin_ok b44) ?_
              rw [← e46]
              refine zs_iload hX dX13_single_398 rfl ?_
              exact zs_iret hX dX13_single_400 rfl (Option.some.inj h)
            · rw [if_neg c25] at h
              refine zs_aload_n hX dX13_single_226 rfl rfl ?_
              refine zg_bad hX dX13_single_227 ?_
              refine zs_if_ne (tgt := 330) hX dX13_single_230 (by decide) (fun c47 => ?_) (fun c47 => ?_)
              · rw [if_neg c47] at h
                refine zs_weak hX (lw := [some (.ref h0), none, none, none, none]) ⟨rfl, trivial⟩ ?_
                exact pj_single_330 hX hc h
              · rw [if_pos c47] at h
                refine zs_aload_n hX dX13_single_233 rfl rfl ?_
                refine zg_sTo hX dX13_single_234 ?_
                refine zs_iload_n hX dX13_single_237 rfl rfl ?_
                obtain ⟨b48, h⟩ := zgd_e h
                refine zl_sTo hX dX13_single_238 (zin_ok b48) ?_
                refine zs_aload_n hX dX13_single_239 rfl rfl ?_
                refine zg_sFrom hX dX13_single_240 ?_
                refine zs_iload_n hX dX13_single_243 rfl rfl ?_
                obtain ⟨b49, h⟩ := zgd_e h
                refine zl_sFrom hX dX13_single_244 (zin_ok b49) ?_
                refine zs_isub hX dX13_single_245 ?_
                refine zs_iconst (v := 1) hX dX13_single_246 (by decide) ?_
                refine zs_icmp_ne (tgt := 330) hX dX13_single_247 (by decide) (fun c50 => ?_) (fun c50 => ?_)
                · rw [if_neg c50] at h
                  refine zs_weak hX (lw := [some (.ref h0), none, none, none, none]) ⟨rfl, trivial⟩ ?_
                  exact pj_single_330 hX hc h
                · rw [if_pos c50] at h
                  refine zs_aload_n hX dX13_single_250 rfl rfl ?_
                  refine zg_pKind hX dX13_single_251 ?_
                  refine zs_aload_n hX dX13_single_254 rfl rfl ?_
                  refine zg_sFrom hX dX13_single_255 ?_
                  refine zs_iload_n hX dX13_single_258 rfl rfl ?_
                  obtain ⟨b51, h⟩ := zgd_e h
                  refine zl_sFrom hX dX13_single_259 (zin_ok b51) ?_
                  obtain ⟨b52, h⟩ := zgd_e h
                  refine zl_pKind hX dX13_single_260 (zin_ok b52) ?_
                  refine zs_iconst (v := 1) hX dX13_single_261 (by decide) ?_
                  refine zs_icmp_ne (tgt := 330) hX dX13_single_262 (by decide) (fun c53 => ?_) (fun c53 => ?_)
                  · rw [if_neg c53] at h
                    refine zs_weak hX (lw := [some (.ref h0), none, none, none, none]) ⟨rfl, trivial⟩ ?_
                    exact pj_single_330 hX hc h
                  · rw [if_pos c53] at h
                    refine zs_aload_n hX dX13_single_265 rfl rfl ?_
                    refine zg_pSign hX dX13_single_266 ?_
                    refine zs_aload_n hX dX13_single_269 rfl rfl ?_
                    refine zg_sFrom hX dX13_single_270 ?_
                    refine zs_iload_n hX dX13_single_273 rfl rfl ?_
                    obtain ⟨b54, h⟩ := zgd_e h
                    refine zl_sFrom hX dX13_single_274 (zin_ok b54) ?_
                    obtain ⟨b55, h⟩ := zgd_e h
                    refine zl_pSign hX dX13_single_275 (zin_ok b55) ?_
                    refine zs_iconst (v := 1) hX dX13_single_276 (by decide) ?_
                    refine zs_icmp_ne (tgt := 330) hX dX13_single_277 (by decide) (fun c56 => ?_) (fun c56 => ?_)
                    · rw [if_neg c56] at h
                      refine zs_weak hX (lw := [some (.ref h0), none, none, none, none]) ⟨rfl, trivial⟩ ?_
                      exact pj_single_330 hX hc h
                    · rw [if_pos c56] at h
                      refine zs_aload_n hX dX13_single_280 rfl rfl ?_
                      refine zg_wAt hX dX13_single_281 ?_
                      refine zs_aload_n hX dX13_single_284 rfl rfl ?_
                      refine zg_pWord hX dX13_single_285 ?_
                      refine zs_aload_n hX dX13_single_288 rfl rfl ?_
                      refine zg_sFrom hX dX13_single_289 ?_
                      refine zs_iload_n hX dX13_single_292 rfl rfl ?_
                      obtain ⟨b57, h⟩ := zgd_e h
                      refine zl_sFrom hX dX13_single_293 (zin_ok b57) ?_
                      obtain ⟨b58, h⟩ := zgd_e h
                      refine zl_pWord hX dX13_single_294 (zin_ok b58) ?_
                      obtain ⟨b59, h⟩ := zgd_e h
                      refine zl_wAt hX dX13_single_295 (zin_ok b59) ?_
                      refine zs_iload_n hX dX13_single_296 rfl rfl ?_
                      refine zs_icmp_ne (tgt := 330) hX dX13_single_297 (by decide) (fun c60 => ?_) (fun c60 => ?_)
                      · rw [if_neg c60] at h
                        refine zs_weak hX (lw := [some (.ref h0), none, none, none, none]) ⟨rfl, trivial⟩ ?_
                        exact pj_single_330 hX hc h
                      · rw [if_pos c60] at h
                        refine zs_aload_n hX dX13_single_300 rfl rfl ?_
                        refine zs_bipush (v := 24) hX dX13_single_301 (by decide) ?_
                        refine zs_iload_n hX dX13_single_303 rfl rfl ?_
                        obtain ⟨r63, s61, e62, h⟩ := zci_e h
                        refine zc_node hX dX13_single_304 (Nat.le_of_ble_eq_true rfl) (hc _ _ _ _ e62) (fun r9 u9 h9 => ?_)
                        cases h9
                        refine zs_istore hX dX13_single_307 (by decide) rfl ?_
                        dsimp only [List.set]
                        refine zs_aload_n hX dX13_single_309 rfl rfl ?_
                        refine zg_x1 hX dX13_single_310 ?_
                        refine zs_iload hX dX13_single_313 rfl ?_
                        refine zs_aload_n hX dX13_single_315 rfl rfl ?_
                        refine zg_pWord hX dX13_single_316 ?_
                        refine zs_aload_n hX dX13_single_319 rfl rfl ?_
                        refine zg_sFrom hX dX13_single_320 ?_
                        refine zs_iload_n hX dX13_single_323 rfl rfl ?_
                        obtain ⟨b64, h⟩ := zgd_e h
                        refine zl_sFrom hX dX13_single_324 (zin_ok b64) ?_
                        obtain ⟨b65, h⟩ := zgd_e h
                        refine zl_pWord hX dX13_single_325 (zin_ok b65) ?_
                        obtain ⟨b66, h⟩ := zgd_e h
                        obtain ⟨s67, e68, h⟩ := zlet_e h
                        refine zt_x1 hX dX13_single_326 (zin_ok b66) ?_
                        rw [← e68]
                        refine zs_iload hX dX13_single_327 rfl ?_
                        exact zs_iret hX dX13_single_329 rfl (Option.some.inj h)
          · rw [if_neg c18] at h
            exact pj_single_171 hX hc h
      · rw [if_neg c10] at h
        exact pj_single_39 hX hc h
  · rw [if_neg c1] at h
    refine zs_iconst (v := 0) hX dX13_single_7 (by decide) ?_
    exact zs_iret hX dX13_single_8 rfl (Option.some.inj h)
def l_call_366 (n : Nat) (call : zCl) (h0 : Nat) (qs : List Nat) (ks : Nat → Nat) : Nat → Int32 → Int32 → Int32 → Int32 → zSt → zRs
  | 0, _, _, _, _, _ => none
  | f + 1, x2, x4, x5, x6, σ =>
    if x5 ≤ x6 then
      zlet (zI σ 45 x4) fun s2 =>
      some (some (.int x2), s2)
    else
      zgd (zin (x4 + (3 * x6)) 600) (
      zgd (zin (σ.1 32) 2100) (zlet (zA σ 19 (upd (σ.2.2.1 19) ((σ.1 32)).toNatClampNeg (σ.2.2.1 29 ((x4 + (3 * x6))).toNatClampNeg))) fun s6 =>
      zgd (zin ((x4 + (3 * x6)) + 1) 600) (
      zgd (zin (s6.1 32) 2100) (zlet (zA s6 20 (upd (s6.2.2.1 20) ((s6.1 32)).toNatClampNeg (s6.2.2.1 29 (((x4 + (3 * x6)) + 1)).toNatClampNeg))) fun s10 =>
      zgd (zin ((x4 + (3 * x6)) + 2) 600) (
      zgd (zin (s10.1 32) 2100) (zlet (zA s10 21 (upd (s10.2.2.1 21) ((s10.1 32)).toNatClampNeg (s10.2.2.1 29 (((x4 + (3 * x6)) + 2)).toNatClampNeg))) fun s14 =>
      zlet (zI s14 32 ((s14.1 32) + 1)) fun s16 =>
      l_call_366 n call h0 qs ks f x2 x4 x5 (x6 + 1) s16))))))
def j_call_345 (n : Nat) (call : zCl) (h0 : Nat) (qs : List Nat) (ks : Nat → Nat) (x2 : Int32) (x4 : Int32) (x5 : Int32) (σ : zSt) : zRs :=
  zgd (zin x2 2100) (zlet (zA σ 10 (upd (σ.2.2.1 10) (x2).toNatClampNeg (σ.1 32))) fun s2 =>
  zgd (zin x2 2100) (zlet (zA s2 11 (upd (s2.2.2.1 11) (x2).toNatClampNeg x5)) fun s5 =>
  l_call_366 n call h0 qs ks n x2 x4 x5 0 s5))
def j_call_301 (n : Nat) (call : zCl) (h0 : Nat) (qs : List Nat) (ks : Nat → Nat) (k32 : Int32 → Int32 → Int32 → zSt → zRs) (x2 : Int32) (x4 : Int32) (x5 : Int32) (x6 : Int32) (x7 : Int32) (x8 : Int32) (σ : zSt) : zRs :=
  zgd (zin (σ.1 45) 600) (zlet (zA σ 29 (upd (σ.2.2.1 29) ((σ.1 45)).toNatClampNeg x7)) fun s2 =>
  zgd (zin ((s2.1 45) + 1) 600) (zlet (zA s2 29 (upd (s2.2.2.1 29) (((s2.1 45) + 1)).toNatClampNeg x8)) fun s5 =>
  zgd (zin ((s5.1 45) + 2) 600) (zlet (zA s5 29 (upd (s5.2.2.1 29) (((s5.1 45) + 2)).toNatClampNeg x6)) fun s8 =>
  zlet (zI s8 45 ((s8.1 45) + 3)) fun s10 =>
  k32 x2 x4 (x5 + 1) s10)))
def j_call_246 (n : Nat) (call : zCl) (h0 : Nat) (qs : List Nat) (ks : Nat → Nat) (k32 : Int32 → Int32 → Int32 → zSt → zRs) (x2 : Int32) (x4 : Int32) (x5 : Int32) (x6 : Int32) (x7 : Int32) (x8 : Int32) (t1 : Int32) (t2 : Int32) (σ : zSt) : zRs :=
  zgd (zin t1 2100) (zlet (zA σ 16 (upd (σ.2.2.1 16) (t1).toNatClampNeg t2)) fun s2 =>
  zgd (zin (s2.1 28) 2100) (zlet (zA s2 17 (upd (s2.2.2.1 17) ((s2.1 28)).toNatClampNeg 1)) fun s5 =>
  zgd (zin (s5.1 28) 2100) (zlet (zA s5 18 (upd (s5.2.2.1 18) ((s5.1 28)).toNatClampNeg (s5.1 10))) fun s8 =>
  zlet (zI s8 28 ((s8.1 28) + 1)) fun s10 =>
  zgd (zin x8 2100) (zlet (zA s10 14 (upd (s10.2.2.1 14) (x8).toNatClampNeg (s10.1 28))) fun s13 =>
  zlet (zI s13 10 ((s13.1 10) + 1)) fun s15 =>
  j_call_301 n call h0 qs ks k32 x2 x4 x5 x6 x7 x8 s15))))
def j_call_174 (n : Nat) (call : zCl) (h0 : Nat) (qs : List Nat) (ks : Nat → Nat) (k32 : Int32 → Int32 → Int32 → zSt → zRs) (x2 : Int32) (x4 : Int32) (x5 : Int32) (x6 : Int32) (x7 : Int32) (x8 : Int32) (σ : zSt) : zRs :=
  zcv (call 14 [.ref h0, .ref (ks 584)] σ) fun s1 =>
  j_call_301 n call h0 qs ks k32 x2 x4 x5 x6 x7 x8 s1
def j_call_111 (n : Nat) (call : zCl) (h0 : Nat) (qs : List Nat) (ks : Nat → Nat) (k32 : Int32 → Int32 → Int32 → zSt → zRs) (x2 : Int32) (x4 : Int32) (x5 : Int32) (x6 : Int32) (x8 : Int32) (t0 : Int32) (σ : zSt) : zRs :=
  zlet (zI σ 10 ((σ.1 10) + 1)) fun s1 =>
  j_call_301 n call h0 qs ks k32 x2 x4 x5 x6 t0 x8 s1
def j_call_96 (n : Nat) (call : zCl) (h0 : Nat) (qs : List Nat) (ks : Nat → Nat) (k32 : Int32 → Int32 → Int32 → zSt → zRs) (x2 : Int32) (x4 : Int32) (x5 : Int32) (x6 : Int32) (x8 : Int32) (σ : zSt) : zRs :=
  zci (call 11 [.ref h0, .ref (ks 578)] σ) fun r3 s1 =>
  if r3 = 0 then
    j_call_111 n call h0 qs ks k32 x2 x4 x5 x6 x8 3 s1
  else
    j_call_111 n call h0 qs ks k32 x2 x4 x5 x6 x8 2 s1
def j_call_49 (n : Nat) (call : zCl) (h0 : Nat) (qs : List Nat) (ks : Nat → Nat) (k32 : Int32 → Int32 → Int32 → zSt → zRs) (x2 : Int32) (x4 : Int32) (x5 : Int32) (σ : zSt) : zRs :=
  if (σ.1 11) = 0 then
    zgd (zin (σ.1 10) 2010) (
    zci (call 11 [.ref h0, .ref (ks 578)] σ) fun r5 s3 =>
    if r5 = 0 then
      zci (call 11 [.ref h0, .ref (ks 580)] s3) fun r9 s7 =>
      if r9 = 0 then
        zci (call 11 [.ref h0, .ref (ks 582)] s7) fun r13 s11 =>
        if r13 = 0 then
          zlet (zI s11 24 ((s11.1 24) + 1)) fun s15 =>
          zgd (zin (s11.1 24) 2100) (zlet (zA s15 15 (upd (s15.2.2.1 15) ((s11.1 24)).toNatClampNeg (σ.2.2.1 4 ((σ.1 10)).toNatClampNeg))) fun s18 =>
          zgd (zin (s11.1 24) 2100) (zlet (zA s18 13 (upd (s18.2.2.1 13) ((s11.1 24)).toNatClampNeg (s18.1 28))) fun s21 =>
          zgd (zin (s21.1 10) 2010) (
          if (s21.2.2.1 3 ((s21.1 10)).toNatClampNeg) = 2 then
            j_call_246 n call h0 qs ks k32 x2 x4 x5 (σ.2.2.1 4 ((σ.1 10)).toNatClampNeg) 0 (s11.1 24) (s21.1 28) 0 s21
          else
            j_call_246 n call h0 qs ks k32 x2 x4 x5 (σ.2.2.1 4 ((σ.1 10)).toNatClampNeg) 0 (s11.1 24) (s21.1 28) 1 s21)))
        else
          zlet (zI s11 10 ((s11.1 10) + 1)) fun s25 =>
          zci (call 11 [.ref h0, .ref (ks 543)] s25) fun r29 s27 =>
          if r29 = 0 then
            zci (call 21 [.ref h0] s27) fun r33 s31 =>
            j_call_174 n call h0 qs ks k32 x2 x4 x5 (σ.2.2.1 4 ((σ.1 10)).toNatClampNeg) 0 r33 s31
          else
            zci (call 29 [.ref h0] s27) fun r36 s34 =>
            j_call_174 n call h0 qs ks k32 x2 x4 x5 (σ.2.2.1 4 ((σ.1 10)).toNatClampNeg) 1 r36 s34
      else
        j_call_96 n call h0 qs ks k32 x2 x4 x5 (σ.2.2.1 4 ((σ.1 10)).toNatClampNeg) 0 s7
    else
      j_call_96 n call h0 qs ks k32 x2 x4 x5 (σ.2.2.1 4 ((σ.1 10)).toNatClampNeg) 0 s3)
  else
    j_call_345 n call h0 qs ks x2 x4 x5 σ
def l_call_32 (n : Nat) (call : zCl) (h0 : Nat) (qs : List Nat) (ks : Nat → Nat) : Nat → Int32 → Int32 → Int32 → zSt → zRs
  | 0, _, _, _, _ => none
  | f + 1, x2, x4, x5, σ =>
    zci (call 19 [.ref h0] σ) fun r3 s1 =>
    if r3 = 0 then
      j_call_345 n call h0 qs ks x2 x4 x5 s1
    else
      if x5 = 4 then
        zcv (call 13 [.ref h0] s1) fun s6 =>
        j_call_49 n call h0 qs ks (l_call_32 n call h0 qs ks f) x2 x4 x5 s6
      else
        j_call_49 n call h0 qs ks (l_call_32 n call h0 qs ks f) x2 x4 x5 s1
def b_call (n : Nat) (call : zCl) (h0 : Nat) (qs : List Nat) (ks : Nat → Nat) (x1 : Int32) (σ : zSt) : zRs :=
  zci (call 10 [.ref h0, .int 15, .int x1] σ) fun r3 s1 =>
  zci (call 15 [.ref h0] s1) fun r6 s4 =>
  zgd (zin r3 2100) (zlet (zA s4 9 (upd (s4.2.2.1 9) (r3).toNatClampNeg r6)) fun s8 =>
  l_call_32 n call h0 qs ks n r3 (s8.1 45) 0 s8)
set_option maxHeartbeats 4000000 in
theorem pl_call_366 {h0 : Nat} {qs : List Nat} {ks : Nat → Nat} {n : Nat} {call : zCl} {kc : Nat → List Value → zSt → (Option Value → zSt → Prop) → Prop} {v : Option Value × zSt} {X : Nat → zLv → List Value → zSt → Prop} (hX : zSem cX13_call 9 (some .int) h0 qs ks kc (fun r u => (r, u) = v) X) (hc : ∀ j av s w, call j av s = some w → kc j av s (fun r u => (r, u) = w)) : ∀ (f : Nat) (x2 : Int32) (x4 : Int32) (x5 : Int32) (x6 : Int32) (σ : zSt), l_call_366 n call h0 qs ks f x2 x4 x5 x6 σ = some v → X 366 [some (.ref h0), none, some (.int x2), some (.ref (qs.getD 29 0)), some (.int x4), some (.int x5), some (.int x6), none, none] [] σ := by
  intro f
  induction f with
  | zero => intro x2 x4 x5 x6 σ h; cases h
  | succ f hk366 =>
    intro x2 x4 x5 x6 σ h
    rw [l_call_366] at h
    refine zs_iload hX dX13_call_366 rfl ?_
    refine zs_iload hX dX13_call_368 rfl ?_
    refine zs_icmp_ge (tgt := 447) hX dX13_call_370 (by decide) (fun c1 => ?_) (fun c1 => ?_)
    · rw [if_pos c1] at h
      refine zs_aload_n hX dX13_call_447 rfl rfl ?_
      refine zs_iload hX dX13_call_448 rfl ?_
      obtain ⟨s2, e3, h⟩ := zlet_e h
      refine zp_callTop hX dX13_call_450 ?_
      rw [← e3]
      refine zs_iload_n hX dX13_call_453 rfl rfl ?_
      exact zs_iret hX dX13_call_454 rfl (Option.some.inj h)
    · rw [if_neg c1] at h
      refine zs_aload_n hX dX13_call_373 rfl rfl ?_
      refine zg_aKind hX dX13_call_374 ?_
      refine zs_aload_n hX dX13_call_377 rfl rfl ?_
      refine zg_argsMany hX dX13_call_378 ?_
      refine zs_aload_n hX dX13_call_381 rfl rfl ?_
      refine zs_iload hX dX13_call_382 rfl ?_
      refine zs_iconst (v := 3) hX dX13_call_384 (by decide) ?_
      refine zs_iload hX dX13_call_385 rfl ?_
      refine zs_imul hX dX13_call_387 ?_
      refine zs_iadd hX dX13_call_388 ?_
      obtain ⟨b4, h⟩ := zgd_e h
      refine zl_callWhat hX dX13_call_389 (zin_ok b4) ?_
      obtain ⟨b5, h⟩ := zgd_e h
      obtain ⟨s6, e7, h⟩ := zlet_e h
      refine zt_aKind hX dX13_call_390 (zin_ok b5) ?_
      rw [← e7]
      refine zs_aload_n hX dX13_call_391 rfl rfl ?_
      refine zg_aWhat hX dX13_call_392 ?_
      refine zs_aload_n hX dX13_call_395 rfl rfl ?_
      refine zg_argsMany hX dX13_call_396 ?_
      refine zs_aload_n hX dX13_call_399 rfl rfl ?_
      refine zs_iload hX dX13_call_400 rfl ?_
      refine zs_iconst (v := 3) hX dX13_call_402 (by decide) ?_
      refine zs_iload hX dX13_call_403 rfl ?_
      refine zs_imul hX dX13_call_405 ?_
      refine zs_iadd hX dX13_call_406 ?_
      refine zs_iconst (v := 1) hX dX13_call_407 (by decide) ?_
      refine zs_iadd hX dX13_call_408 ?_
      obtain ⟨b8, h⟩ := zgd_e h
      refine zl_callWhat hX dX13_call_409 (zin_ok b8) ?_
      obtain ⟨b9, h⟩ := zgd_e h
      obtain ⟨s10, e11, h⟩ := zlet_e h
      refine zt_aWhat hX dX13_call_410 (zin_ok b9) ?_
      rw [← e11]
      refine zs_aload_n hX dX13_call_411 rfl rfl ?_
      refine zg_aAt hX dX13_call_412 ?_
      refine zs_aload_n hX dX13_call_415 rfl rfl ?_
      refine zg_argsMany hX dX13_call_416 ?_
      refine zs_aload_n hX dX13_call_419 rfl rfl ?_
      refine zs_iload hX dX13_call_420 rfl ?_
      refine zs_iconst (v := 3) hX dX13_call_422 (by decide) ?_
      refine zs_iload hX dX13_call_423 rfl ?_
      refine zs_imul hX dX13_call_425 ?_
      refine zs_iadd hX dX13_call_426 ?_
      refine zs_iconst (v := 2) hX dX13_call_427 (by decide) ?_
      refine zs_iadd hX dX13_call_428 ?_
      obtain ⟨b12, h⟩ := zgd_e h
      refine zl_callWhat hX dX13_call_429 (zin_ok b12) ?_
      obtain ⟨b13, h⟩ := zgd_e h
      obtain ⟨s14, e15, h⟩ := zlet_e h
      refine zt_aAt hX dX13_call_430 (zin_ok b13) ?_
      rw [← e15]
      refine zs_aload_n hX dX13_call_431 rfl rfl ?_
      refine zs_dup hX dX13_call_432 rfl ?_
      refine zg_argsMany hX dX13_call_433 ?_
      refine zs_iconst (v := 1) hX dX13_call_436 (by decide) ?_
      refine zs_iadd hX dX13_call_437 ?_
      obtain ⟨s16, e17, h⟩ := zlet_e h
      refine zp_argsMany hX dX13_call_438 ?_
      rw [← e17]
      refine zs_iinc (v := x6 + 1) hX dX13_call_441 rfl rfl (by decide) rfl ?_
      dsimp only [List.set]
      refine zs_goto (tgt := 366) hX dX13_call_444 (by decide) ?_
      exact hk366 _ _ _ _ _ h
set_option maxHeartbeats 4000000 in
theorem pj_call_345 {h0 : Nat} {qs : List Nat} {ks : Nat → Nat} {n : Nat} {call : zCl} {kc : Nat → List Value → zSt → (Option Value → zSt → Prop) → Prop} {v : Option Value × zSt} {X : Nat → zLv → List Value → zSt → Prop} (hX : zSem cX13_call 9 (some .int) h0 qs ks kc (fun r u => (r, u) = v) X) (hc : ∀ j av s w, call j av s = some w → kc j av s (fun r u => (r, u) = w)) {x2 : Int32} {x4 : Int32} {x5 : Int32} {σ : zSt} (h : j_call_345 n call h0 qs ks x2 x4 x5 σ = some v) : X 345 [some (.ref h0), none, some (.int x2), some (.ref (qs.getD 29 0)), some (.int x4), some (.int x5), none, none, none] [] σ := by
  rw [j_call_345] at h
  refine zs_aload_n hX dX13_call_345 rfl rfl ?_
  refine zg_x2 hX dX13_call_346 ?_
  refine zs_iload_n hX dX13_call_349 rfl rfl ?_
  refine zs_aload_n hX dX13_call_350 rfl rfl ?_
  refine zg_argsMany hX dX13_call_351 ?_
  obtain ⟨b1, h⟩ := zgd_e h
  obtain ⟨s2, e3, h⟩ := zlet_e h
  refine zt_x2 hX dX13_call_354 (zin_ok b1) ?_
  rw [← e3]
  refine zs_aload_n hX dX13_call_355 rfl rfl ?_
  refine zg_x3 hX dX13_call_356 ?_
  refine zs_iload_n hX dX13_call_359 rfl rfl ?_
  refine zs_iload hX dX13_call_360 rfl ?_
  obtain ⟨b4, h⟩ := zgd_e h
  obtain ⟨s5, e6, h⟩ := zlet_e h
  refine zt_x3 hX dX13_call_362 (zin_ok b4) ?_
  rw [← e6]
  refine zs_iconst (v := 0) hX dX13_call_363 (by decide) ?_
  refine zs_istore hX dX13_call_364 (by decide) rfl ?_
  dsimp only [List.set]
  exact pl_call_366 hX hc n _ _ _ _ _ h
set_option maxHeartbeats 4000000 in
theorem pj_call_301 {h0 : Nat} {qs : List Nat} {ks : Nat → Nat} {n : Nat} {call : zCl} {kc : Nat → List Value → zSt → (Option Value → zSt → Prop) → Prop} {v : Option Value × zSt} {X : Nat → zLv → List Value → zSt → Prop} (hX : zSem cX13_call 9 (some .int) h0 qs ks kc (fun r u => (r, u) = v) X) (hc : ∀ j av s w, call j av s = some w → kc j av s (fun r u => (r, u) = w)) {k32 : Int32 → Int32 → Int32 → zSt → zRs} (hk32 : ∀ (x2 : Int32) (x4 : Int32) (x5 : Int32) (s : zSt), k32 x2 x4 x5 s = some v → X 32 [some (.ref h0), none, some (.int x2), some (.ref (qs.getD 29 0)), some (.int x4), some (.int x5), none, none, none] [] s) {x2 : Int32} {x4 : Int32} {x5 : Int32} {x6 : Int32} {x7 : Int32} {x8 : Int32} {σ : zSt} (h : j_call_301 n call h0 qs ks k32 x2 x4 x5 x6 x7 x8 σ = some v) : X 301 [some (.ref h0), none, some (.int x2), some (.ref (qs.getD 29 0)), some (.int x4), some (.int x5), some (.int x6), some (.int x7), some (.int x8)] [] σ := by
  rw [j_call_301] at h
  refine zs_aload_n hX dX13_call_301 rfl rfl ?_
  refine zs_aload_n hX dX13_call_302 rfl rfl ?_
  refine zg_callTop hX dX13_call_303 ?_
  refine zs_iload hX dX13_call_306 rfl ?_
  obtain ⟨b1, h⟩ := zgd_e h
  obtain ⟨s2, e3, h⟩ := zlet_e h
  refine zt_callWhat hX dX13_call_308 (zin_ok b1) ?_
  rw [← e3]
  refine zs_aload_n hX dX13_call_309 rfl rfl ?_
  refine zs_aload_n hX dX13_call_310 rfl rfl ?_
  refine zg_callTop hX dX13_call_311 ?_
  refine zs_iconst (v := 1) hX dX13_call_314 (by decide) ?_
  refine zs_iadd hX dX13_call_315 ?_
  refine zs_iload hX dX13_call_316 rfl ?_
  obtain ⟨b4, h⟩ := zgd_e h
  obtain ⟨s5, e6, h⟩ := zlet_e h
  refine zt_callWhat hX dX13_call_318 (zin_ok b4) ?_
  rw [← e6]
  refine zs_aload_n hX dX13_call_319 rfl rfl ?_
  refine zs_aload_n hX dX13_call_320 rfl rfl ?_
  refine zg_callTop hX dX13_call_321 ?_
  refine zs_iconst (v := 2) hX dX13_call_324 (by decide) ?_
  refine zs_iadd hX dX13_call_325 ?_
  refine zs_iload hX dX13_call_326 rfl ?_
  obtain ⟨b7, h⟩ := zgd_e h
  obtain ⟨s8, e9, h⟩ := zlet_e h
  refine zt_callWhat hX dX13_call_328 (zin_ok b7) ?_
  rw [← e9]
  refine zs_aload_n hX dX13_call_329 rfl rfl ?_
  refine zs_dup hX dX13_call_330 rfl ?_
  refine zg_callTop hX dX13_call_331 ?_
  refine zs_iconst (v := 3) hX dX13_call_334 (by decide) ?_
  refine zs_iadd hX dX13_call_335 ?_
  obtain ⟨s10, e11, h⟩ := zlet_e h
  refine zp_callTop hX dX13_call_336 ?_
  rw [← e11]
  refine zs_iinc (v := x5 + 1) hX dX13_call_339 rfl rfl (by decide) rfl ?_
  dsimp only [List.set]
  refine zs_goto (tgt := 32) hX dX13_call_342 (by decide) ?_
  refine zs_weak hX (lw := [some (.ref h0), none, some (.int x2), some (.ref (qs.getD 29 0)), some (.int x4), some (.int (x5 + 1)), none, none, none]) ⟨rfl, rfl, rfl, rfl, rfl, trivial⟩ ?_
  exact hk32 _ _ _ _ h
set_option maxHeartbeats 4000000 in
theorem pj_call_246 {h0 : Nat} {qs : List Nat} {ks : Nat → Nat} {n : Nat} {call : zCl} {kc : Nat → List Value → zSt → (Option Value → zSt → Prop) → Prop} {v : Option Value × zSt} {X : Nat → zLv → List Value → zSt → Prop} (hX : zSem cX13_call 9 (some .int) h0 qs ks kc (fun r u => (r, u) = v) X) (hc : ∀ j av s w, call j av s = some w → kc j av s (fun r u => (r, u) = w)) {k32 : Int32 → Int32 → Int32 → zSt → zRs} (hk32 : ∀ (x2 : Int32) (x4 : Int32) (x5 : Int32) (s : zSt), k32 x2 x4 x5 s = some v → X 32 [some (.ref h0), none, some (.int x2), some (.ref (qs.getD 29 0)), some (.int x4), some (.int x5), none, none, none] [] s) {x2 : Int32} {x4 : Int32} {x5 : Int32} {x6 : Int32} {x7 : Int32} {x8 : Int32} {t1 : Int32} {t2 : Int32} {σ : zSt} (h : j_call_246 n call h0 qs ks k32 x2 x4 x5 x6 x7 x8 t1 t2 σ = some v) : X 246 [some (.ref h0), none, some (.int x2), some (.ref (qs.getD 29 0)), some (.int x4), some (.int x5), some (.int x6), some (.int x7), some (.int x8)] [.int t2, .int t1, .ref (qs.getD 16 0)] σ := by
  rw [j_call_246] at h
  obtain ⟨b1, h⟩ := zgd_e h
  obtain ⟨s2, e3, h⟩ := zlet_e h
  refine zt_pKind hX dX13_call_246 (zin_ok b1) ?_
  rw [← e3]
  refine zs_aload_n hX dX13_call_247 rfl rfl ?_
  refine zg_pSign hX dX13_call_248 ?_
  refine zs_aload_n hX dX13_call_251 rfl rfl ?_
  refine zg_partsMany hX dX13_call_252 ?_
  refine zs_iconst (v := 1) hX dX13_call_255 (by decide) ?_
  obtain ⟨b4, h⟩ := zgd_e h
  obtain ⟨s5, e6, h⟩ := zlet_e h
  refine zt_pSign hX dX13_call_256 (zin_ok b4) ?_
  rw [← e6]
  refine zs_aload_n hX dX13_call_257 rfl rfl ?_
  refine zg_pWord hX dX13_call_258 ?_
  refine zs_aload_n hX dX13_call_261 rfl rfl ?_
  refine zg_partsMany hX dX13_call_262 ?_
  refine zs_aload_n hX dX13_call_265 rfl rfl ?_
  refine zg_w hX dX13_call_266 ?_
  obtain ⟨b7, h⟩ := zgd_e h
  obtain ⟨s8, e9, h⟩ := zlet_e h
  refine zt_pWord hX dX13_call_269 (zin_ok b7) ?_
  rw [← e9]
  refine zs_aload_n hX dX13_call_270 rfl rfl ?_
  refine zs_dup hX dX13_call_271 rfl ?_
  refine zg_partsMany hX dX13_call_272 ?_
  refine zs_iconst (v := 1) hX dX13_call_275 (by decide) ?_
  refine zs_iadd hX dX13_call_276 ?_
  obtain ⟨s10, e11, h⟩ := zlet_e h
  refine zp_partsMany hX dX13_call_277 ?_
  rw [← e11]
  refine zs_aload_n hX dX13_call_280 rfl rfl ?_
  refine zg_sTo hX dX13_call_281 ?_
  refine zs_iload hX dX13_call_284 rfl ?_
  refine zs_aload_n hX dX13_call_286 rfl rfl ?_
  refine zg_partsMany hX dX13_call_287 ?_
  obtain ⟨b12, h⟩ := zgd_e h
  obtain ⟨s13, e14, h⟩ := zlet_e h
  refine zt_sTo hX dX13_call_290 (zin_ok b12) ?_
  rw [← e14]
  refine zs_aload_n hX dX13_call_291 rfl rfl ?_
  refine zs_dup hX dX13_call_292 rfl ?_
  refine zg_w hX dX13_call_293 ?_
  refine zs_iconst (v := 1) hX dX13_call_296 (by decide) ?_
  refine zs_iadd hX dX13_call_297 ?_
  obtain ⟨s15, e16, h⟩ := zlet_e h
  refine zp_w hX dX13_call_298 ?_
  rw [← e16]
  exact pj_call_301 hX hc hk32 h
set_option maxHeartbeats 4000000 in
theorem pj_call_174 {h0 : Nat} {qs : List Nat} {ks : Nat → Nat} {n : Nat} {call : zCl} {kc : Nat → List Value → zSt → (Option Value → zSt → Prop) → Prop} {v : Option Value × zSt} {X : Nat → zLv → List Value → zSt → Prop} (hX : zSem cX13_call 9 (some .int) h0 qs ks kc (fun r u => (r, u) = v) X) (hc : ∀ j av s w, call j av s = some w → kc j av s (fun r u => (r, u) = w)) {k32 : Int32 → Int32 → Int32 → zSt → zRs} (hk32 : ∀ (x2 : Int32) (x4 : Int32) (x5 : Int32) (s : zSt), k32 x2 x4 x5 s = some v → X 32 [some (.ref h0), none, some (.int x2), some (.ref (qs.getD 29 0)), some (.int x4), some (.int x5), none, none, none] [] s) {x2 : Int32} {x4 : Int32} {x5 : Int32} {x6 : Int32} {x7 : Int32} {x8 : Int32} {σ : zSt} (h : j_call_174 n call h0 qs ks k32 x2 x4 x5 x6 x7 x8 σ = some v) : X 174 [some (.ref h0), none, some (.int x2), some (.ref (qs.getD 29 0)), some (.int x4), some (.int x5), some (.int x6), some (.int x7), some (.int x8)] [] σ := by
  rw [j_call_174] at h
  refine zs_aload_n hX dX13_call_174 rfl rfl ?_
  refine zs_ldcS hX dX13_call_175 (List.mem_of_getElem? (i := 27) rfl) ?_
  obtain ⟨s1, e2, h⟩ := zcv_e h
  refine zc_must hX dX13_call_178 (Nat.le_of_ble_eq_true rfl) (hc _ _ _ _ e2) (fun u9 h9 => ?_)
  cases h9
  refine zs_goto (tgt := 301) hX dX13_call_181 (by decide) ?_
  exact pj_call_301 hX hc hk32 h
set_option maxHeartbeats 4000000 in
theorem pj_call_111 {h0 : Nat} {qs : List Nat} {ks : Nat → Nat} {n : Nat} {call : zCl} {kc : Nat → List Value → zSt → (Option Value → zSt → Prop) → Prop} {v : Option Value × zSt} {X : Nat → zLv → List Value → zSt → Prop} (hX : zSem cX13_call 9 (some .int) h0 qs ks kc (fun r u => (r, u) = v) X) (hc : ∀ j av s w, call j av s = some w → kc j av s (fun r u => (r, u) = w)) {k32 : Int32 → Int32 → Int32 → zSt → zRs} (hk32 : ∀ (x2 : Int32) (x4 : Int32) (x5 : Int32) (s : zSt), k32 x2 x4 x5 s = some v → X 32 [some (.ref h0), none, some (.int x2), some (.ref (qs.getD 29 0)), some (.int x4), some (.int x5), none, none, none] [] s) {x2 : Int32} {x4 : Int32} {x5 : Int32} {x6 : Int32} {x8 : Int32} {t0 : Int32} {σ : zSt} (h : j_call_111 n call h0 qs ks k32 x2 x4 x5 x6 x8 t0 σ = some v) : X 111 [some (.ref h0), none, some (.int x2), some (.ref (qs.getD 29 0)), some (.int x4), some (.int x5), some (.int x6), none, some (.int x8)] [.int t0] σ := by
  rw [j_call_111] at h
  refine zs_istore hX dX13_call_111 (by decide) rfl ?_
  dsimp only [List.set]
  refine zs_aload_n hX dX13_call_113 rfl rfl ?_
  refine zs_dup hX dX13_call_114 rfl ?_
  refine zg_w hX dX13_call_115 ?_
  refine zs_iconst (v := 1) hX dX13_call_118 (by decide) ?_
  refine zs_iadd hX dX13_call_119 ?_
  obtain ⟨s1, e2, h⟩ := zlet_e h
  refine zp_w hX dX13_call_120 ?_
  rw [← e2]
  refine zs_goto (tgt := 301) hX dX13_call_123 (by decide) ?_
  exact pj_call_301 hX hc hk32 h
set_option maxHeartbeats 4000000 in
theorem pj_call_96 {h0 : Nat} {qs : List Nat} {ks : Nat → Nat} {n : Nat} {call : zCl} {kc : Nat → List Value → zSt → (Option Value → zSt → Prop) → Prop} {v : Option Value × zSt} {X : Nat → zLv → List Value → zSt → Prop} (hX : zSem cX13_call 9 (some .int) h0 qs ks kc (fun r u => (r, u) = v) X) (hc : ∀ j av s w, call j av s = some w → kc j av s (fun r u => (r, u) = w)) {k32 : Int32 → Int32 → Int32 → zSt → zRs} (hk32 : ∀ (x2 : Int32) (x4 : Int32) (x5 : Int32) (s : zSt), k32 x2 x4 x5 s = some v → X 32 [some (.ref h0), none, some (.int x2), some (.ref (qs.getD 29 0)), some (.int x4), some (.int x5), none, none, none] [] s) {x2 : Int32} {x4 : Int32} {x5 : Int32} {x6 : Int32} {x8 : Int32} {σ : zSt} (h : j_call_96 n call h0 qs ks k32 x2 x4 x5 x6 x8 σ = some v) : X 96 [some (.ref h0), none, some (.int x2), some (.ref (qs.getD 29 0)), some (.int x4), some (.int x5), some (.int x6), none, some (.int x8)] [] σ := by
  rw [j_call_96] at h
  refine zs_aload_n hX dX13_call_96 rfl rfl ?_
  refine zs_ldcS hX dX13_call_97 (List.mem_of_getElem? (i := 28) rfl) ?_
  obtain ⟨r3, s1, e2, h⟩ := zci_e h
  refine zc_here hX dX13_call_100 (Nat.le_of_ble_eq_true rfl) (hc _ _ _ _ e2) (fun r9 u9 h9 => ?_)
  cases h9
  refine zs_if_eq (tgt := 110) hX dX13_call_103 (by decide) (fun c4 => ?_) (fun c4 => ?_)
  · rw [if_pos c4] at h
    refine zs_iconst (v := 3) hX dX13_call_110 (by decide) ?_
    exact pj_call_111 hX hc hk32 h
  · rw [if_neg c4] at h
    refine zs_iconst (v := 2) hX dX13_call_106 (by decide) ?_
    refine zs_goto (tgt := 111) hX dX13_call_107 (by decide) ?_
    exact pj_call_111 hX hc hk32 h
set_option maxHeartbeats 4000000 in
theorem pj_call_49 {h0 : Nat} {qs : List Nat} {ks : Nat → Nat} {n : Nat} {call : zCl} {kc : Nat → List Value → zSt → (Option Value → zSt → Prop) → Prop} {v : Option Value × zSt} {X : Nat → zLv → List Value → zSt → Prop} (hX : zSem cX13_call 9 (some .int) h0 qs ks kc (fun r u => (r, u) = v) X) (hc : ∀ j av s w, call j av s = some w → kc j av s (fun r u => (r, u) = w)) {k32 : Int32 → Int32 → Int32 → zSt → zRs} (hk32 : ∀ (x2 : Int32) (x4 : Int32) (x5 : Int32) (s : zSt), k32 x2 x4 x5 s = some v → X 32 [some (.ref h0), none, some (.int x2), some (.ref (qs.getD 29 0)), some (.int x4), some (.int x5), none, none, none] [] s) {x2 : Int32} {x4 : Int32} {x5 : Int32} {σ : zSt} (h : j_call_49 n call h0 qs ks k32 x2 x4 x5 σ = some v) : X 49 [some (.ref h0), none, some (.int x2), some (.ref (qs.getD 29 0)), some (.int x4), some (.int x5), none, none, none] [] σ := by
  rw [j_call_49] at h
  refine zs_aload_n hX dX13_call_49 rfl rfl ?_
  refine zg_bad hX dX13_call_50 ?_
  refine zs_if_eq (tgt := 59) hX dX13_call_53 (by decide) (fun c1 => ?_) (fun c1 => ?_)
  · rw [if_pos c1] at h
    refine zs_aload_n hX dX13_call_59 rfl rfl ?_
    refine zg_wAt hX dX13_call_60 ?_
    refine zs_aload_n hX dX13_call_63 rfl rfl ?_
    refine zg_w hX dX13_call_64 ?_
    obtain ⟨b2, h⟩ := zgd_e h
    refine zl_wAt hX dX13_call_67 (zin_ok b2) ?_
    refine zs_istore hX dX13_call_68 (by decide) rfl ?_
    dsimp only [List.set]
    refine zs_iconst (v := 0) hX dX13_call_70 (by decide) ?_
    refine zs_istore hX dX13_call_71 (by decide) rfl ?_
    dsimp only [List.set]
    refine zs_iconst (v := 0) hX dX13_call_73 (by decide) ?_
    refine zs_istore hX dX13_call_74 (by decide) rfl ?_
    dsimp only [List.set]
    refine zs_aload_n hX dX13_call_76 rfl rfl ?_
    refine zs_ldcS hX dX13_call_77 (List.mem_of_getElem? (i := 28) rfl) ?_
    obtain ⟨r5, s3, e4, h⟩ := zci_e h
    refine zc_here hX dX13_call_80 (Nat.le_of_ble_eq_true rfl) (hc _ _ _ _ e4) (fun r9 u9 h9 => ?_)
    cases h9
    refine zs_if_ne (tgt := 96) hX dX13_call_83 (by decide) (fun c6 => ?_) (fun c6 => ?_)
    · rw [if_neg c6] at h
      refine zs_weak hX (lw := [some (.ref h0), none, some (.int x2), some (.ref (qs.getD 29 0)), some (.int x4), some (.int x5), some (.int (σ.2.2.1 4 ((σ.1 10)).toNatClampNeg)), none, some (.int 0)]) ⟨rfl, rfl, rfl, rfl, rfl, rfl, rfl, trivial⟩ ?_
      exact pj_call_96 hX hc hk32 h
    · rw [if_pos c6] at h
      refine zs_aload_n hX dX13_call_86 rfl rfl ?_
      refine zs_ldcS hX dX13_call_87 (List.mem_of_getElem? (i := 29) rfl) ?_
      obtain ⟨r9, s7, e8, h⟩ := zci_e h
      refine zc_here hX dX13_call_90 (Nat.le_of_ble_eq_true rfl) (hc _ _ _ _ e8) (fun r9 u9 h9 => ?_)
      cases h9
      refine zs_if_eq (tgt := 126) hX dX13_call_93 (by decide) (fun c10 => ?_) (fun c10 => ?_)
      · rw [if_pos c10] at h
        refine zs_aload_n hX dX13_call_126 rfl rfl ?_
        refine zs_ldcS hX dX13_call_127 (List.mem_of_getElem? (i := 26) rfl) ?_
        obtain ⟨r13, s11, e12, h⟩ := zci_e h
        refine zc_here hX dX13_call_130 (Nat.le_of_ble_eq_true rfl) (hc _ _ _ _ e12) (fun r9 u9 h9 => ?_)
        cases h9
        refine zs_if_eq (tgt := 184) hX dX13_call_133 (by decide) (fun c14 => ?_) (fun c14 => ?_)
        · rw [if_pos c14] at h
          refine zs_aload_n hX dX13_call_184 rfl rfl ?_
          refine zg_sums hX dX13_call_185 ?_
          refine zs_istore hX dX13_call_188 (by decide) rfl ?_
          dsimp only [List.set]
          refine zs_aload_n hX dX13_call_190 rfl rfl ?_
          refine zs_dup hX dX13_call_191 rfl ?_
          refine zg_sums hX dX13_call_192 ?_
          refine zs_iconst (v := 1) hX dX13_call_195 (by decide) ?_
          refine zs_iadd hX dX13_call_196 ?_
          obtain ⟨s15, e16, h⟩ := zlet_e h
          refine zp_sums hX dX13_call_197 ?_
          rw [← e16]
          refine zs_aload_n hX dX13_call_200 rfl rfl ?_
          refine zg_sAt hX dX13_call_201 ?_
          refine zs_iload hX dX13_call_204 rfl ?_
          refine zs_iload hX dX13_call_206 rfl ?_
          obtain ⟨b17, h⟩ := zgd_e h
          obtain ⟨s18, e19, h⟩ := zlet_e h
          refine zt_sAt hX dX13_call_208 (zin_ok b17) ?_
          rw [← e19]
          refine zs_aload_n hX dX13_call_209 rfl rfl ?_
          refine zg_sFrom hX dX13_call_210 ?_
          refine zs_iload hX dX13_call_213 rfl ?_
          refine zs_aload_n hX dX13_call_215 rfl rfl ?_
          refine zg_partsMany hX dX13_call_216 ?_
          obtain ⟨b20, h⟩ := zgd_e h
          obtain ⟨s21, e22, h⟩ := zlet_e h
          refine zt_sFrom hX dX13_call_219 (zin_ok b20) ?_
          rw [← e22]
          refine zs_aload_n hX dX13_call_220 rfl rfl ?_
          refine zg_pKind hX dX13_call_221 ?_
          refine zs_aload_n hX dX13_call_224 rfl rfl ?_
          refine zg_partsMany hX dX13_call_225 ?_
          refine zs_aload_n hX dX13_call_228 rfl rfl ?_
          refine zg_wKind hX dX13_call_229 ?_
          refine zs_aload_n hX dX13_call_232 rfl rfl ?_
          refine zg_w hX dX13_call_233 ?_
          obtain ⟨b23, h⟩ := zgd_e h
          refine zl_wKind hX dX13_call_236 (zin_ok b23) ?_
          refine zs_iconst (v := 2) hX dX13_call_237 (by decide) ?_
          refine zs_icmp_ne (tgt := 245) hX dX13_call_238 (by decide) (fun c24 => ?_) (fun c24 => ?_)
          · rw [if_neg c24] at h
            refine zs_iconst (v := 1) hX dX13_call_245 (by decide) ?_
            exact pj_call_246 hX hc hk32 h
          · rw [if_pos c24] at h
            refine zs_iconst (v := 0) hX dX13_call_241 (by decide) ?_
            refine zs_goto (tgt := 246) hX dX13_call_242 (by decide) ?_
            exact pj_call_246 hX hc hk32 h
        · rw [if_neg c14] at h
          refine zs_aload_n hX dX13_call_136 rfl rfl ?_
          refine zs_dup hX dX13_call_137 rfl ?_
          refine zg_w hX dX13_call_138 ?_
          refine zs_iconst (v := 1) hX dX13_call_141 (by decide) ?_
          refine zs_iadd hX dX13_call_142 ?_
          obtain ⟨s25, e26, h⟩ := zlet_e h
          refine zp_w hX dX13_call_143 ?_
          rw [← e26]
          refine zs_aload_n hX dX13_call_146 rfl rfl ?_
          refine zs_ldcS hX dX13_call_147 (List.mem_of_getElem? (i := 22) rfl) ?_
          obtain ⟨r29, s27, e28, h⟩ := zci_e h
          refine zc_here hX dX13_call_150 (Nat.le_of_ble_eq_true rfl) (hc _ _ _ _ e28) (fun r9 u9 h9 => ?_)
          cases h9
          refine zs_if_eq (tgt := 168) hX dX13_call_153 (by decide) (fun c30 => ?_) (fun c30 => ?_)
          · rw [if_pos c30] at h
            refine zs_aload_n hX dX13_call_168 rfl rfl ?_
            obtain ⟨r33, s31, e32, h⟩ := zci_e h
            refine zc_sum hX dX13_call_169 (Nat.le_of_ble_eq_true rfl) (hc _ _ _ _ e32) (fun r9 u9 h9 => ?_)
            cases h9
            refine zs_istore hX dX13_call_172 (by decide) rfl ?_
            dsimp only [List.set]
            exact pj_call_174 hX hc hk32 h
          · rw [if_neg c30] at h
            refine zs_iconst (v := 1) hX dX13_call_156 (by decide) ?_
            refine zs_istore hX dX13_call_157 (by decide) rfl ?_
            dsimp only [List.set]
            refine zs_aload_n hX dX13_call_159 rfl rfl ?_
            obtain ⟨r36, s34, e35, h⟩ := zci_e h
            refine zc_within hX dX13_call_160 (Nat.le_of_ble_eq_true rfl) (hc _ _ _ _ e35) (fun r9 u9 h9 => ?_)
            cases h9
            refine zs_istore hX dX13_call_163 (by decide) rfl ?_
            dsimp only [List.set]
            refine zs_goto (tgt := 174) hX dX13_call_165 (by decide) ?_
            exact pj_call_174 hX hc hk32 h
      · rw [if_neg c10] at h
        refine zs_weak hX (lw := [some (.ref h0), none, some (.int x2), some (.ref (qs.getD 29 0)), some (.int x4), some (.int x5), some (.int (σ.2.2.1 4 ((σ.1 10)).toNatClampNeg)), none, some (.int 0)]) ⟨rfl, rfl, rfl, rfl, rfl, rfl, rfl, trivial⟩ ?_
        exact pj_call_96 hX hc hk32 h
  · rw [if_neg c1] at h
    refine zs_goto (tgt := 345) hX dX13_call_56 (by decide) ?_
    exact pj_call_345 hX hc h
set_option maxHeartbeats 4000000 in
theorem pl_call_32 {h0 : Nat} {qs : List Nat} {ks : Nat → Nat} {n : Nat} {call : zCl} {kc : Nat → List Value → zSt → (Option Value → zSt → Prop) → Prop} {v : Option Value × zSt} {X : Nat → zLv → List Value → zSt → Prop} (hX : zSem cX13_call 9 (some .int) h0 qs ks kc (fun r u => (r, u) = v) X) (hc : ∀ j av s w, call j av s = some w → kc j av s (fun r u => (r, u) = w)) : ∀ (f : Nat) (x2 : Int32) (x4 : Int32) (x5 : Int32) (σ : zSt), l_call_32 n call h0 qs ks f x2 x4 x5 σ = some v → X 32 [some (.ref h0), none, some (.int x2), some (.ref (qs.getD 29 0)), some (.int x4), some (.int x5), none, none, none] [] σ := by
  intro f
  induction f with
  | zero => intro x2 x4 x5 σ h; cases h
  | succ f hk32 =>
    intro x2 x4 x5 σ h
    rw [l_call_32] at h
    refine zs_aload_n hX dX13_call_32 rfl rfl ?_
    obtain ⟨r3, s1, e2, h⟩ := zci_e h
    refine zc_isArgument hX dX13_call_33 (Nat.le_of_ble_eq_true rfl) (hc _ _ _ _ e2) (fun r9 u9 h9 => ?_)
    cases h9
    refine zs_if_eq (tgt := 345) hX dX13_call_36 (by decide) (fun c4 => ?_) (fun c4 => ?_)
    · rw [if_pos c4] at h
      exact pj_call_345 hX hc h
    · rw [if_neg c4] at h
      refine zs_iload hX dX13_call_39 rfl ?_
      refine zs_iconst (v := 4) hX dX13_call_41 (by decide) ?_
      refine zs_icmp_ne (tgt := 49) hX dX13_call_42 (by decide) (fun c5 => ?_) (fun c5 => ?_)
      · rw [if_neg c5] at h
        exact pj_call_49 hX hc hk32 h
      · rw [if_pos c5] at h
        refine zs_aload_n hX dX13_call_45 rfl rfl ?_
        obtain ⟨s6, e7, h⟩ := zcv_e h
        refine zc_form hX dX13_call_46 (Nat.le_of_ble_eq_true rfl) (hc _ _ _ _ e7) (fun u9 h9 => ?_)
        cases h9
        exact pj_call_49 hX hc hk32 h
set_option maxHeartbeats 4000000 in
theorem pb_call {h0 : Nat} {qs : List Nat} {ks : Nat → Nat} {n : Nat} {call : zCl} {kc : Nat → List Value → zSt → (Option Value → zSt → Prop) → Prop} {v : Option Value × zSt} {X : Nat → zLv → List Value → zSt → Prop} (hX : zSem cX13_call 9 (some .int) h0 qs ks kc (fun r u => (r, u) = v) X) (hc : ∀ j av s w, call j av s = some w → kc j av s (fun r u => (r, u) = w)) {x1 : Int32} {σ : zSt} (h : b_call n call h0 qs ks x1 σ = some v) : X 0 [some (.ref h0), some (.int x1), none, none, none, none, none, none, none] [] σ := by
  rw [b_call] at h
  refine zs_aload_n hX dX13_call_0 rfl rfl ?_
  refine zs_bipush (v := 15) hX dX13_call_1 (by decide) ?_
  refine zs_iload_n hX dX13_call_3 rfl rfl ?_
  obtain ⟨r3, s1, e2, h⟩ := zci_e h
  refine zc_node hX dX13_call_4 (Nat.le_of_ble_eq_true rfl) (hc _ _ _ _ e2) (fun r9 u9 h9 => ?_)
  cases h9
  refine zs_istore_n hX dX13_call_7 rfl (by decide) rfl ?_
  dsimp only [List.set]
  refine zs_aload_n hX dX13_call_8 rfl rfl ?_
  refine zg_x1 hX dX13_call_9 ?_
  refine zs_iload_n hX dX13_call_12 rfl rfl ?_
  refine zs_aload_n hX dX13_call_13 rfl rfl ?_
  obtain ⟨r6, s4, e5, h⟩ := zci_e h
  refine zc_name hX dX13_call_14 (Nat.le_of_ble_eq_true rfl) (hc _ _ _ _ e5) (fun r9 u9 h9 => ?_)
  cases h9
  obtain ⟨b7, h⟩ := zgd_e h
  obtain ⟨s8, e9, h⟩ := zlet_e h
  refine zt_x1 hX dX13_call_17 (zin_ok b7) ?_
  rw [← e9]
  refine zs_aload_n hX dX13_call_18 rfl rfl ?_
  refine zg_callWhat hX dX13_call_19 ?_
  refine zs_astore_n hX dX13_call_22 rfl (by decide) rfl ?_
  dsimp only [List.set]
  refine zs_aload_n hX dX13_call_23 rfl rfl ?_
  refine zg_callTop hX dX13_call_24 ?_
  refine zs_istore hX dX13_call_27 (by decide) rfl ?_
  dsimp only [List.set]
  refine zs_iconst (v := 0) hX dX13_call_29 (by decide) ?_
  refine zs_istore hX dX13_call_30 (by decide) rfl ?_
  dsimp only [List.set]
  refine zs_weak hX (lw := [some (.ref h0), none, some (.int r3), some (.ref (qs.getD 29 0)), some (.int (s8.1 45)), some (.int 0), none, none, none]) ⟨rfl, rfl, rfl, rfl, rfl, trivial⟩ ?_
  exact pl_call_32 hX hc n _ _ _ _ h
def j_expression_633 (n : Nat) (call : zCl) (h0 : Nat) (qs : List Nat) (ks : Nat → Nat) (x1 : Int32) (t1 : Int32) (σ : zSt) : zRs :=
  zci (call 10 [.ref h0, .int t1, .int x1] σ) fun r3 s1 =>
  zlet (zI s1 10 ((s1.1 10) + 1)) fun s4 =>
  some (some (.int r3), s4)
def j_expression_615 (n : Nat) (call : zCl) (h0 : Nat) (qs : List Nat) (ks : Nat → Nat) (x1 : Int32) (σ : zSt) : zRs :=
  zci (call 11 [.ref h0, .ref (ks 578)] σ) fun r3 s1 =>
  if r3 = 0 then
    j_expression_633 n call h0 qs ks x1 9 s1
  else
    j_expression_633 n call h0 qs ks x1 8 s1
def j_expression_154 (n : Nat) (call : zCl) (h0 : Nat) (qs : List Nat) (ks : Nat → Nat) (x2 : Int32) (σ : zSt) : zRs :=
  zcv (call 14 [.ref h0, .ref (ks 457)] σ) fun s1 =>
  zci (call 29 [.ref h0] s1) fun r5 s3 =>
  zgd (zin x2 2100) (zlet (zA s3 11 (upd (s3.2.2.1 11) (x2).toNatClampNeg r5)) fun s7 =>
  zcv (call 14 [.ref h0, .ref (ks 541)] s7) fun s9 =>
  zci (call 29 [.ref h0] s9) fun r13 s11 =>
  zgd (zin x2 2100) (zlet (zA s11 12 (upd (s11.2.2.1 12) (x2).toNatClampNeg r13)) fun s15 =>
  some (some (.int x2), s15)))
def j_expression_134 (n : Nat) (call : zCl) (h0 : Nat) (qs : List Nat) (ks : Nat → Nat) (x2 : Int32) (σ : zSt) : zRs :=
  j_expression_154 n call h0 qs ks x2 σ
def j_expression_126 (n : Nat) (call : zCl) (h0 : Nat) (qs : List Nat) (ks : Nat → Nat) (x2 : Int32) (x3 : Int32) (σ : zSt) : zRs :=
  if x3 = 0 then
    zcv (call 13 [.ref h0] σ) fun s2 =>
    j_expression_134 n call h0 qs ks x2 s2
  else
    j_expression_134 n call h0 qs ks x2 σ
def j_expression_110 (n : Nat) (call : zCl) (h0 : Nat) (qs : List Nat) (ks : Nat → Nat) (k81 : Int32 → Int32 → zSt → zRs) (x2 : Int32) (x3 : Int32) (σ : zSt) : zRs :=
  zlet (zI σ 10 ((σ.1 10) + 1)) fun s1 =>
  k81 x2 (x3 + 1) s1
def l_expression_81 (n : Nat) (call : zCl) (h0 : Nat) (qs : List Nat) (ks : Nat → Nat) : Nat → Int32 → Int32 → zSt → zRs
  | 0, _, _, _ => none
  | f + 1, x2, x3, σ =>
    if (σ.1 11) = 0 then
      zgd (zin (σ.1 10) 2010) (
      if (σ.2.2.1 3 ((σ.1 10)).toNatClampNeg) = 1 then
        if x3 = 4 then
          zcv (call 13 [.ref h0] σ) fun s5 =>
          j_expression_110 n call h0 qs ks (l_expression_81 n call h0 qs ks f) x2 x3 s5
        else
          j_expression_110 n call h0 qs ks (l_expression_81 n call h0 qs ks f) x2 x3 σ
      else
        j_expression_126 n call h0 qs ks x2 x3 σ)
    else
      j_expression_126 n call h0 qs ks x2 x3 σ
def j_expression_13 (n : Nat) (call : zCl) (h0 : Nat) (qs : List Nat) (ks : Nat → Nat) (σ : zSt) : zRs :=
  if (σ.1 11) = 0 then
    zgd (zin (σ.1 10) 2010) (
    zci (call 12 [.ref h0, .ref (ks 530)] σ) fun r5 s3 =>
    if r5 = 0 then
      zci (call 12 [.ref h0, .ref (ks 543)] s3) fun r9 s7 =>
      if r9 = 0 then
        zci (call 12 [.ref h0, .ref (ks 547)] s7) fun r13 s11 =>
        if r13 = 0 then
          zci (call 12 [.ref h0, .ref (ks 556)] s11) fun r17 s15 =>
          if r17 = 0 then
            zci (call 12 [.ref h0, .ref (ks 558)] s15) fun r21 s19 =>
            if r21 = 0 then
              zci (call 12 [.ref h0, .ref (ks 567)] s19) fun r25 s23 =>
              if r25 = 0 then
                zci (call 12 [.ref h0, .ref (ks 569)] s23) fun r29 s27 =>
                if r29 = 0 then
                  zci (call 12 [.ref h0, .ref (ks 571)] s27) fun r33 s31 =>
                  if r33 = 0 then
                    zci (call 12 [.ref h0, .ref (ks 573)] s31) fun r37 s35 =>
                    if r37 = 0 then
                      zci (call 11 [.ref h0, .ref (ks 578)] s35) fun r41 s39 =>
                      if r41 = 0 then
                        zci (call 11 [.ref h0, .ref (ks 580)] s39) fun r45 s43 =>
                        if r45 = 0 then
                          zci (call 12 [.ref h0, .ref (ks 582)] s43) fun r49 s47 =>
                          if r49 = 0 then
                            zci (call 28 [.ref h0, .int (σ.2.2.1 4 ((σ.1 10)).toNatClampNeg)] s47) fun r53 s51 =>
                            some (some (.int r53), s51)
                          else
                            zci (call 10 [.ref h0, .int 16, .int (σ.2.2.1 4 ((σ.1 10)).toNatClampNeg)] s47) fun r56 s54 =>
                            zci (call 29 [.ref h0] s54) fun r59 s57 =>
                            zgd (zin r56 2100) (zlet (zA s57 11 (upd (s57.2.2.1 11) (r56).toNatClampNeg r59)) fun s61 =>
                            zcv (call 14 [.ref h0, .ref (ks 584)] s61) fun s63 =>
                            some (some (.int r56), s63))
                        else
                          j_expression_615 n call h0 qs ks (σ.2.2.1 4 ((σ.1 10)).toNatClampNeg) s43
                      else
                        j_expression_615 n call h0 qs ks (σ.2.2.1 4 ((σ.1 10)).toNatClampNeg) s39
                    else
                      zci (call 27 [.ref h0, .int (σ.2.2.1 4 ((σ.1 10)).toNatClampNeg)] s35) fun r67 s65 =>
                      some (some (.int r67), s65)
                  else
                    zci (call 10 [.ref h0, .int 18, .int (σ.2.2.1 4 ((σ.1 10)).toNatClampNeg)] s31) fun r70 s68 =>
                    zci (call 21 [.ref h0] s68) fun r73 s71 =>
                    zgd (zin r70 2100) (zlet (zA s71 10 (upd (s71.2.2.1 10) (r70).toNatClampNeg r73)) fun s75 =>
                    zci (call 15 [.ref h0] s75) fun r79 s77 =>
                    zgd (zin r70 2100) (zlet (zA s77 9 (upd (s77.2.2.1 9) (r70).toNatClampNeg r79)) fun s81 =>
                    some (some (.int r70), s81)))
                else
                  zci (call 10 [.ref h0, .int 17, .int (σ.2.2.1 4 ((σ.1 10)).toNatClampNeg)] s27) fun r85 s83 =>
                  some (some (.int r85), s83)
              else
                zci (call 10 [.ref h0, .int 7, .int (σ.2.2.1 4 ((σ.1 10)).toNatClampNeg)] s23) fun r88 s86 =>
                zci (call 21 [.ref h0] s86) fun r91 s89 =>
                zgd (zin r88 2100) (zlet (zA s89 10 (upd (s89.2.2.1 10) (r88).toNatClampNeg r91)) fun s93 =>
                some (some (.int r88), s93))
            else
              zci (call 10 [.ref h0, .int 6, .int (σ.2.2.1 4 ((σ.1 10)).toNatClampNeg)] s19) fun r97 s95 =>
              zci (call 15 [.ref h0] s95) fun r100 s98 =>
              zgd (zin r97 2100) (zlet (zA s98 9 (upd (s98.2.2.1 9) (r97).toNatClampNeg r100)) fun s102 =>
              zgd (zin (s102.1 10) 2010) (
              zgd (zin r97 2100) (zlet (zA s102 8 (upd (s102.2.2.1 8) (r97).toNatClampNeg (s102.2.2.1 4 ((s102.1 10)).toNatClampNeg))) fun s106 =>
              zcv (call 14 [.ref h0, .ref (ks 560)] s106) fun s108 =>
              zci (call 21 [.ref h0] s108) fun r112 s110 =>
              zgd (zin r97 2100) (zlet (zA s110 10 (upd (s110.2.2.1 10) (r97).toNatClampNeg r112)) fun s114 =>
              zcv (call 14 [.ref h0, .ref (ks 565)] s114) fun s116 =>
              zcv (call 14 [.ref h0, .ref (ks 457)] s116) fun s118 =>
              zci (call 21 [.ref h0] s118) fun r122 s120 =>
              zgd (zin r97 2100) (zlet (zA s120 11 (upd (s120.2.2.1 11) (r97).toNatClampNeg r122)) fun s124 =>
              zcv (call 14 [.ref h0, .ref (ks 515)] s124) fun s126 =>
              zci (call 29 [.ref h0] s126) fun r130 s128 =>
              zgd (zin r97 2100) (zlet (zA s128 12 (upd (s128.2.2.1 12) (r97).toNatClampNeg r130)) fun s132 =>
              some (some (.int r97), s132)))))))
          else
            zci (call 10 [.ref h0, .int 5, .int (σ.2.2.1 4 ((σ.1 10)).toNatClampNeg)] s15) fun r136 s134 =>
            zgd (zin (s134.1 10) 2010) (
            zgd (zin r136 2100) (zlet (zA s134 8 (upd (s134.2.2.1 8) (r136).toNatClampNeg (s134.2.2.1 4 ((s134.1 10)).toNatClampNeg))) fun s139 =>
            zci (call 23 [.ref h0] s139) fun r143 s141 =>
            zgd (zin r136 2100) (zlet (zA s141 9 (upd (s141.2.2.1 9) (r136).toNatClampNeg r143)) fun s145 =>
            zcv (call 14 [.ref h0, .ref (ks 515)] s145) fun s147 =>
            zci (call 29 [.ref h0] s147) fun r151 s149 =>
            zgd (zin r136 2100) (zlet (zA s149 11 (upd (s149.2.2.1 11) (r136).toNatClampNeg r151)) fun s153 =>
            some (some (.int r136), s153)))))
        else
          zci (call 10 [.ref h0, .int 4, .int (σ.2.2.1 4 ((σ.1 10)).toNatClampNeg)] s11) fun r157 s155 =>
          zgd (zin (s155.1 10) 2010) (
          zgd (zin r157 2100) (zlet (zA s155 8 (upd (s155.2.2.1 8) (r157).toNatClampNeg (s155.2.2.1 4 ((s155.1 10)).toNatClampNeg))) fun s160 =>
          zci (call 23 [.ref h0] s160) fun r164 s162 =>
          zgd (zin r157 2100) (zlet (zA s162 9 (upd (s162.2.2.1 9) (r157).toNatClampNeg r164)) fun s166 =>
          zcv (call 14 [.ref h0, .ref (ks 552)] s166) fun s168 =>
          zci (call 29 [.ref h0] s168) fun r172 s170 =>
          zgd (zin r157 2100) (zlet (zA s170 11 (upd (s170.2.2.1 11) (r157).toNatClampNeg r172)) fun s174 =>
          zcv (call 14 [.ref h0, .ref (ks 554)] s174) fun s176 =>
          zci (call 29 [.ref h0] s176) fun r180 s178 =>
          zgd (zin r157 2100) (zlet (zA s178 12 (upd (s178.2.2.1 12) (r157).toNatClampNeg r180)) fun s182 =>
          some (some (.int r157), s182))))))
      else
        zci (call 10 [.ref h0, .int 3, .int (σ.2.2.1 4 ((σ.1 10)).toNatClampNeg)] s7) fun r186 s184 =>
        zci (call 15 [.ref h0] s184) fun r189 s187 =>
        zgd (zin r186 2100) (zlet (zA s187 9 (upd (s187.2.2.1 9) (r186).toNatClampNeg r189)) fun s191 =>
        zcv (call 14 [.ref h0, .ref (ks 545)] s191) fun s193 =>
        zci (call 29 [.ref h0] s193) fun r197 s195 =>
        zgd (zin r186 2100) (zlet (zA s195 11 (upd (s195.2.2.1 11) (r186).toNatClampNeg r197)) fun s199 =>
        some (some (.int r186), s199)))
    else
      zci (call 12 [.ref h0, .ref (ks 532)] s3) fun r203 s201 =>
      if r203 = 0 then
        zci (call 10 [.ref h0, .int 1, .int (σ.2.2.1 4 ((σ.1 10)).toNatClampNeg)] s201) fun r207 s205 =>
        zci (call 15 [.ref h0] s205) fun r210 s208 =>
        zgd (zin r207 2100) (zlet (zA s208 9 (upd (s208.2.2.1 9) (r207).toNatClampNeg r210)) fun s212 =>
        j_expression_154 n call h0 qs ks r207 s212)
      else
        zci (call 10 [.ref h0, .int 2, .int (σ.2.2.1 4 ((σ.1 10)).toNatClampNeg)] s201) fun r216 s214 =>
        zci (call 15 [.ref h0] s214) fun r219 s217 =>
        zgd (zin r216 2100) (zlet (zA s217 9 (upd (s217.2.2.1 9) (r216).toNatClampNeg r219)) fun s221 =>
        zgd (zin r216 2100) (zlet (zA s221 10 (upd (s221.2.2.1 10) (r216).toNatClampNeg (s221.1 10))) fun s224 =>
        l_expression_81 n call h0 qs ks n r216 0 s224)))
  else
    some (some (.int 0), σ)
def b_expression (n : Nat) (call : zCl) (h0 : Nat) (qs : List Nat) (ks : Nat → Nat) (σ : zSt) : zRs :=
  if (σ.1 33) ≤ 30 then
    j_expression_13 n call h0 qs ks σ
  else
    zcv (call 13 [.ref h0] σ) fun s2 =>
    j_expression_13 n call h0 qs ks s2
set_option maxHeartbeats 4000000 in
theorem pj_expression_633 {h0 : Nat} {qs : List Nat} {ks : Nat → Nat} {n : Nat} {call : zCl} {kc : Nat → List Value → zSt → (Option Value → zSt → Prop) → Prop} {v : Option Value × zSt} {X : Nat → zLv → List Value → zSt → Prop} (hX : zSem cX13_expression 4 (some .int) h0 qs ks kc (fun r u => (r, u) = v) X) (hc : ∀ j av s w, call j av s = some w → kc j av s (fun r u => (r, u) = w)) {x1 : Int32} {t1 : Int32} {σ : zSt} (h : j_expression_633 n call h0 qs ks x1 t1 σ = some v) : X 633 [some (.ref h0), some (.int x1), none, none] [.int t1, .ref h0] σ := by
  rw [j_expression_633] at h
  refine zs_iload_n hX dX13_expression_633 rfl rfl ?_
  obtain ⟨r3, s1, e2, h⟩ := zci_e h
  refine zc_node hX dX13_expression_634 (Nat.le_of_ble_eq_true rfl) (hc _ _ _ _ e2) (fun r9 u9 h9 => ?_)
  cases h9
  refine zs_istore_n hX dX13_expression_637 rfl (by decide) rfl ?_
  dsimp only [List.set]
  refine zs_aload_n hX dX13_expression_638 rfl rfl ?_
  refine zs_dup hX dX13_expression_639 rfl ?_
  refine zg_w hX dX13_expression_640 ?_
  refine zs_iconst (v := 1) hX dX13_expression_643 (by decide) ?_
  refine zs_iadd hX dX13_expression_644 ?_
  obtain ⟨s4, e5, h⟩ := zlet_e h
  refine zp_w hX dX13_expression_645 ?_
  rw [← e5]
  refine zs_goto (tgt := 695) hX dX13_expression_648 (by decide) ?_
  refine zs_iload_n hX dX13_expression_695 rfl rfl ?_
  exact zs_iret hX dX13_expression_696 rfl (Option.some.inj h)
set_option maxHeartbeats 4000000 in
theorem pj_expression_615 {h0 : Nat} {qs : List Nat} {ks : Nat → Nat} {n : Nat} {call : zCl} {kc : Nat → List Value → zSt → (Option Value → zSt → Prop) → Prop} {v : Option Value × zSt} {X : Nat → zLv → List Value → zSt → Prop} (hX : zSem cX13_expression 4 (some .int) h0 qs ks kc (fun r u => (r, u) = v) X) (hc : ∀ j av s w, call j av s = some w → kc j av s (fun r u => (r, u) = w)) {x1 : Int32} {σ : zSt} (h : j_expression_615 n call h0 qs ks x1 σ = some v) : X 615 [some (.ref h0), some (.int x1), none, none] [] σ := by
  rw [j_expression_615] at h
  refine zs_aload_n hX dX13_expression_615 rfl rfl ?_
  refine zs_aload_n hX dX13_expression_616 rfl rfl ?_
  refine zs_ldcS hX dX13_expression_617 (List.mem_of_getElem? (i := 28) rfl) ?_
  obtain ⟨r3, s1, e2, h⟩ := zci_e h
  refine zc_here hX dX13_expression_620 (Nat.le_of_ble_eq_true rfl) (hc _ _ _ _ e2) (fun r9 u9 h9 => ?_)
  cases h9
  refine zs_if_eq (tgt := 631) hX dX13_expression_623 (by decide) (fun c4 => ?_) (fun c4 => ?_)
  · rw [if_pos c4] at h
    refine zs_bipush (v := 9) hX dX13_expression_631 (by decide) ?_
    exact pj_expression_633 hX hc h
  · rw [if_neg c4] at h
    refine zs_bipush (v := 8) hX dX13_expression_626 (by decide) ?_
    refine zs_goto (tgt := 633) hX dX13_expression_628 (by decide) ?_
    exact pj_expression_633 hX hc h
set_option maxHeartbeats 4000000 in
theorem pj_expression_154 {h0 : Nat} {qs : List Nat} {ks : Nat → Nat} {n : Nat} {call : zCl} {kc : Nat → List Value → zSt → (Option Value → zSt → Prop) → Prop} {v : Option Value × zSt} {X : Nat → zLv → List Value → zSt → Prop} (hX : zSem cX13_expression 4 (some .int) h0 qs ks kc (fun r u => (r, u) = v) X) (hc : ∀ j av s w, call j av s = some w → kc j av s (fun r u => (r, u) = w)) {x2 : Int32} {σ : zSt} (h : j_expression_154 n call h0 qs ks x2 σ = some v) : X 154 [some (.ref h0), none, some (.int x2), none] [] σ := by
  rw [j_expression_154] at h
  refine zs_aload_n hX dX13_expression_154 rfl rfl ?_
  refine zs_ldcS hX dX13_expression_155 (List.mem_of_getElem? (i := 7) rfl) ?_
  obtain ⟨s1, e2, h⟩ := zcv_e h
  refine zc_must hX dX13_expression_158 (Nat.le_of_ble_eq_true rfl) (hc _ _ _ _ e2) (fun u9 h9 => ?_)
  cases h9
  refine zs_aload_n hX dX13_expression_161 rfl rfl ?_
  refine zg_x3 hX dX13_expression_162 ?_
  refine zs_iload_n hX dX13_expression_165 rfl rfl ?_
  refine zs_aload_n hX dX13_expression_166 rfl rfl ?_
  obtain ⟨r5, s3, e4, h⟩ := zci_e h
  refine zc_within hX dX13_expression_167 (Nat.le_of_ble_eq_true rfl) (hc _ _ _ _ e4) (fun r9 u9 h9 => ?_)
  cases h9
  obtain ⟨b6, h⟩ := zgd_e h
  obtain ⟨s7, e8, h⟩ := zlet_e h
  refine zt_x3 hX dX13_expression_170 (zin_ok b6) ?_
  rw [← e8]
  refine zs_aload_n hX dX13_expression_171 rfl rfl ?_
  refine zs_ldcS hX dX13_expression_172 (List.mem_of_getElem? (i := 21) rfl) ?_
  obtain ⟨s9, e10, h⟩ := zcv_e h
  refine zc_must hX dX13_expression_175 (Nat.le_of_ble_eq_true rfl) (hc _ _ _ _ e10) (fun u9 h9 => ?_)
  cases h9
  refine zs_aload_n hX dX13_expression_178 rfl rfl ?_
  refine zg_x4 hX dX13_expression_179 ?_
  refine zs_iload_n hX dX13_expression_182 rfl rfl ?_
  refine zs_aload_n hX dX13_expression_183 rfl rfl ?_
  obtain ⟨r13, s11, e12, h⟩ := zci_e h
  refine zc_within hX dX13_expression_184 (Nat.le_of_ble_eq_true rfl) (hc _ _ _ _ e12) (fun r9 u9 h9 => ?_)
  cases h9
  obtain ⟨b14, h⟩ := zgd_e h
  obtain ⟨s15, e16, h⟩ := zlet_e h
  refine zt_x4 hX dX13_expression_187 (zin_ok b14) ?_
  rw [← e16]
  refine zs_goto (tgt := 695) hX dX13_expression_188 (by decide) ?_
  refine zs_iload_n hX dX13_expression_695 rfl rfl ?_
  exact zs_iret hX dX13_expression_696 rfl (Option.some.inj h)
set_option maxHeartbeats 4000000 in
theorem pj_expression_134 {h0 : Nat} {qs : List Nat} {ks : Nat → Nat} {n : Nat} {call : zCl} {kc : Nat → List Value → zSt → (Option Value → zSt → Prop) → Prop} {v : Option Value × zSt} {X : Nat → zLv → List Value → zSt → Prop} (hX : zSem cX13_expression 4 (some .int) h0 qs ks kc (fun r u => (r, u) = v) X) (hc : ∀ j av s w, call j av s = some w → kc j av s (fun r u => (r, u) = w)) {x2 : Int32} {σ : zSt} (h : j_expression_134 n call h0 qs ks x2 σ = some v) : X 134 [some (.ref h0), none, some (.int x2), none] [] σ := by
  rw [j_expression_134] at h
  refine zs_goto (tgt := 154) hX dX13_expression_134 (by decide) ?_
  exact pj_expression_154 hX hc h
set_option maxHeartbeats 4000000 in
theorem pj_expression_126 {h0 : Nat} {qs : List Nat} {ks : Nat → Nat} {n : Nat} {call : zCl} {kc : Nat → List Value → zSt → (Option Value → zSt → Prop) → Prop} {v : Option Value × zSt} {X : Nat → zLv → List Value → zSt → Prop} (hX : zSem cX13_expression 4 (some .int) h0 qs ks kc (fun r u => (r, u) = v) X) (hc : ∀ j av s w, call j av s = some w → kc j av s (fun r u => (r, u) = w)) {x2 : Int32} {x3 : Int32} {σ : zSt} (h : j_expression_126 n call h0 qs ks x2 x3 σ = some v) : X 126 [some (.ref h0), none, some (.int x2), some (.int x3)] [] σ := by
  rw [j_expression_126] at h
  refine zs_iload_n hX dX13_expression_126 rfl rfl ?_
  refine zs_if_ne (tgt := 134) hX dX13_expression_127 (by decide) (fun c1 => ?_) (fun c1 => ?_)
  · rw [if_neg c1] at h
    refine zs_weak hX (lw := [some (.ref h0), none, some (.int x2), none]) ⟨rfl, rfl, trivial⟩ ?_
    exact pj_expression_134 hX hc h
  · rw [if_pos c1] at h
    refine zs_aload_n hX dX13_expression_130 rfl rfl ?_
    obtain ⟨s2, e3, h⟩ := zcv_e h
    refine zc_form hX dX13_expression_131 (Nat.le_of_ble_eq_true rfl) (hc _ _ _ _ e3) (fun u9 h9 => ?_)
    cases h9
    refine zs_weak hX (lw := [some (.ref h0), none, some (.int x2), none]) ⟨rfl, rfl, trivial⟩ ?_
    exact pj_expression_134 hX hc h
set_option maxHeartbeats 4000000 in
theorem pj_expression_110 {h0 : Nat} {qs : List Nat} {ks : Nat → Nat} {n : Nat} {call : zCl} {kc : Nat → List Value → zSt → (Option Value → zSt → Prop) → Prop} {v : Option Value × zSt} {X : Nat → zLv → List Value → zSt → Prop} (hX : zSem cX13_expression 4 (some .int) h0 qs ks kc (fun r u => (r, u) = v) X) (hc : ∀ j av s w, call j av s = some w → kc j av s (fun r u => (r, u) = w)) {k81 : Int32 → Int32 → zSt → zRs} (hk81 : ∀ (x2 : Int32) (x3 : Int32) (s : zSt), k81 x2 x3 s = some v → X 81 [some (.ref h0), none, some (.int x2), some (.int x3)] [] s) {x2 : Int32} {x3 : Int32} {σ : zSt} (h : j_expression_110 n call h0 qs ks k81 x2 x3 σ = some v) : X 110 [some (.ref h0), none, some (.int x2), some (.int x3)] [] σ := by
  rw [j_expression_110] at h
  refine zs_iinc (v := x3 + 1) hX dX13_expression_110 rfl rfl (by decide) rfl ?_
  dsimp only [List.set]
  refine zs_aload_n hX dX13_expression_113 rfl rfl ?_
  refine zs_dup hX dX13_expression_114 rfl ?_
  refine zg_w hX dX13_expression_115 ?_
  refine zs_iconst (v := 1) hX dX13_expression_118 (by decide) ?_
  refine zs_iadd hX dX13_expression_119 ?_
  obtain ⟨s1, e2, h⟩ := zlet_e h
  refine zp_w hX dX13_expression_120 ?_
  rw [← e2]
  refine zs_goto (tgt := 81) hX dX13_expression_123 (by decide) ?_
  exact hk81 _ _ _ h
set_option maxHeartbeats 4000000 in
theorem pl_expression_81 {h0 : Nat} {qs : List Nat} {ks : Nat → Nat} {n : Nat} {call : zCl} {kc : Nat → List Value → zSt → (Option Value → zSt → Prop) → Prop} {v : Option Value × zSt} {X : Nat → zLv → List Value → zSt → Prop} (hX : zSem cX13_expression 4 (some .int) h0 qs ks kc (fun r u => (r, u) = v) X) (hc : ∀ j av s w, call j av s = some w → kc j av s (fun r u => (r, u) = w)) : ∀ (f : Nat) (x2 : Int32) (x3 : Int32) (σ : zSt), l_expression_81 n call h0 qs ks f x2 x3 σ = some v → X 81 [some (.ref h0), none, some (.int x2), some (.int x3)] [] σ := by
  intro f
  induction f with
  | zero => intro x2 x3 σ h; cases h
  | succ f hk81 =>
    intro x2 x3 σ h
    rw [l_expression_81] at h
    refine zs_aload_n hX dX13_expression_81 rfl rfl ?_
    refine zg_bad hX dX13_expression_82 ?_
    refine zs_if_ne (tgt := 126) hX dX13_expression_85 (by decide) (fun c1 => ?_) (fun c1 => ?_)
    · rw [if_neg c1] at h
      exact pj_expression_126 hX hc h
    · rw [if_pos c1] at h
      refine zs_aload_n hX dX13_expression_88 rfl rfl ?_
      refine zg_wKind hX dX13_expression_89 ?_
      refine zs_aload_n hX dX13_expression_92 rfl rfl ?_
      refine zg_w hX dX13_expression_93 ?_
      obtain ⟨b2, h⟩ := zgd_e h
      refine zl_wKind hX dX13_expression_96 (zin_ok b2) ?_
      refine zs_iconst (v := 1) hX dX13_expression_97 (by decide) ?_
      refine zs_icmp_ne (tgt := 126) hX dX13_expression_98 (by decide) (fun c3 => ?_) (fun c3 => ?_)
      · rw [if_neg c3] at h
        exact pj_expression_126 hX hc h
      · rw [if_pos c3] at h
        refine zs_iload_n hX dX13_expression_101 rfl rfl ?_
        refine zs_iconst (v := 4) hX dX13_expression_102 (by decide) ?_
        refine zs_icmp_ne (tgt := 110) hX dX13_expression_103 (by decide) (fun c4 => ?_) (fun c4 => ?_)
        · rw [if_neg c4] at h
          exact pj_expression_110 hX hc hk81 h
        · rw [if_pos c4] at h
          refine zs_aload_n hX dX13_expression_106 rfl rfl ?_
          obtain ⟨s5, e6, h⟩ := zcv_e h
          refine zc_form hX dX13_expression_107 (Nat.le_of_ble_eq_true rfl) (hc _ _ _ _ e6) (fun u9 h9 => ?_)
          cases h9
          exact pj_expression_110 hX hc hk81 h
set_option maxHeartbeats 4000000 in
theorem pj_expression_13 {h0 : Nat} {qs : List Nat} {ks : Nat → Nat} {n : Nat} {call : zCl} {kc : Nat → List Value → zSt → (Option Value → zSt → Prop) → Prop} {v : Option Value × zSt} {X : Nat → zLv → List Value → zSt → Prop} (hX : zSem cX13_expression 4 (some .int) h0 qs ks kc (fun r u => (r, u) = v) X) (hc : ∀ j av s w, call j av s = some w → kc j av s (fun r u => (r, u) = w)) {σ : zSt} (h : j_expression_13 n call h0 qs ks σ = some v) : X 13 [some (.ref h0), none, none, none] [] σ := by
  rw [j_expression_13] at h
  refine zs_aload_n hX dX13_expression_13 rfl rfl ?_
  refine zg_bad hX dX13_expression_14 ?_
  refine zs_if_eq (tgt := 22) hX dX13_expression_17 (by decide) (fun c1 => ?_) (fun c1 => ?_)
  · rw [if_pos c1] at h
    refine zs_aload_n hX dX13_expression_22 rfl rfl ?_
    refine zg_wAt hX dX13_expression_23 ?_
    refine zs_aload_n hX dX13_expression_26 rfl rfl ?_
    refine zg_w hX dX13_expression_27 ?_
    obtain ⟨b2, h⟩ := zgd_e h
    refine zl_wAt hX dX13_expression_30 (zin_ok b2) ?_
    refine zs_istore_n hX dX13_expression_31 rfl (by decide) rfl ?_
    dsimp only [List.set]
    refine zs_aload_n hX dX13_expression_32 rfl rfl ?_
    refine zs_ldcS hX dX13_expression_33 (List.mem_of_getElem? (i := 19) rfl) ?_
    obtain ⟨r5, s3, e4, h⟩ := zci_e h
    refine zc_skip hX dX13_expression_36 (Nat.le_of_ble_eq_true rfl) (hc _ _ _ _ e4) (fun r9 u9 h9 => ?_)
    cases h9
    refine zs_if_eq (tgt := 191) hX dX13_expression_39 (by decide) (fun c6 => ?_) (fun c6 => ?_)
    · rw [if_pos c6] at h
      refine zs_aload_n hX dX13_expression_191 rfl rfl ?_
      refine zs_ldcS hX dX13_expression_192 (List.mem_of_getElem? (i := 22) rfl) ?_
      obtain ⟨r9, s7, e8, h⟩ := zci_e h
      refine zc_skip hX dX13_expression_195 (Nat.le_of_ble_eq_true rfl) (hc _ _ _ _ e8) (fun r9 u9 h9 => ?_)
      cases h9
      refine zs_if_eq (tgt := 238) hX dX13_expression_198 (by decide) (fun c10 => ?_) (fun c10 => ?_)
      · rw [if_pos c10] at h
        refine zs_aload_n hX dX13_expression_238 rfl rfl ?_
        refine zs_ldcS hX dX13_expression_239 (List.mem_of_getElem? (i := 24) rfl) ?_
        obtain ⟨r13, s11, e12, h⟩ := zci_e h
        refine zc_skip hX dX13_expression_242 (Nat.le_of_ble_eq_true rfl) (hc _ _ _ _ e12) (fun r9 u9 h9 => ?_)
        cases h9
        refine zs_if_eq (tgt := 317) hX dX13_expression_245 (by decide) (fun c14 => ?_) (fun c14 => ?_)
        · rw [if_pos c14] at h
          refine zs_aload_n hX dX13_expression_317 rfl rfl ?_
          refine zs_ldcS hX dX13_expression_318 (List.mem_of_getElem? (i := 36) rfl) ?_
          obtain ⟨r17, s15, e16, h⟩ := zci_e h
          refine zc_skip hX dX13_expression_321 (Nat.le_of_ble_eq_true rfl) (hc _ _ _ _ e16) (fun r9 u9 h9 => ?_)
          cases h9
          refine zs_if_eq (tgt := 379) hX dX13_expression_324 (by decide) (fun c18 => ?_) (fun c18 => ?_)
          · rw [if_pos c18] at h
            refine zs_aload_n hX dX13_expression_379 rfl rfl ?_
            refine zs_ldcS hX dX13_expression_380 (List.mem_of_getElem? (i := 37) rfl) ?_
            obtain ⟨r21, s19, e20, h⟩ := zci_e h
            refine zc_skip hX dX13_expression_383 (Nat.le_of_ble_eq_true rfl) (hc _ _ _ _ e20) (fun r9 u9 h9 => ?_)
            cases h9
            refine zs_if_eq (tgt := 483) hX dX13_expression_386 (by decide) (fun c22 => ?_) (fun c22 => ?_)
            · rw [if_pos c22] at h
              refine zs_aload_n hX dX13_expression_483 rfl rfl ?_
              refine zs_ldcS hX dX13_expression_484 (List.mem_of_getElem? (i := 40) rfl) ?_
              obtain ⟨r25, s23, e24, h⟩ := zci_e h
              refine zc_skip hX dX13_expression_487 (Nat.le_of_ble_eq_true rfl) (hc _ _ _ _ e24) (fun r9 u9 h9 => ?_)
              cases h9
              refine zs_if_eq (tgt := 514) hX dX13_expression_490 (by decide) (fun c26 => ?_) (fun c26 => ?_)
              · rw [if_pos c26] at h
                refine zs_aload_n hX dX13_expression_514 rfl rfl ?_
                refine zs_ldcS hX dX13_expression_515 (List.mem_of_getElem? (i := 41) rfl) ?_
                obtain ⟨r29, s27, e28, h⟩ := zci_e h
                refine zc_skip hX dX13_expression_518 (Nat.le_of_ble_eq_true rfl) (hc _ _ _ _ e28) (fun r9 u9 h9 => ?_)
                cases h9
                refine zs_if_eq (tgt := 535) hX dX13_expression_521 (by decide) (fun c30 => ?_) (fun c30 => ?_)
                · rw [if_pos c30] at h
                  refine zs_aload_n hX dX13_expression_535 rfl rfl ?_
                  refine zs_ldcS hX dX13_expression_536 (List.mem_of_getElem? (i := 42) rfl) ?_
                  obtain ⟨r33, s31, e32, h⟩ := zci_e h
                  refine zc_skip hX dX13_expression_539 (Nat.le_of_ble_eq_true rfl) (hc _ _ _ _ e32) (fun r9 u9 h9 => ?_)
                  cases h9
                  refine zs_if_eq (tgt := 576) hX dX13_expression_542 (by decide) (fun c34 => ?_) (fun c34 => ?_)
                  · rw [if_pos c34] at h
                    refine zs_aload_n hX dX13_expression_576 rfl rfl ?_
                    refine zs_ldcS hX dX13_expression_577 (List.mem_of_getElem? (i := 43) rfl) ?_
                    obtain ⟨r37, s35, e36, h⟩ := zci_e h
                    refine zc_skip hX dX13_expression_580 (Nat.le_of_ble_eq_true rfl) (hc _ _ _ _ e36) (fun r9 u9 h9 => ?_)
                    cases h9
                    refine zs_if_eq (tgt := 595) hX dX13_expression_583 (by decide) (fun c38 => ?_) (fun c38 => ?_)
                    · rw [if_pos c38] at h
                      refine zs_aload_n hX dX13_expression_595 rfl rfl ?_
                      refine zs_ldcS hX dX13_expression_596 (List.mem_of_getElem? (i := 28) rfl) ?_
                      obtain ⟨r41, s39, e40, h⟩ := zci_e h
                      refine zc_here hX dX13_expression_599 (Nat.le_of_ble_eq_true rfl) (hc _ _ _ _ e40) (fun r9 u9 h9 => ?_)
                      cases h9
                      refine zs_if_ne (tgt := 615) hX dX13_expression_602 (by decide) (fun c42 => ?_) (fun c42 => ?_)
                      · rw [if_neg c42] at h
                        exact pj_expression_615 hX hc h
                      · rw [if_pos c42] at h
                        refine zs_aload_n hX dX13_expression_605 rfl rfl ?_
                        refine zs_ldcS hX dX13_expression_606 (List.mem_of_getElem? (i := 29) rfl) ?_
                        obtain ⟨r45, s43, e44, h⟩ := zci_e h
                        refine zc_here hX dX13_expression_609 (Nat.le_of_ble_eq_true rfl) (hc _ _ _ _ e44) (fun r9 u9 h9 => ?_)
                        cases h9
                        refine zs_if_eq (tgt := 651) hX dX13_expression_612 (by decide) (fun c46 => ?_) (fun c46 => ?_)
                        · rw [if_pos c46] at h
                          refine zs_aload_n hX dX13_expression_651 rfl rfl ?_
                          refine zs_ldcS hX dX13_expression_652 (List.mem_of_getElem? (i := 26) rfl) ?_
                          obtain ⟨r49, s47, e48, h⟩ := zci_e h
                          refine zc_skip hX dX13_expression_655 (Nat.le_of_ble_eq_true rfl) (hc _ _ _ _ e48) (fun r9 u9 h9 => ?_)
                          cases h9
                          refine zs_if_eq (tgt := 689) hX dX13_expression_658 (by decide) (fun c50 => ?_) (fun c50 => ?_)
                          · rw [if_pos c50] at h
                            refine zs_aload_n hX dX13_expression_689 rfl rfl ?_
                            refine zs_iload_n hX dX13_expression_690 rfl rfl ?_
                            obtain ⟨r53, s51, e52, h⟩ := zci_e h
                            refine zc_simple hX dX13_expression_691 (Nat.le_of_ble_eq_true rfl) (hc _ _ _ _ e52) (fun r9 u9 h9 => ?_)
                            cases h9
                            refine zs_istore_n hX dX13_expression_694 rfl (by decide) rfl ?_
                            dsimp only [List.set]
                            refine zs_iload_n hX dX13_expression_695 rfl rfl ?_
                            exact zs_iret hX dX13_expression_696 rfl (Option.some.inj h)
                          · rw [if_neg c50] at h
                            refine zs_aload_n hX dX13_expression_661 rfl rfl ?_
                            refine zs_bipush (v := 16) hX dX13_expression_662 (by decide) ?_
                            refine zs_iload_n hX dX13_expression_664 rfl rfl ?_
                            obtain ⟨r56, s54, e55, h⟩ := zci_e h
                            refine zc_node hX dX13_expression_665 (Nat.le_of_ble_eq_true rfl) (hc _ _ _ _ e55) (fun r9 u9 h9 => ?_)
                            cases h9
                            refine zs_istore_n hX dX13_expression_668 rfl (by decide) rfl ?_
                            dsimp only [List.set]
                            refine zs_aload_n hX dX13_expression_669 rfl rfl ?_
                            refine zg_x3 hX dX13_expression_670 ?_
                            refine zs_iload_n hX dX13_expression_673 rfl rfl ?_
                            refine zs_aload_n hX dX13_expression_674 rfl rfl ?_
                            obtain ⟨r59, s57, e58, h⟩ := zci_e h
                            refine zc_within hX dX13_expression_675 (Nat.le_of_ble_eq_true rfl) (hc _ _ _ _ e58) (fun r9 u9 h9 => ?_)
                            cases h9
                            obtain ⟨b60, h⟩ := zgd_e h
                            obtain ⟨s61, e62, h⟩ := zlet_e h
                            refine zt_x3 hX dX13_expression_678 (zin_ok b60) ?_
                            rw [← e62]
                            refine zs_aload_n hX dX13_expression_679 rfl rfl ?_
                            refine zs_ldcS hX dX13_expression_680 (List.mem_of_getElem? (i := 27) rfl) ?_
                            obtain ⟨s63, e64, h⟩ := zcv_e h
                            refine zc_must hX dX13_expression_683 (Nat.le_of_ble_eq_true rfl) (hc _ _ _ _ e64) (fun u9 h9 => ?_)
                            cases h9
                            refine zs_goto (tgt := 695) hX dX13_expression_686 (by decide) ?_
                            refine zs_iload_n hX dX13_expression_695 rfl rfl ?_
                            exact zs_iret hX dX13_expression_696 rfl (Option.some.inj h)
                        · rw [if_neg c46] at h
                          exact pj_expression_615 hX hc h
                    · rw [if_neg c38] at h
                      refine zs_aload_n hX dX13_expression_586 rfl rfl ?_
                      refine zs_iload_n hX dX13_expression_587 rfl rfl ?_
                      obtain ⟨r67, s65, e66, h⟩ := zci_e h
                      refine zc_matching hX dX13_expression_588 (Nat.le_of_ble_eq_true rfl) (hc _ _ _ _ e66) (fun r9 u9 h9 => ?_)
                      cases h9
                      refine zs_istore_n hX dX13_expression_591 rfl (by decide) rfl ?_
                      dsimp only [List.set]
                      refine zs_goto (tgt := 695) hX dX13_expression_592 (by decide) ?_
                      refine zs_iload_n hX dX13_expression_695 rfl rfl ?_
                      exact zs_iret hX dX13_expression_696 rfl (Option.some.inj h)
                  · rw [if_neg c34] at h
                    refine zs_aload_n hX dX13_expression_545 rfl rfl ?_
                    refine zs_bipush (v := 18) hX dX13_expression_546 (by decide) ?_
                    refine zs_iload_n hX dX13_expression_548 rfl rfl ?_
                    obtain ⟨r70, s68, e69, h⟩ := zci_e h
                    refine zc_node hX dX13_expression_549 (Nat.le_of_ble_eq_true rfl) (hc _ _ _ _ e69) (fun r9 u9 h9 => ?_)
                    cases h9
                    refine zs_istore_n hX dX13_expression_552 rfl (by decide) rfl ?_
                    dsimp only [List.set]
                    refine zs_aload_n hX dX13_expression_553 rfl rfl ?_
                    refine zg_x2 hX dX13_expression_554 ?_
                    refine zs_iload_n hX dX13_expression_557 rfl rfl ?_
                    refine zs_aload_n hX dX13_expression_558 rfl rfl ?_
                    obtain ⟨r73, s71, e72, h⟩ := zci_e h
                    refine zc_sum hX dX13_expression_559 (Nat.le_of_ble_eq_true rfl) (hc _ _ _ _ e72) (fun r9 u9 h9 => ?_)
                    cases h9
                    obtain ⟨b74, h⟩ := zgd_e h
                    obtain ⟨s75, e76, h⟩ := zlet_e h
                    refine zt_x2 hX dX13_expression_562 (zin_ok b74) ?_
                    rw [← e76]
                    refine zs_aload_n hX dX13_expression_563 rfl rfl ?_
                    refine zg_x1 hX dX13_expression_564 ?_
                    refine zs_iload_n hX dX13_expression_567 rfl rfl ?_
                    refine zs_aload_n hX dX13_expression_568 rfl rfl ?_
                    obtain ⟨r79, s77, e78, h⟩ := zci_e h
                    refine zc_name hX dX13_expression_569 (Nat.le_of_ble_eq_true rfl) (hc _ _ _ _ e78) (fun r9 u9 h9 => ?_)
                    cases h9
                    obtain ⟨b80, h⟩ := zgd_e h
                    obtain ⟨s81, e82, h⟩ := zlet_e h
                    refine zt_x1 hX dX13_expression_572 (zin_ok b80) ?_
                    rw [← e82]
                    refine zs_goto (tgt := 695) hX dX13_expression_573 (by decide) ?_
                    refine zs_iload_n hX dX13_expression_695 rfl rfl ?_
                    exact zs_iret hX dX13_expression_696 rfl (Option.some.inj h)
                · rw [if_neg c30] at h
                  refine zs_aload_n hX dX13_expression_524 rfl rfl ?_
                  refine zs_bipush (v := 17) hX dX13_expression_525 (by decide) ?_
                  refine zs_iload_n hX dX13_expression_527 rfl rfl ?_
                  obtain ⟨r85, s83, e84, h⟩ := zci_e h
                  refine zc_node hX dX13_expression_528 (Nat.le_of_ble_eq_true rfl) (hc _ _ _ _ e84) (fun r9 u9 h9 => ?_)
                  cases h9
                  refine zs_istore_n hX dX13_expression_531 rfl (by decide) rfl ?_
                  dsimp only [List.set]
                  refine zs_goto (tgt := 695) hX dX13_expression_532 (by decide) ?_
                  refine zs_iload_n hX dX13_expression_695 rfl rfl ?_
                  exact zs_iret hX dX13_expression_696 rfl (Option.some.inj h)
              · rw [if_neg c26] at h
                refine zs_aload_n hX dX13_expression_493 rfl rfl ?_
                refine zs_bipush (v := 7) hX dX13_expression_494 (by decide) ?_
                refine zs_iload_n hX dX13_expression_496 rfl rfl ?_
                obtain ⟨r88, s86, e87, h⟩ := zci_e h
                refine zc_node hX dX13_expression_497 (Nat.le_of_ble_eq_true rfl) (hc _ _ _ _ e87) (fun r9 u9 h9 => ?_)
                cases h9
                refine zs_istore_n hX dX13_expression_500 rfl (by decide) rfl ?_
                dsimp only [List.set]
                refine zs_aload_n hX dX13_expression_501 rfl rfl ?_
                refine zg_x2 hX dX13_expression_502 ?_
                refine zs_iload_n hX dX13_expression_505 rfl rfl ?_
                refine zs_aload_n hX dX13_expression_506 rfl rfl ?_
                obtain ⟨r91, s89, e90, h⟩ := zci_e h
                refine zc_sum hX dX13_expression_507 (Nat.le_of_ble_eq_true rfl) (hc _ _ _ _ e90) (fun r9 u9 h9 => ?_)
                cases h9
                obtain ⟨b92, h⟩ := zgd_e h
                obtain ⟨s93, e94, h⟩ := zlet_e h
                refine zt_x2 hX dX13_expression_510 (zin_ok b92) ?_
                rw [← e94]
                refine zs_goto (tgt := 695) hX dX13_expression_511 (by decide) ?_
                refine zs_iload_n hX dX13_expression_695 rfl rfl ?_
                exact zs_iret hX dX13_expression_696 rfl (Option.some.inj h)
            · rw [if_neg c22] at h
              refine zs_aload_n hX dX13_expression_389 rfl rfl ?_
              refine zs_bipush (v := 6) hX dX13_expression_390 (by decide) ?_
              refine zs_iload_n hX dX13_expression_392 rfl rfl ?_
              obtain ⟨r97, s95, e96, h⟩ := zci_e h
              refine zc_node hX dX13_expression_393 (Nat.le_of_ble_eq_true rfl) (hc _ _ _ _ e96) (fun r9 u9 h9 => ?_)
              cases h9
              refine zs_istore_n hX dX13_expression_396 rfl (by decide) rfl ?_
              dsimp only [List.set]
              refine zs_aload_n hX dX13_expression_397 rfl rfl ?_
              refine zg_x1 hX dX13_expression_398 ?_
              refine zs_iload_n hX dX13_expression_401 rfl rfl ?_
              refine zs_aload_n hX dX13_expression_402 rfl rfl ?_
              obtain ⟨r100, s98, e99, h⟩ := zci_e h
              refine zc_name hX dX13_expression_403 (Nat.le_of_ble_eq_true rfl) (hc _ _ _ _ e99) (fun r9 u9 h9 => ?_)
              cases h9
              obtain ⟨b101, h⟩ := zgd_e h
              obtain ⟨s102, e103, h⟩ := zlet_e h
              refine zt_x1 hX dX13_expression_406 (zin_ok b101) ?_
              rw [← e103]
              refine zs_aload_n hX dX13_expression_407 rfl rfl ?_
              refine zg_sign hX dX13_expression_408 ?_
              refine zs_iload_n hX dX13_expression_411 rfl rfl ?_
              refine zs_aload_n hX dX13_expression_412 rfl rfl ?_
              refine zg_wAt hX dX13_expression_413 ?_
              refine zs_aload_n hX dX13_expression_416 rfl rfl ?_
              refine zg_w hX dX13_expression_417 ?_
              obtain ⟨b104, h⟩ := zgd_e h
              refine zl_wAt hX dX13_expression_420 (zin_ok b104) ?_
              obtain ⟨b105, h⟩ := zgd_e h
              obtain ⟨s106, e107, h⟩ := zlet_e h
              refine zt_sign hX dX13_expression_421 (zin_ok b105) ?_
              rw [← e107]
              refine zs_aload_n hX dX13_expression_422 rfl rfl ?_
              refine zs_ldcS hX dX13_expression_423 (List.mem_of_getElem? (i := 38) rfl) ?_
              obtain ⟨s108, e109, h⟩ := zcv_e h
              refine zc_must hX dX13_expression_426 (Nat.le_of_ble_eq_true rfl) (hc _ _ _ _ e109) (fun u9 h9 => ?_)
              cases h9
              refine zs_aload_n hX dX13_expression_429 rfl rfl ?_
              refine zg_x2 hX dX13_expression_430 ?_
              refine zs_iload_n hX dX13_expression_433 rfl rfl ?_
              refine zs_aload_n hX dX13_expression_434 rfl rfl ?_
              obtain ⟨r112, s110, e111, h⟩ := zci_e h
              refine zc_sum hX dX13_expression_435 (Nat.le_of_ble_eq_true rfl) (hc _ _ _ _ e111) (fun r9 u9 h9 => ?_)
              cases h9
              obtain ⟨b113, h⟩ := zgd_e h
              obtain ⟨s114, e115, h⟩ := zlet_e h
              refine zt_x2 hX dX13_expression_438 (zin_ok b113) ?_
              rw [← e115]
              refine zs_aload_n hX dX13_expression_439 rfl rfl ?_
              refine zs_ldcS hX dX13_expression_440 (List.mem_of_getElem? (i := 39) rfl) ?_
              obtain ⟨s116, e117, h⟩ := zcv_e h
              refine zc_must hX dX13_expression_443 (Nat.le_of_ble_eq_true rfl) (hc _ _ _ _ e117) (fun u9 h9 => ?_)
              cases h9
              refine zs_aload_n hX dX13_expression_446 rfl rfl ?_
              refine zs_ldcS hX dX13_expression_447 (List.mem_of_getElem? (i := 7) rfl) ?_
              obtain ⟨s118, e119, h⟩ := zcv_e h
              refine zc_must hX dX13_expression_450 (Nat.le_of_ble_eq_true rfl) (hc _ _ _ _ e119) (fun u9 h9 => ?_)
              cases h9
              refine zs_aload_n hX dX13_expression_453 rfl rfl ?_
              refine zg_x3 hX dX13_expression_454 ?_
              refine zs_iload_n hX dX13_expression_457 rfl rfl ?_
              refine zs_aload_n hX dX13_expression_458 rfl rfl ?_
              obtain ⟨r122, s120, e121, h⟩ := zci_e h
              refine zc_sum hX dX13_expression_459 (Nat.le_of_ble_eq_true rfl) (hc _ _ _ _ e121) (fun r9 u9 h9 => ?_)
              cases h9
              obtain ⟨b123, h⟩ := zgd_e h
              obtain ⟨s124, e125, h⟩ := zlet_e h
              refine zt_x3 hX dX13_expression_462 (zin_ok b123) ?_
              rw [← e125]
              refine zs_aload_n hX dX13_expression_463 rfl rfl ?_
              refine zs_ldcS hX dX13_expression_464 (List.mem_of_getElem? (i := 16) rfl) ?_
              obtain ⟨s126, e127, h⟩ := zcv_e h
              refine zc_must hX dX13_expression_467 (Nat.le_of_ble_eq_true rfl) (hc _ _ _ _ e127) (fun u9 h9 => ?_)
              cases h9
              refine zs_aload_n hX dX13_expression_470 rfl rfl ?_
              refine zg_x4 hX dX13_expression_471 ?_
              refine zs_iload_n hX dX13_expression_474 rfl rfl ?_
              refine zs_aload_n hX dX13_expression_475 rfl rfl ?_
              obtain ⟨r130, s128, e129, h⟩ := zci_e h
              refine zc_within hX dX13_expression_476 (Nat.le_of_ble_eq_true rfl) (hc _ _ _ _ e129) (fun r9 u9 h9 => ?_)
              cases h9
              obtain ⟨b131, h⟩ := zgd_e h
              obtain ⟨s132, e133, h⟩ := zlet_e h
              refine zt_x4 hX dX13_expression_479 (zin_ok b131) ?_
              rw [← e133]
              refine zs_goto (tgt := 695) hX dX13_expression_480 (by decide) ?_
              refine zs_iload_n hX dX13_expression_695 rfl rfl ?_
              exact zs_iret hX dX13_expression_696 rfl (Option.some.inj h)
          · rw [if_neg c18] at h
            refine zs_aload_n hX dX13_expression_327 rfl rfl ?_
            refine zs_iconst (v := 5) hX dX13_expression_328 (by decide) ?_
            refine zs_iload_n hX dX13_expression_329 rfl rfl ?_
            obtain ⟨r136, s134, e135, h⟩ := zci_e h
            refine zc_node hX dX13_expression_330 (Nat.le_of_ble_eq_true rfl) (hc _ _ _ _ e135) (fun r9 u9 h9 => ?_)
            cases h9
            refine zs_istore_n hX dX13_expression_333 rfl (by decide) rfl ?_
            dsimp only [List.set]
            refine zs_aload_n hX dX13_expression_334 rfl rfl ?_
            refine zg_sign hX dX13_expression_335 ?_
            refine zs_iload_n hX dX13_expression_338 rfl rfl ?_
            refine zs_aload_n hX dX13_expression_339 rfl rfl ?_
            refine zg_wAt hX dX13_expression_340 ?_
            refine zs_aload_n hX dX13_expression_343 rfl rfl ?_
            refine zg_w hX dX13_expression_344 ?_
            obtain ⟨b137, h⟩ := zgd_e h
            refine zl_wAt hX dX13_expression_347 (zin_ok b137) ?_
            obtain ⟨b138, h⟩ := zgd_e h
            obtain ⟨s139, e140, h⟩ := zlet_e h
            refine zt_sign hX dX13_expression_348 (zin_ok b138) ?_
            rw [← e140]
            refine zs_aload_n hX dX13_expression_349 rfl rfl ?_
            refine zg_x1 hX dX13_expression_350 ?_
            refine zs_iload_n hX dX13_expression_353 rfl rfl ?_
            refine zs_aload_n hX dX13_expression_354 rfl rfl ?_
            obtain ⟨r143, s141, e142, h⟩ := zci_e h
            refine zc_condition hX dX13_expression_355 (Nat.le_of_ble_eq_true rfl) (hc _ _ _ _ e142) (fun r9 u9 h9 => ?_)
            cases h9
            obtain ⟨b144, h⟩ := zgd_e h
            obtain ⟨s145, e146, h⟩ := zlet_e h
            refine zt_x1 hX dX13_expression_358 (zin_ok b144) ?_
            rw [← e146]
            refine zs_aload_n hX dX13_expression_359 rfl rfl ?_
            refine zs_ldcS hX dX13_expression_360 (List.mem_of_getElem? (i := 16) rfl) ?_
            obtain ⟨s147, e148, h⟩ := zcv_e h
            refine zc_must hX dX13_expression_363 (Nat.le_of_ble_eq_true rfl) (hc _ _ _ _ e148) (fun u9 h9 => ?_)
            cases h9
            refine zs_aload_n hX dX13_expression_366 rfl rfl ?_
            refine zg_x3 hX dX13_expression_367 ?_
            refine zs_iload_n hX dX13_expression_370 rfl rfl ?_
            refine zs_aload_n hX dX13_expression_371 rfl rfl ?_
            obtain ⟨r151, s149, e150, h⟩ := zci_e h
            refine zc_within hX dX13_expression_372 (Nat.le_of_ble_eq_true rfl) (hc _ _ _ _ e150) (fun r9 u9 h9 => ?_)
            cases h9
            obtain ⟨b152, h⟩ := zgd_e h
            obtain ⟨s153, e154, h⟩ := zlet_e h
            refine zt_x3 hX dX13_expression_375 (zin_ok b152) ?_
            rw [← e154]
            refine zs_goto (tgt := 695) hX dX13_expression_376 (by decide) ?_
            refine zs_iload_n hX dX13_expression_695 rfl rfl ?_
            exact zs_iret hX dX13_expression_696 rfl (Option.some.inj h)
        · rw [if_neg c14] at h
          refine zs_aload_n hX dX13_expression_248 rfl rfl ?_
          refine zs_iconst (v := 4) hX dX13_expression_249 (by decide) ?_
          refine zs_iload_n hX dX13_expression_250 rfl rfl ?_
          obtain ⟨r157, s155, e156, h⟩ := zci_e h
          refine zc_node hX dX13_expression_251 (Nat.le_of_ble_eq_true rfl) (hc _ _ _ _ e156) (fun r9 u9 h9 => ?_)
          cases h9
          refine zs_istore_n hX dX13_expression_254 rfl (by decide) rfl ?_
          dsimp only [List.set]
          refine zs_aload_n hX dX13_expression_255 rfl rfl ?_
          refine zg_sign hX dX13_expression_256 ?_
          refine zs_iload_n hX dX13_expression_259 rfl rfl ?_
          refine zs_aload_n hX dX13_expression_260 rfl rfl ?_
          refine zg_wAt hX dX13_expression_261 ?_
          refine zs_aload_n hX dX13_expression_264 rfl rfl ?_
          refine zg_w hX dX13_expression_265 ?_
          obtain ⟨b158, h⟩ := zgd_e h
          refine zl_wAt hX dX13_expression_268 (zin_ok b158) ?_
          obtain ⟨b159, h⟩ := zgd_e h
          obtain ⟨s160, e161, h⟩ := zlet_e h
          refine zt_sign hX dX13_expression_269 (zin_ok b159) ?_
          rw [← e161]
          refine zs_aload_n hX dX13_expression_270 rfl rfl ?_
          refine zg_x1 hX dX13_expression_271 ?_
          refine zs_iload_n hX dX13_expression_274 rfl rfl ?_
          refine zs_aload_n hX dX13_expression_275 rfl rfl ?_
          obtain ⟨r164, s162, e163, h⟩ := zci_e h
          refine zc_condition hX dX13_expression_276 (Nat.le_of_ble_eq_true rfl) (hc _ _ _ _ e163) (fun r9 u9 h9 => ?_)
          cases h9
          obtain ⟨b165, h⟩ := zgd_e h
          obtain ⟨s166, e167, h⟩ := zlet_e h
          refine zt_x1 hX dX13_expression_279 (zin_ok b165) ?_
          rw [← e167]
          refine zs_aload_n hX dX13_expression_280 rfl rfl ?_
          refine zs_ldcS hX dX13_expression_281 (List.mem_of_getElem? (i := 34) rfl) ?_
          obtain ⟨s168, e169, h⟩ := zcv_e h
          refine zc_must hX dX13_expression_284 (Nat.le_of_ble_eq_true rfl) (hc _ _ _ _ e169) (fun u9 h9 => ?_)
          cases h9
          refine zs_aload_n hX dX13_expression_287 rfl rfl ?_
          refine zg_x3 hX dX13_expression_288 ?_
          refine zs_iload_n hX dX13_expression_291 rfl rfl ?_
          refine zs_aload_n hX dX13_expression_292 rfl rfl ?_
          obtain ⟨r172, s170, e171, h⟩ := zci_e h
          refine zc_within hX dX13_expression_293 (Nat.le_of_ble_eq_true rfl) (hc _ _ _ _ e171) (fun r9 u9 h9 => ?_)
          cases h9
          obtain ⟨b173, h⟩ := zgd_e h
          obtain ⟨s174, e175, h⟩ := zlet_e h
          refine zt_x3 hX dX13_expression_296 (zin_ok b173) ?_
          rw [← e175]
          refine zs_aload_n hX dX13_expression_297 rfl rfl ?_
          refine zs_ldcS hX dX13_expression_298 (List.mem_of_getElem? (i := 35) rfl) ?_
          obtain ⟨s176, e177, h⟩ := zcv_e h
          refine zc_must hX dX13_expression_301 (Nat.le_of_ble_eq_true rfl) (hc _ _ _ _ e177) (fun u9 h9 => ?_)
          cases h9
          refine zs_aload_n hX dX13_expression_304 rfl rfl ?_
          refine zg_x4 hX dX13_expression_305 ?_
          refine zs_iload_n hX dX13_expression_308 rfl rfl ?_
          refine zs_aload_n hX dX13_expression_309 rfl rfl ?_
          obtain ⟨r180, s178, e179, h⟩ := zci_e h
          refine zc_within hX dX13_expression_310 (Nat.le_of_ble_eq_true rfl) (hc _ _ _ _ e179) (fun r9 u9 h9 => ?_)
          cases h9
          obtain ⟨b181, h⟩ := zgd_e h
          obtain ⟨s182, e183, h⟩ := zlet_e h
          refine zt_x4 hX dX13_expression_313 (zin_ok b181) ?_
          rw [← e183]
          refine zs_goto (tgt := 695) hX dX13_expression_314 (by decide) ?_
          refine zs_iload_n hX dX13_expression_695 rfl rfl ?_
          exact zs_iret hX dX13_expression_696 rfl (Option.some.inj h)
      · rw [if_neg c10] at h
        refine zs_aload_n hX dX13_expression_201 rfl rfl ?_
        refine zs_iconst (v := 3) hX dX13_expression_202 (by decide) ?_
        refine zs_iload_n hX dX13_expression_203 rfl rfl ?_
        obtain ⟨r186, s184, e185, h⟩ := zci_e h
        refine zc_node hX dX13_expression_204 (Nat.le_of_ble_eq_true rfl) (hc _ _ _ _ e185) (fun r9 u9 h9 => ?_)
        cases h9
        refine zs_istore_n hX dX13_expression_207 rfl (by decide) rfl ?_
        dsimp only [List.set]
        refine zs_aload_n hX dX13_expression_208 rfl rfl ?_
        refine zg_x1 hX dX13_expression_209 ?_
        refine zs_iload_n hX dX13_expression_212 rfl rfl ?_
        refine zs_aload_n hX dX13_expression_213 rfl rfl ?_
        obtain ⟨r189, s187, e188, h⟩ := zci_e h
        refine zc_name hX dX13_expression_214 (Nat.le_of_ble_eq_true rfl) (hc _ _ _ _ e188) (fun r9 u9 h9 => ?_)
        cases h9
        obtain ⟨b190, h⟩ := zgd_e h
        obtain ⟨s191, e192, h⟩ := zlet_e h
        refine zt_x1 hX dX13_expression_217 (zin_ok b190) ?_
        rw [← e192]
        refine zs_aload_n hX dX13_expression_218 rfl rfl ?_
        refine zs_ldcS hX dX13_expression_219 (List.mem_of_getElem? (i := 23) rfl) ?_
        obtain ⟨s193, e194, h⟩ := zcv_e h
        refine zc_must hX dX13_expression_222 (Nat.le_of_ble_eq_true rfl) (hc _ _ _ _ e194) (fun u9 h9 => ?_)
        cases h9
        refine zs_aload_n hX dX13_expression_225 rfl rfl ?_
        refine zg_x3 hX dX13_expression_226 ?_
        refine zs_iload_n hX dX13_expression_229 rfl rfl ?_
        refine zs_aload_n hX dX13_expression_230 rfl rfl ?_
        obtain ⟨r197, s195, e196, h⟩ := zci_e h
        refine zc_within hX dX13_expression_231 (Nat.le_of_ble_eq_true rfl) (hc _ _ _ _ e196) (fun r9 u9 h9 => ?_)
        cases h9
        obtain ⟨b198, h⟩ := zgd_e h
        obtain ⟨s199, e200, h⟩ := zlet_e h
        refine zt_x3 hX dX13_expression_234 (zin_ok b198) ?_
        rw [← e200]
        refine zs_goto (tgt := 695) hX dX13_expression_235 (by decide) ?_
        refine zs_iload_n hX dX13_expression_695 rfl rfl ?_
        exact zs_iret hX dX13_expression_696 rfl (Option.some.inj h)
    · rw [if_neg c6] at h
      refine zs_aload_n hX dX13_expression_42 rfl rfl ?_
      refine zs_ldcS hX dX13_expression_43 (List.mem_of_getElem? (i := 20) rfl) ?_
      obtain ⟨r203, s201, e202, h⟩ := zci_e h
      refine zc_skip hX dX13_expression_46 (Nat.le_of_ble_eq_true rfl) (hc _ _ _ _ e202) (fun r9 u9 h9 => ?_)
      cases h9
      refine zs_if_eq (tgt := 137) hX dX13_expression_49 (by decide) (fun c204 => ?_) (fun c204 => ?_)
      · rw [if_pos c204] at h
        refine zs_aload_n hX dX13_expression_137 rfl rfl ?_
        refine zs_iconst (v := 1) hX dX13_expression_138 (by decide) ?_
        refine zs_iload_n hX dX13_expression_139 rfl rfl ?_
        obtain ⟨r207, s205, e206, h⟩ := zci_e h
        refine zc_node hX dX13_expression_140 (Nat.le_of_ble_eq_true rfl) (hc _ _ _ _ e206) (fun r9 u9 h9 => ?_)
        cases h9
        refine zs_istore_n hX dX13_expression_143 rfl (by decide) rfl ?_
        dsimp only [List.set]
        refine zs_aload_n hX dX13_expression_144 rfl rfl ?_
        refine zg_x1 hX dX13_expression_145 ?_
        refine zs_iload_n hX dX13_expression_148 rfl rfl ?_
        refine zs_aload_n hX dX13_expression_149 rfl rfl ?_
        obtain ⟨r210, s208, e209, h⟩ := zci_e h
        refine zc_name hX dX13_expression_150 (Nat.le_of_ble_eq_true rfl) (hc _ _ _ _ e209) (fun r9 u9 h9 => ?_)
        cases h9
        obtain ⟨b211, h⟩ := zgd_e h
        obtain ⟨s212, e213, h⟩ := zlet_e h
        refine zt_x1 hX dX13_expression_153 (zin_ok b211) ?_
        rw [← e213]
        refine zs_weak hX (lw := [some (.ref h0), none, some (.int r207), none]) ⟨rfl, rfl, trivial⟩ ?_
        exact pj_expression_154 hX hc h
      · rw [if_neg c204] at h
        refine zs_aload_n hX dX13_expression_52 rfl rfl ?_
        refine zs_iconst (v := 2) hX dX13_expression_53 (by decide) ?_
        refine zs_iload_n hX dX13_expression_54 rfl rfl ?_
        obtain ⟨r216, s214, e215, h⟩ := zci_e h
        refine zc_node hX dX13_expression_55 (Nat.le_of_ble_eq_true rfl) (hc _ _ _ _ e215) (fun r9 u9 h9 => ?_)
        cases h9
        refine zs_istore_n hX dX13_expression_58 rfl (by decide) rfl ?_
        dsimp only [List.set]
        refine zs_aload_n hX dX13_expression_59 rfl rfl ?_
        refine zg_x1 hX dX13_expression_60 ?_
        refine zs_iload_n hX dX13_expression_63 rfl rfl ?_
        refine zs_aload_n hX dX13_expression_64 rfl rfl ?_
        obtain ⟨r219, s217, e218, h⟩ := zci_e h
        refine zc_name hX dX13_expression_65 (Nat.le_of_ble_eq_true rfl) (hc _ _ _ _ e218) (fun r9 u9 h9 => ?_)
        cases h9
        obtain ⟨b220, h⟩ := zgd_e h
        obtain ⟨s221, e222, h⟩ := zlet_e h
        refine zt_x1 hX dX13_expression_68 (zin_ok b220) ?_
        rw [← e222]
        refine zs_aload_n hX dX13_expression_69 rfl rfl ?_
        refine zg_x2 hX dX13_expression_70 ?_
        refine zs_iload_n hX dX13_expression_73 rfl rfl ?_
        refine zs_aload_n hX dX13_expression_74 rfl rfl ?_
        refine zg_w hX dX13_expression_75 ?_
        obtain ⟨b223, h⟩ := zgd_e h
        obtain ⟨s224, e225, h⟩ := zlet_e h
        refine zt_x2 hX dX13_expression_78 (zin_ok b223) ?_
        rw [← e225]
        refine zs_iconst (v := 0) hX dX13_expression_79 (by decide) ?_
        refine zs_istore_n hX dX13_expression_80 rfl (by decide) rfl ?_
        dsimp only [List.set]
        refine zs_weak hX (lw := [some (.ref h0), none, some (.int r216), some (.int 0)]) ⟨rfl, rfl, rfl, trivial⟩ ?_
        exact pl_expression_81 hX hc n _ _ _ h
  · rw [if_neg c1] at h
    refine zs_iconst (v := 0) hX dX13_expression_20 (by decide) ?_
    exact zs_iret hX dX13_expression_21 rfl (Option.some.inj h)
set_option maxHeartbeats 4000000 in
theorem pb_expression {h0 : Nat} {qs : List Nat} {ks : Nat → Nat} {n : Nat} {call : zCl} {kc : Nat → List Value → zSt → (Option Value → zSt → Prop) → Prop} {v : Option Value × zSt} {X : Nat → zLv → List Value → zSt → Prop} (hX : zSem cX13_expression 4 (some .int) h0 qs ks kc (fun r u => (r, u) = v) X) (hc : ∀ j av s w, call j av s = some w → kc j av s (fun r u => (r, u) = w)) {σ : zSt} (h : b_expression n call h0 qs ks σ = some v) : X 0 [some (.ref h0), none, none, none] [] σ := by
  rw [b_expression] at h
  refine zs_aload_n hX dX13_expression_0 rfl rfl ?_
  refine zg_deep hX dX13_expression_1 ?_
  refine zs_bipush (v := 30) hX dX13_expression_4 (by decide) ?_
  refine zs_icmp_le (tgt := 13) hX dX13_expression_6 (by decide) (fun c1 => ?_) (fun c1 => ?_)
  · rw [if_pos c1] at h
    exact pj_expression_13 hX hc h
  · rw [if_neg c1] at h
    refine zs_aload_n hX dX13_expression_9 rfl rfl ?_
    obtain ⟨s2, e3, h⟩ := zcv_e h
    refine zc_form hX dX13_expression_10 (Nat.le_of_ble_eq_true rfl) (hc _ _ _ _ e3) (fun u9 h9 => ?_)
    cases h9
    exact pj_expression_13 hX hc h
def b_matching (n : Nat) (call : zCl) (h0 : Nat) (qs : List Nat) (ks : Nat → Nat) (x1 : Int32) (σ : zSt) : zRs :=
  zci (call 10 [.ref h0, .int 19, .int x1] σ) fun r3 s1 =>
  zci (call 15 [.ref h0] s1) fun r6 s4 =>
  zgd (zin r3 2100) (zlet (zA s4 9 (upd (s4.2.2.1 9) (r3).toNatClampNeg r6)) fun s8 =>
  zcv (call 14 [.ref h0, .ref (ks 589)] s8) fun s10 =>
  zcv (call 14 [.ref h0, .ref (ks 569)] s10) fun s12 =>
  zcv (call 14 [.ref h0, .ref (ks 545)] s12) fun s14 =>
  zci (call 29 [.ref h0] s14) fun r18 s16 =>
  zgd (zin r3 2100) (zlet (zA s16 11 (upd (s16.2.2.1 11) (r3).toNatClampNeg r18)) fun s20 =>
  zcv (call 14 [.ref h0, .ref (ks 515)] s20) fun s22 =>
  zci (call 15 [.ref h0] s22) fun r26 s24 =>
  zgd (zin r3 2100) (zlet (zA s24 10 (upd (s24.2.2.1 10) (r3).toNatClampNeg r26)) fun s28 =>
  zci (call 15 [.ref h0] s28) fun r32 s30 =>
  zcv (call 14 [.ref h0, .ref (ks 545)] s30) fun s33 =>
  zci (call 29 [.ref h0] s33) fun r37 s35 =>
  zgd (zin r3 2100) (zlet (zA s35 12 (upd (s35.2.2.1 12) (r3).toNatClampNeg r37)) fun s39 =>
  some (some (.int r3), s39)))))
set_option maxHeartbeats 4000000 in
theorem pb_matching {h0 : Nat} {qs : List Nat} {ks : Nat → Nat} {n : Nat} {call : zCl} {kc : Nat → List Value → zSt → (Option Value → zSt → Prop) → Prop} {v : Option Value × zSt} {X : Nat → zLv → List Value → zSt → Prop} (hX : zSem cX13_matching 3 (some .int) h0 qs ks kc (fun r u => (r, u) = v) X) (hc : ∀ j av s w, call j av s = some w → kc j av s (fun r u => (r, u) = w)) {x1 : Int32} {σ : zSt} (h : b_matching n call h0 qs ks x1 σ = some v) : X 0 [some (.ref h0), some (.int x1), none] [] σ := by
  rw [b_matching] at h
  refine zs_aload_n hX dX13_matching_0 rfl rfl ?_
  refine zs_bipush (v := 19) hX dX13_matching_1 (by decide) ?_
  refine zs_iload_n hX dX13_matching_3 rfl rfl ?_
  obtain ⟨r3, s1, e2, h⟩ := zci_e h
  refine zc_node hX dX13_matching_4 (Nat.le_of_ble_eq_true rfl) (hc _ _ _ _ e2) (fun r9 u9 h9 => ?_)
  cases h9
  refine zs_istore_n hX dX13_matching_7 rfl (by decide) rfl ?_
  dsimp only [List.set]
  refine zs_aload_n hX dX13_matching_8 rfl rfl ?_
  refine zg_x1 hX dX13_matching_9 ?_
  refine zs_iload_n hX dX13_matching_12 rfl rfl ?_
  refine zs_aload_n hX dX13_matching_13 rfl rfl ?_
  obtain ⟨r6, s4, e5, h⟩ := zci_e h
  refine zc_name hX dX13_matching_14 (Nat.le_of_ble_eq_true rfl) (hc _ _ _ _ e5) (fun r9 u9 h9 => ?_)
  cases h9
  obtain ⟨b7, h⟩ := zgd_e h
  obtain ⟨s8, e9, h⟩ := zlet_e h
  refine zt_x1 hX dX13_matching_17 (zin_ok b7) ?_
  rw [← e9]
  refine zs_aload_n hX dX13_matching_18 rfl rfl ?_
  refine zs_ldcS hX dX13_matching_19 (List.mem_of_getElem? (i := 44) rfl) ?_
  obtain ⟨s10, e11, h⟩ := zcv_e h
  refine zc_must hX dX13_matching_22 (Nat.le_of_ble_eq_true rfl) (hc _ _ _ _ e11) (fun u9 h9 => ?_)
  cases h9
  refine zs_aload_n hX dX13_matching_25 rfl rfl ?_
  refine zs_ldcS hX dX13_matching_26 (List.mem_of_getElem? (i := 41) rfl) ?_
  obtain ⟨s12, e13, h⟩ := zcv_e h
  refine zc_must hX dX13_matching_29 (Nat.le_of_ble_eq_true rfl) (hc _ _ _ _ e13) (fun u9 h9 => ?_)
  cases h9
  refine zs_aload_n hX dX13_matching_32 rfl rfl ?_
  refine zs_ldcS hX dX13_matching_33 (List.mem_of_getElem? (i := 23) rfl) ?_
  obtain ⟨s14, e15, h⟩ := zcv_e h
  refine zc_must hX dX13_matching_36 (Nat.le_of_ble_eq_true rfl) (hc _ _ _ _ e15) (fun u9 h9 => ?_)
  cases h9
  refine zs_aload_n hX dX13_matching_39 rfl rfl ?_
  refine zg_x3 hX dX13_matching_40 ?_
  refine zs_iload_n hX dX13_matching_43 rfl rfl ?_
  refine zs_aload_n hX dX13_matching_44 rfl rfl ?_
  obtain ⟨r18, s16, e17, h⟩ := zci_e h
  refine zc_within hX dX13_matching_45 (Nat.le_of_ble_eq_true rfl) (hc _ _ _ _ e17) (fun r9 u9 h9 => ?_)
  cases h9
  obtain ⟨b19, h⟩ := zgd_e h
  obtain ⟨s20, e21, h⟩ := zlet_e h
  refine zt_x3 hX dX13_matching_48 (zin_ok b19) ?_
  rw [← e21]
  refine zs_aload_n hX dX13_matching_49 rfl rfl ?_
  refine zs_ldcS hX dX13_matching_50 (List.mem_of_getElem? (i := 16) rfl) ?_
  obtain ⟨s22, e23, h⟩ := zcv_e h
  refine zc_must hX dX13_matching_53 (Nat.le_of_ble_eq_true rfl) (hc _ _ _ _ e23) (fun u9 h9 => ?_)
  cases h9
  refine zs_aload_n hX dX13_matching_56 rfl rfl ?_
  refine zg_x2 hX dX13_matching_57 ?_
  refine zs_iload_n hX dX13_matching_60 rfl rfl ?_
  refine zs_aload_n hX dX13_matching_61 rfl rfl ?_
  obtain ⟨r26, s24, e25, h⟩ := zci_e h
  refine zc_name hX dX13_matching_62 (Nat.le_of_ble_eq_true rfl) (hc _ _ _ _ e25) (fun r9 u9 h9 => ?_)
  cases h9
  obtain ⟨b27, h⟩ := zgd_e h
  obtain ⟨s28, e29, h⟩ := zlet_e h
  refine zt_x2 hX dX13_matching_65 (zin_ok b27) ?_
  rw [← e29]
  refine zs_aload_n hX dX13_matching_66 rfl rfl ?_
  obtain ⟨r32, s30, e31, h⟩ := zci_e h
  refine zc_name hX dX13_matching_67 (Nat.le_of_ble_eq_true rfl) (hc _ _ _ _ e31) (fun r9 u9 h9 => ?_)
  cases h9
  refine zs_pop hX dX13_matching_70 rfl ?_
  refine zs_aload_n hX dX13_matching_71 rfl rfl ?_
  refine zs_ldcS hX dX13_matching_72 (List.mem_of_getElem? (i := 23) rfl) ?_
  obtain ⟨s33, e34, h⟩ := zcv_e h
  refine zc_must hX dX13_matching_75 (Nat.le_of_ble_eq_true rfl) (hc _ _ _ _ e34) (fun u9 h9 => ?_)
  cases h9
  refine zs_aload_n hX dX13_matching_78 rfl rfl ?_
  refine zg_x4 hX dX13_matching_79 ?_
  refine zs_iload_n hX dX13_matching_82 rfl rfl ?_
  refine zs_aload_n hX dX13_matching_83 rfl rfl ?_
  obtain ⟨r37, s35, e36, h⟩ := zci_e h
  refine zc_within hX dX13_matching_84 (Nat.le_of_ble_eq_true rfl) (hc _ _ _ _ e36) (fun r9 u9 h9 => ?_)
  cases h9
  obtain ⟨b38, h⟩ := zgd_e h
  obtain ⟨s39, e40, h⟩ := zlet_e h
  refine zt_x4 hX dX13_matching_87 (zin_ok b38) ?_
  rw [← e40]
  refine zs_iload_n hX dX13_matching_88 rfl rfl ?_
  exact zs_iret hX dX13_matching_89 rfl (Option.some.inj h)
def j_simple_224 (n : Nat) (call : zCl) (h0 : Nat) (qs : List Nat) (ks : Nat → Nat) (x2 : Int32) (t1 : Int32) (t2 : Int32) (σ : zSt) : zRs :=
  zgd (zin t1 2100) (zlet (zA σ 6 (upd (σ.2.2.1 6) (t1).toNatClampNeg t2)) fun s2 =>
  zgd (zin (s2.1 10) 2010) (
  zgd (zin x2 2100) (zlet (zA s2 8 (upd (s2.2.2.1 8) (x2).toNatClampNeg (s2.2.2.1 4 ((s2.1 10)).toNatClampNeg))) fun s6 =>
  zlet (zI s6 10 ((s6.1 10) + 1)) fun s8 =>
  zci (call 21 [.ref h0] s8) fun r12 s10 =>
  zgd (zin x2 2100) (zlet (zA s10 11 (upd (s10.2.2.1 11) (x2).toNatClampNeg r12)) fun s14 =>
  some (some (.int x2), s14)))))
def j_simple_187 (n : Nat) (call : zCl) (h0 : Nat) (qs : List Nat) (ks : Nat → Nat) (x2 : Int32) (σ : zSt) : zRs :=
  zci (call 11 [.ref h0, .ref (ks 508)] σ) fun r3 s1 =>
  if r3 = 0 then
    zci (call 11 [.ref h0, .ref (ks 598)] s1) fun r7 s5 =>
    if r7 = 0 then
      j_simple_224 n call h0 qs ks x2 x2 13 s5
    else
      j_simple_224 n call h0 qs ks x2 x2 12 s5
  else
    j_simple_224 n call h0 qs ks x2 x2 11 s1
def j_simple_139 (n : Nat) (call : zCl) (h0 : Nat) (qs : List Nat) (ks : Nat → Nat) (x1 : Int32) (σ : zSt) : zRs :=
  zci (call 10 [.ref h0, .int 10, .int x1] σ) fun r3 s1 =>
  zci (call 21 [.ref h0] s1) fun r6 s4 =>
  zgd (zin r3 2100) (zlet (zA s4 10 (upd (s4.2.2.1 10) (r3).toNatClampNeg r6)) fun s8 =>
  zci (call 11 [.ref h0, .ref (ks 508)] s8) fun r12 s10 =>
  if r12 = 0 then
    zci (call 11 [.ref h0, .ref (ks 598)] s10) fun r16 s14 =>
    if r16 = 0 then
      zci (call 11 [.ref h0, .ref (ks 600)] s14) fun r20 s18 =>
      if r20 = 0 then
        some (some (.int r3), s18)
      else
        j_simple_187 n call h0 qs ks r3 s18
    else
      j_simple_187 n call h0 qs ks r3 s14
  else
    j_simple_187 n call h0 qs ks r3 s10)
def j_simple_91 (n : Nat) (call : zCl) (h0 : Nat) (qs : List Nat) (ks : Nat → Nat) (x1 : Int32) (σ : zSt) : zRs :=
  zgd (zin (σ.1 10) 2010) (
  if (σ.2.2.1 3 ((σ.1 10)).toNatClampNeg) = 1 then
    zlet (zI σ 10 ((σ.1 10) + 1)) fun s3 =>
    zci (call 19 [.ref h0] s3) fun r7 s5 =>
    zlet (zI s5 10 ((s5.1 10) - 1)) fun s8 =>
    if r7 = 0 then
      j_simple_139 n call h0 qs ks x1 s8
    else
      zci (call 25 [.ref h0, .int x1] s8) fun r13 s11 =>
      some (some (.int r13), s11)
  else
    j_simple_139 n call h0 qs ks x1 σ)
def b_simple (n : Nat) (call : zCl) (h0 : Nat) (qs : List Nat) (ks : Nat → Nat) (x1 : Int32) (σ : zSt) : zRs :=
  zgd (zin (σ.1 10) 2010) (
  if (σ.2.2.1 3 ((σ.1 10)).toNatClampNeg) = 1 then
    zci (call 7 [.ref h0, .int ((σ.1 10) + 1), .ref (ks 560)] σ) fun r5 s3 =>
    if r5 = 0 then
      j_simple_91 n call h0 qs ks x1 s3
    else
      zci (call 10 [.ref h0, .int 14, .int x1] s3) fun r9 s7 =>
      zci (call 15 [.ref h0] s7) fun r12 s10 =>
      zgd (zin r9 2100) (zlet (zA s10 9 (upd (s10.2.2.1 9) (r9).toNatClampNeg r12)) fun s14 =>
      zgd (zin (s14.1 10) 2010) (
      zgd (zin r9 2100) (zlet (zA s14 8 (upd (s14.2.2.1 8) (r9).toNatClampNeg (s14.2.2.1 4 ((s14.1 10)).toNatClampNeg))) fun s18 =>
      zlet (zI s18 10 ((s18.1 10) + 1)) fun s20 =>
      zci (call 21 [.ref h0] s20) fun r24 s22 =>
      zgd (zin r9 2100) (zlet (zA s22 10 (upd (s22.2.2.1 10) (r9).toNatClampNeg r24)) fun s26 =>
      zcv (call 14 [.ref h0, .ref (ks 565)] s26) fun s28 =>
      some (some (.int r9), s28)))))
  else
    j_simple_91 n call h0 qs ks x1 σ)
set_option maxHeartbeats 4000000 in
theorem pj_simple_224 {h0 : Nat} {qs : List Nat} {ks : Nat → Nat} {n : Nat} {call : zCl} {kc : Nat → List Value → zSt → (Option Value → zSt → Prop) → Prop} {v : Option Value × zSt} {X : Nat → zLv → List Value → zSt → Prop} (hX : zSem cX13_simple 3 (some .int) h0 qs ks kc (fun r u => (r, u) = v) X) (hc : ∀ j av s w, call j av s = some w → kc j av s (fun r u => (r, u) = w)) {x2 : Int32} {t1 : Int32} {t2 : Int32} {σ : zSt} (h : j_simple_224 n call h0 qs ks x2 t1 t2 σ = some v) : X 224 [some (.ref h0), none, some (.int x2)] [.int t2, .int t1, .ref (qs.getD 6 0)] σ := by
  rw [j_simple_224] at h
  obtain ⟨b1, h⟩ := zgd_e h
  obtain ⟨s2, e3, h⟩ := zlet_e h
  refine zt_kind hX dX13_simple_224 (zin_ok b1) ?_
  rw [← e3]
  refine zs_aload_n hX dX13_simple_225 rfl rfl ?_
  refine zg_sign hX dX13_simple_226 ?_
  refine zs_iload_n hX dX13_simple_229 rfl rfl ?_
  refine zs_aload_n hX dX13_simple_230 rfl rfl ?_
  refine zg_wAt hX dX13_simple_231 ?_
  refine zs_aload_n hX dX13_simple_234 rfl rfl ?_
  refine zg_w hX dX13_simple_235 ?_
  obtain ⟨b4, h⟩ := zgd_e h
  refine zl_wAt hX dX13_simple_238 (zin_ok b4) ?_
  obtain ⟨b5, h⟩ := zgd_e h
  obtain ⟨s6, e7, h⟩ := zlet_e h
  refine zt_sign hX dX13_simple_239 (zin_ok b5) ?_
  rw [← e7]
  refine zs_aload_n hX dX13_simple_240 rfl rfl ?_
  refine zs_dup hX dX13_simple_241 rfl ?_
  refine zg_w hX dX13_simple_242 ?_
  refine zs_iconst (v := 1) hX dX13_simple_245 (by decide) ?_
  refine zs_iadd hX dX13_simple_246 ?_
  obtain ⟨s8, e9, h⟩ := zlet_e h
  refine zp_w hX dX13_simple_247 ?_
  rw [← e9]
  refine zs_aload_n hX dX13_simple_250 rfl rfl ?_
  refine zg_x3 hX dX13_simple_251 ?_
  refine zs_iload_n hX dX13_simple_254 rfl rfl ?_
  refine zs_aload_n hX dX13_simple_255 rfl rfl ?_
  obtain ⟨r12, s10, e11, h⟩ := zci_e h
  refine zc_sum hX dX13_simple_256 (Nat.le_of_ble_eq_true rfl) (hc _ _ _ _ e11) (fun r9 u9 h9 => ?_)
  cases h9
  obtain ⟨b13, h⟩ := zgd_e h
  obtain ⟨s14, e15, h⟩ := zlet_e h
  refine zt_x3 hX dX13_simple_259 (zin_ok b13) ?_
  rw [← e15]
  refine zs_iload_n hX dX13_simple_260 rfl rfl ?_
  exact zs_iret hX dX13_simple_261 rfl (Option.some.inj h)
set_option maxHeartbeats 4000000 in
theorem pj_simple_187 {h0 : Nat} {qs : List Nat} {ks : Nat → Nat} {n : Nat} {call : zCl} {kc : Nat → List Value → zSt → (Option Value → zSt → Prop) → Prop} {v : Option Value × zSt} {X : Nat → zLv → List Value → zSt → Prop} (hX : zSem cX13_simple 3 (some .int) h0 qs ks kc (fun r u => (r, u) = v) X) (hc : ∀ j av s w, call j av s = some w → kc j av s (fun r u => (r, u) = w)) {x2 : Int32} {σ : zSt} (h : j_simple_187 n call h0 qs ks x2 σ = some v) : X 187 [some (.ref h0), none, some (.int x2)] [] σ := by
  rw [j_simple_187] at h
  refine zs_aload_n hX dX13_simple_187 rfl rfl ?_
  refine zg_kind hX dX13_simple_188 ?_
  refine zs_iload_n hX dX13_simple_191 rfl rfl ?_
  refine zs_aload_n hX dX13_simple_192 rfl rfl ?_
  refine zs_ldcS hX dX13_simple_193 (List.mem_of_getElem? (i := 14) rfl) ?_
  obtain ⟨r3, s1, e2, h⟩ := zci_e h
  refine zc_here hX dX13_simple_196 (Nat.le_of_ble_eq_true rfl) (hc _ _ _ _ e2) (fun r9 u9 h9 => ?_)
  cases h9
  refine zs_if_eq (tgt := 207) hX dX13_simple_199 (by decide) (fun c4 => ?_) (fun c4 => ?_)
  · rw [if_pos c4] at h
    refine zs_aload_n hX dX13_simple_207 rfl rfl ?_
    refine zs_ldcS hX dX13_simple_208 (List.mem_of_getElem? (i := 45) rfl) ?_
    obtain ⟨r7, s5, e6, h⟩ := zci_e h
    refine zc_here hX dX13_simple_211 (Nat.le_of_ble_eq_true rfl) (hc _ _ _ _ e6) (fun r9 u9 h9 => ?_)
    cases h9
    refine zs_if_eq (tgt := 222) hX dX13_simple_214 (by decide) (fun c8 => ?_) (fun c8 => ?_)
    · rw [if_pos c8] at h
      refine zs_bipush (v := 13) hX dX13_simple_222 (by decide) ?_
      exact pj_simple_224 hX hc h
    · rw [if_neg c8] at h
      refine zs_bipush (v := 12) hX dX13_simple_217 (by decide) ?_
      refine zs_goto (tgt := 224) hX dX13_simple_219 (by decide) ?_
      exact pj_simple_224 hX hc h
  · rw [if_neg c4] at h
    refine zs_bipush (v := 11) hX dX13_simple_202 (by decide) ?_
    refine zs_goto (tgt := 224) hX dX13_simple_204 (by decide) ?_
    exact pj_simple_224 hX hc h
set_option maxHeartbeats 4000000 in
theorem pj_simple_139 {h0 : Nat} {qs : List Nat} {ks : Nat → Nat} {n : Nat} {call : zCl} {kc : Nat → List Value → zSt → (Option Value → zSt → Prop) → Prop} {v : Option Value × zSt} {X : Nat → zLv → List Value → zSt → Prop} (hX : zSem cX13_simple 3 (some .int) h0 qs ks kc (fun r u => (r, u) = v) X) (hc : ∀ j av s w, call j av s = some w → kc j av s (fun r u => (r, u) = w)) {x1 : Int32} {σ : zSt} (h : j_simple_139 n call h0 qs ks x1 σ = some v) : X 139 [some (.ref h0), some (.int x1), none] [] σ := by
  rw [j_simple_139] at h
  refine zs_aload_n hX dX13_simple_139 rfl rfl ?_
  refine zs_bipush (v := 10) hX dX13_simple_140 (by decide) ?_
  refine zs_iload_n hX dX13_simple_142 rfl rfl ?_
  obtain ⟨r3, s1, e2, h⟩ := zci_e h
  refine zc_node hX dX13_simple_143 (Nat.le_of_ble_eq_true rfl) (hc _ _ _ _ e2) (fun r9 u9 h9 => ?_)
  cases h9
  refine zs_istore_n hX dX13_simple_146 rfl (by decide) rfl ?_
  dsimp only [List.set]
  refine zs_aload_n hX dX13_simple_147 rfl rfl ?_
  refine zg_x2 hX dX13_simple_148 ?_
  refine zs_iload_n hX dX13_simple_151 rfl rfl ?_
  refine zs_aload_n hX dX13_simple_152 rfl rfl ?_
  obtain ⟨r6, s4, e5, h⟩ := zci_e h
  refine zc_sum hX dX13_simple_153 (Nat.le_of_ble_eq_true rfl) (hc _ _ _ _ e5) (fun r9 u9 h9 => ?_)
  cases h9
  obtain ⟨b7, h⟩ := zgd_e h
  obtain ⟨s8, e9, h⟩ := zlet_e h
  refine zt_x2 hX dX13_simple_156 (zin_ok b7) ?_
  rw [← e9]
  refine zs_aload_n hX dX13_simple_157 rfl rfl ?_
  refine zs_ldcS hX dX13_simple_158 (List.mem_of_getElem? (i := 14) rfl) ?_
  obtain ⟨r12, s10, e11, h⟩ := zci_e h
  refine zc_here hX dX13_simple_161 (Nat.le_of_ble_eq_true rfl) (hc _ _ _ _ e11) (fun r9 u9 h9 => ?_)
  cases h9
  refine zs_if_ne (tgt := 187) hX dX13_simple_164 (by decide) (fun c13 => ?_) (fun c13 => ?_)
  · rw [if_neg c13] at h
    refine zs_weak hX (lw := [some (.ref h0), none, some (.int r3)]) ⟨rfl, rfl, trivial⟩ ?_
    exact pj_simple_187 hX hc h
  · rw [if_pos c13] at h
    refine zs_aload_n hX dX13_simple_167 rfl rfl ?_
    refine zs_ldcS hX dX13_simple_168 (List.mem_of_getElem? (i := 45) rfl) ?_
    obtain ⟨r16, s14, e15, h⟩ := zci_e h
    refine zc_here hX dX13_simple_171 (Nat.le_of_ble_eq_true rfl) (hc _ _ _ _ e15) (fun r9 u9 h9 => ?_)
    cases h9
    refine zs_if_ne (tgt := 187) hX dX13_simple_174 (by decide) (fun c17 => ?_) (fun c17 => ?_)
    · rw [if_neg c17] at h
      refine zs_weak hX (lw := [some (.ref h0), none, some (.int r3)]) ⟨rfl, rfl, trivial⟩ ?_
      exact pj_simple_187 hX hc h
    · rw [if_pos c17] at h
      refine zs_aload_n hX dX13_simple_177 rfl rfl ?_
      refine zs_ldcS hX dX13_simple_178 (List.mem_of_getElem? (i := 46) rfl) ?_
      obtain ⟨r20, s18, e19, h⟩ := zci_e h
      refine zc_here hX dX13_simple_181 (Nat.le_of_ble_eq_true rfl) (hc _ _ _ _ e19) (fun r9 u9 h9 => ?_)
      cases h9
      refine zs_if_eq (tgt := 260) hX dX13_simple_184 (by decide) (fun c21 => ?_) (fun c21 => ?_)
      · rw [if_pos c21] at h
        refine zs_iload_n hX dX13_simple_260 rfl rfl ?_
        exact zs_iret hX dX13_simple_261 rfl (Option.some.inj h)
      · rw [if_neg c21] at h
        refine zs_weak hX (lw := [some (.ref h0), none, some (.int r3)]) ⟨rfl, rfl, trivial⟩ ?_
        exact pj_simple_187 hX hc h
set_option maxHeartbeats 4000000 in
theorem pj_simple_91 {h0 : Nat} {qs : List Nat} {ks : Nat → Nat} {n : Nat} {call : zCl} {kc : Nat → List Value → zSt → (Option Value → zSt → Prop) → Prop} {v : Option Value × zSt} {X : Nat → zLv → List Value → zSt → Prop} (hX : zSem cX13_simple 3 (some .int) h0 qs ks kc (fun r u => (r, u) = v) X) (hc : ∀ j av s w, call j av s = some w → kc j av s (fun r u => (r, u) = w)) {x1 : Int32} {σ : zSt} (h : j_simple_91 n call h0 qs ks x1 σ = some v) : X 91 [some (.ref h0), some (.int x1), none] [] σ := by
  rw [j_simple_91] at h
  refine zs_aload_n hX dX13_simple_91 rfl rfl ?_
  refine zg_wKind hX dX13_simple_92 ?_
  refine zs_aload_n hX dX13_simple_95 rfl rfl ?_
  refine zg_w hX dX13_simple_96 ?_
  obtain ⟨b1, h⟩ := zgd_e h
  refine zl_wKind hX dX13_simple_99 (zin_ok b1) ?_
  refine zs_iconst (v := 1) hX dX13_simple_100 (by decide) ?_
  refine zs_icmp_ne (tgt := 139) hX dX13_simple_101 (by decide) (fun c2 => ?_) (fun c2 => ?_)
  · rw [if_neg c2] at h
    exact pj_simple_139 hX hc h
  · rw [if_pos c2] at h
    refine zs_aload_n hX dX13_simple_104 rfl rfl ?_
    refine zs_dup hX dX13_simple_105 rfl ?_
    refine zg_w hX dX13_simple_106 ?_
    refine zs_iconst (v := 1) hX dX13_simple_109 (by decide) ?_
    refine zs_iadd hX dX13_simple_110 ?_
    obtain ⟨s3, e4, h⟩ := zlet_e h
    refine zp_w hX dX13_simple_111 ?_
    rw [← e4]
    refine zs_aload_n hX dX13_simple_114 rfl rfl ?_
    obtain ⟨r7, s5, e6, h⟩ := zci_e h
    refine zc_isArgument hX dX13_simple_115 (Nat.le_of_ble_eq_true rfl) (hc _ _ _ _ e6) (fun r9 u9 h9 => ?_)
    cases h9
    refine zs_istore_n hX dX13_simple_118 rfl (by decide) rfl ?_
    dsimp only [List.set]
    refine zs_aload_n hX dX13_simple_119 rfl rfl ?_
    refine zs_dup hX dX13_simple_120 rfl ?_
    refine zg_w hX dX13_simple_121 ?_
    refine zs_iconst (v := 1) hX dX13_simple_124 (by decide) ?_
    refine zs_isub hX dX13_simple_125 ?_
    obtain ⟨s8, e9, h⟩ := zlet_e h
    refine zp_w hX dX13_simple_126 ?_
    rw [← e9]
    refine zs_iload_n hX dX13_simple_129 rfl rfl ?_
    refine zs_if_eq (tgt := 139) hX dX13_simple_130 (by decide) (fun c10 => ?_) (fun c10 => ?_)
    · rw [if_pos c10] at h
      refine zs_weak hX (lw := [some (.ref h0), some (.int x1), none]) ⟨rfl, rfl, trivial⟩ ?_
      exact pj_simple_139 hX hc h
    · rw [if_neg c10] at h
      refine zs_aload_n hX dX13_simple_133 rfl rfl ?_
      refine zs_iload_n hX dX13_simple_134 rfl rfl ?_
      obtain ⟨r13, s11, e12, h⟩ := zci_e h
      refine zc_call hX dX13_simple_135 (Nat.le_of_ble_eq_true rfl) (hc _ _ _ _ e12) (fun r9 u9 h9 => ?_)
      cases h9
      exact zs_iret hX dX13_simple_138 rfl (Option.some.inj h)
set_option maxHeartbeats 4000000 in
theorem pb_simple {h0 : Nat} {qs : List Nat} {ks : Nat → Nat} {n : Nat} {call : zCl} {kc : Nat → List Value → zSt → (Option Value → zSt → Prop) → Prop} {v : Option Value × zSt} {X : Nat → zLv → List Value → zSt → Prop} (hX : zSem cX13_simple 3 (some .int) h0 qs ks kc (fun r u => (r, u) = v) X) (hc : ∀ j av s w, call j av s = some w → kc j av s (fun r u => (r, u) = w)) {x1 : Int32} {σ : zSt} (h : b_simple n call h0 qs ks x1 σ = some v) : X 0 [some (.ref h0), some (.int x1), none] [] σ := by
  rw [b_simple] at h
  refine zs_aload_n hX dX13_simple_0 rfl rfl ?_
  refine zg_wKind hX dX13_simple_1 ?_
  refine zs_aload_n hX dX13_simple_4 rfl rfl ?_
  refine zg_w hX dX13_simple_5 ?_
  obtain ⟨b1, h⟩ := zgd_e h
  refine zl_wKind hX dX13_simple_8 (zin_ok b1) ?_
  refine zs_iconst (v := 1) hX dX13_simple_9 (by decide) ?_
  refine zs_icmp_ne (tgt := 91) hX dX13_simple_10 (by decide) (fun c2 => ?_) (fun c2 => ?_)
  · rw [if_neg c2] at h
    exact pj_simple_91 hX hc h
  · rw [if_pos c2] at h
    refine zs_aload_n hX dX13_simple_13 rfl rfl ?_
    refine zs_aload_n hX dX13_simple_14 rfl rfl ?_
    refine zg_w hX dX13_simple_15 ?_
    refine zs_iconst (v := 1) hX dX13_simple_18 (by decide) ?_
    refine zs_iadd hX dX13_simple_19 ?_
    refine zs_ldcS hX dX13_simple_20 (List.mem_of_getElem? (i := 38) rfl) ?_
    obtain ⟨r5, s3, e4, h⟩ := zci_e h
    refine zc_isText hX dX13_simple_23 (Nat.le_of_ble_eq_true rfl) (hc _ _ _ _ e4) (fun r9 u9 h9 => ?_)
    cases h9
    refine zs_if_eq (tgt := 91) hX dX13_simple_26 (by decide) (fun c6 => ?_) (fun c6 => ?_)
    · rw [if_pos c6] at h
      exact pj_simple_91 hX hc h
    · rw [if_neg c6] at h
      refine zs_aload_n hX dX13_simple_29 rfl rfl ?_
      refine zs_bipush (v := 14) hX dX13_simple_30 (by decide) ?_
      refine zs_iload_n hX dX13_simple_32 rfl rfl ?_
      obtain ⟨r9, s7, e8, h⟩ := zci_e h
      refine zc_node hX dX13_simple_33 (Nat.le_of_ble_eq_true rfl) (hc _ _ _ _ e8) (fun r9 u9 h9 => ?_)
      cases h9
      refine zs_istore_n hX dX13_simple_36 rfl (by decide) rfl ?_
      dsimp only [List.set]
      refine zs_aload_n hX dX13_simple_37 rfl rfl ?_
      refine zg_x1 hX dX13_simple_38 ?_
      refine zs_iload_n hX dX13_simple_41 rfl rfl ?_
      refine zs_aload_n hX dX13_simple_42 rfl rfl ?_
      obtain ⟨r12, s10, e11, h⟩ := zci_e h
      refine zc_name hX dX13_simple_43 (Nat.le_of_ble_eq_true rfl) (hc _ _ _ _ e11) (fun r9 u9 h9 => ?_)
      cases h9
      obtain ⟨b13, h⟩ := zgd_e h
      obtain ⟨s14, e15, h⟩ := zlet_e h
      refine zt_x1 hX dX13_simple_46 (zin_ok b13) ?_
      rw [← e15]
      refine zs_aload_n hX dX13_simple_47 rfl rfl ?_
      refine zg_sign hX dX13_simple_48 ?_
      refine zs_iload_n hX dX13_simple_51 rfl rfl ?_
      refine zs_aload_n hX dX13_simple_52 rfl rfl ?_
      refine zg_wAt hX dX13_simple_53 ?_
      refine zs_aload_n hX dX13_simple_56 rfl rfl ?_
      refine zg_w hX dX13_simple_57 ?_
      obtain ⟨b16, h⟩ := zgd_e h
      refine zl_wAt hX dX13_simple_60 (zin_ok b16) ?_
      obtain ⟨b17, h⟩ := zgd_e h
      obtain ⟨s18, e19, h⟩ := zlet_e h
      refine zt_sign hX dX13_simple_61 (zin_ok b17) ?_
      rw [← e19]
      refine zs_aload_n hX dX13_simple_62 rfl rfl ?_
      refine zs_dup hX dX13_simple_63 rfl ?_
      refine zg_w hX dX13_simple_64 ?_
      refine zs_iconst (v := 1) hX dX13_simple_67 (by decide) ?_
      refine zs_iadd hX dX13_simple_68 ?_
      obtain ⟨s20, e21, h⟩ := zlet_e h
      refine zp_w hX dX13_simple_69 ?_
      rw [← e21]
      refine zs_aload_n hX dX13_simple_72 rfl rfl ?_
      refine zg_x2 hX dX13_simple_73 ?_
      refine zs_iload_n hX dX13_simple_76 rfl rfl ?_
      refine zs_aload_n hX dX13_simple_77 rfl rfl ?_
      obtain ⟨r24, s22, e23, h⟩ := zci_e h
      refine zc_sum hX dX13_simple_78 (Nat.le_of_ble_eq_true rfl) (hc _ _ _ _ e23) (fun r9 u9 h9 => ?_)
      cases h9
      obtain ⟨b25, h⟩ := zgd_e h
      obtain ⟨s26, e27, h⟩ := zlet_e h
      refine zt_x2 hX dX13_simple_81 (zin_ok b25) ?_
      rw [← e27]
      refine zs_aload_n hX dX13_simple_82 rfl rfl ?_
      refine zs_ldcS hX dX13_simple_83 (List.mem_of_getElem? (i := 39) rfl) ?_
      obtain ⟨s28, e29, h⟩ := zcv_e h
      refine zc_must hX dX13_simple_86 (Nat.le_of_ble_eq_true rfl) (hc _ _ _ _ e29) (fun u9 h9 => ?_)
      cases h9
      refine zs_iload_n hX dX13_simple_89 rfl rfl ?_
      exact zs_iret hX dX13_simple_90 rfl (Option.some.inj h)
def b_within (n : Nat) (call : zCl) (h0 : Nat) (qs : List Nat) (ks : Nat → Nat) (σ : zSt) : zRs :=
  zlet (zI σ 33 ((σ.1 33) + 1)) fun s1 =>
  zci (call 26 [.ref h0] s1) fun r5 s3 =>
  zlet (zI s3 33 ((s3.1 33) - 1)) fun s6 =>
  some (some (.int r5), s6)
set_option maxHeartbeats 4000000 in
theorem pb_within {h0 : Nat} {qs : List Nat} {ks : Nat → Nat} {n : Nat} {call : zCl} {kc : Nat → List Value → zSt → (Option Value → zSt → Prop) → Prop} {v : Option Value × zSt} {X : Nat → zLv → List Value → zSt → Prop} (hX : zSem cX13_within 2 (some .int) h0 qs ks kc (fun r u => (r, u) = v) X) (hc : ∀ j av s w, call j av s = some w → kc j av s (fun r u => (r, u) = w)) {σ : zSt} (h : b_within n call h0 qs ks σ = some v) : X 0 [some (.ref h0), none] [] σ := by
  rw [b_within] at h
  refine zs_aload_n hX dX13_within_0 rfl rfl ?_
  refine zs_dup hX dX13_within_1 rfl ?_
  refine zg_deep hX dX13_within_2 ?_
  refine zs_iconst (v := 1) hX dX13_within_5 (by decide) ?_
  refine zs_iadd hX dX13_within_6 ?_
  obtain ⟨s1, e2, h⟩ := zlet_e h
  refine zp_deep hX dX13_within_7 ?_
  rw [← e2]
  refine zs_aload_n hX dX13_within_10 rfl rfl ?_
  obtain ⟨r5, s3, e4, h⟩ := zci_e h
  refine zc_expression hX dX13_within_11 (Nat.le_of_ble_eq_true rfl) (hc _ _ _ _ e4) (fun r9 u9 h9 => ?_)
  cases h9
  refine zs_istore_n hX dX13_within_14 rfl (by decide) rfl ?_
  dsimp only [List.set]
  refine zs_aload_n hX dX13_within_15 rfl rfl ?_
  refine zs_dup hX dX13_within_16 rfl ?_
  refine zg_deep hX dX13_within_17 ?_
  refine zs_iconst (v := 1) hX dX13_within_20 (by decide) ?_
  refine zs_isub hX dX13_within_21 ?_
  obtain ⟨s6, e7, h⟩ := zlet_e h
  refine zp_deep hX dX13_within_22 ?_
  rw [← e7]
  refine zs_iload_n hX dX13_within_25 rfl rfl ?_
  exact zs_iret hX dX13_within_26 rfl (Option.some.inj h)
def j_program_542 (n : Nat) (call : zCl) (h0 : Nat) (qs : List Nat) (ks : Nat → Nat) (k396 : zSt → zRs) (σ : zSt) : zRs :=
  zcv (call 14 [.ref h0, .ref (ks 515)] σ) fun s1 =>
  zlet (zI s1 42 ((s1.1 42) + 1)) fun s3 =>
  k396 s3
def j_program_525 (n : Nat) (call : zCl) (h0 : Nat) (qs : List Nat) (ks : Nat → Nat) (k396 : zSt → zRs) (σ : zSt) : zRs :=
  zlet (zI σ 10 ((σ.1 10) + 1)) fun s1 =>
  j_program_542 n call h0 qs ks k396 s1
def j_program_494 (n : Nat) (call : zCl) (h0 : Nat) (qs : List Nat) (ks : Nat → Nat) (k396 : zSt → zRs) (t1 : Int32) (t2 : Int32) (σ : zSt) : zRs :=
  zgd (zin t1 6) (zlet (zA σ 28 (upd (σ.2.2.1 28) (t1).toNatClampNeg t2)) fun s2 =>
  zci (call 11 [.ref h0, .ref (ks 493)] s2) fun r6 s4 =>
  if r6 = 0 then
    zci (call 11 [.ref h0, .ref (ks 522)] s4) fun r10 s8 =>
    if r10 = 0 then
      zci (call 11 [.ref h0, .ref (ks 489)] s8) fun r14 s12 =>
      if r14 = 0 then
        zcv (call 13 [.ref h0] s12) fun s16 =>
        j_program_542 n call h0 qs ks k396 s16
      else
        j_program_525 n call h0 qs ks k396 s12
    else
      j_program_525 n call h0 qs ks k396 s8
  else
    j_program_525 n call h0 qs ks k396 s4)
def j_program_419 (n : Nat) (call : zCl) (h0 : Nat) (qs : List Nat) (ks : Nat → Nat) (k396 : zSt → zRs) (σ : zSt) : zRs :=
  if (σ.1 11) = 0 then
    zlet (zI σ 10 ((σ.1 10) + 1)) fun s2 =>
    zci (call 15 [.ref h0] s2) fun r6 s4 =>
    zgd (zin (s2.1 42) 6) (zlet (zA s4 27 (upd (s4.2.2.1 27) ((s2.1 42)).toNatClampNeg r6)) fun s8 =>
    zcv (call 14 [.ref h0, .ref (ks 495)] s8) fun s10 =>
    zci (call 11 [.ref h0, .ref (ks 493)] s10) fun r14 s12 =>
    if r14 = 0 then
      zci (call 11 [.ref h0, .ref (ks 522)] s12) fun r18 s16 =>
      if r18 = 0 then
        j_program_494 n call h0 qs ks k396 (s10.1 42) 2 s16
      else
        j_program_494 n call h0 qs ks k396 (s10.1 42) 1 s16
    else
      j_program_494 n call h0 qs ks k396 (s10.1 42) 0 s12)
  else
    some (none, σ)
def l_program_396 (n : Nat) (call : zCl) (h0 : Nat) (qs : List Nat) (ks : Nat → Nat) : Nat → zSt → zRs
  | 0, _ => none
  | f + 1, σ =>
    zci (call 11 [.ref h0, .ref (ks 517)] σ) fun r3 s1 =>
    if r3 = 0 then
      zci (call 26 [.ref h0] s1) fun r7 s5 =>
      zlet (zI s5 43 r7) fun s8 =>
      if (s8.1 11) = 0 then
        zgd (zin (s8.1 10) 2010) (
        if (s8.2.2.1 3 ((s8.1 10)).toNatClampNeg) = 0 then
          some (none, s8)
        else
          zcv (call 13 [.ref h0] s8) fun s13 =>
          some (none, s13))
      else
        some (none, s8)
    else
      if (s1.1 42) = 6 then
        zcv (call 13 [.ref h0] s1) fun s16 =>
        j_program_419 n call h0 qs ks (l_program_396 n call h0 qs ks f) s16
      else
        j_program_419 n call h0 qs ks (l_program_396 n call h0 qs ks f) s1
def j_program_376 (n : Nat) (call : zCl) (h0 : Nat) (qs : List Nat) (ks : Nat → Nat) (k35 : zSt → zRs) (σ : zSt) : zRs :=
  zcv (call 14 [.ref h0, .ref (ks 515)] σ) fun s1 =>
  zlet (zI s1 39 ((s1.1 39) + 1)) fun s3 =>
  k35 s3
def j_program_375 (n : Nat) (call : zCl) (h0 : Nat) (qs : List Nat) (ks : Nat → Nat) (k35 : zSt → zRs) (t1 : Int32) (t2 : Int32) (σ : zSt) : zRs :=
  zgd (zin t1 6) (zlet (zA σ 26 (upd (σ.2.2.1 26) (t1).toNatClampNeg t2)) fun s2 =>
  j_program_376 n call h0 qs ks k35 s2)
def j_program_340 (n : Nat) (call : zCl) (h0 : Nat) (qs : List Nat) (ks : Nat → Nat) (k35 : zSt → zRs) (σ : zSt) : zRs :=
  j_program_376 n call h0 qs ks k35 σ
def j_program_339 (n : Nat) (call : zCl) (h0 : Nat) (qs : List Nat) (ks : Nat → Nat) (k35 : zSt → zRs) (t1 : Int32) (t2 : Int32) (σ : zSt) : zRs :=
  zgd (zin t1 6) (zlet (zA σ 26 (upd (σ.2.2.1 26) (t1).toNatClampNeg t2)) fun s2 =>
  j_program_340 n call h0 qs ks k35 s2)
def j_program_306 (n : Nat) (call : zCl) (h0 : Nat) (qs : List Nat) (ks : Nat → Nat) (k35 : zSt → zRs) (x2 : Int32) (σ : zSt) : zRs :=
  zlet (zI σ 10 ((σ.1 10) + 1)) fun s1 =>
  zci (call 17 [.ref h0] s1) fun r5 s3 =>
  if x2 = 0 then
    j_program_339 n call h0 qs ks k35 (s3.1 39) r5 s3
  else
    j_program_339 n call h0 qs ks k35 (s3.1 39) (-r5) s3
def j_program_260 (n : Nat) (call : zCl) (h0 : Nat) (qs : List Nat) (ks : Nat → Nat) (k35 : zSt → zRs) (t1 : Int32) (t2 : Int32) (σ : zSt) : zRs :=
  zgd (zin t1 6) (zlet (zA σ 25 (upd (σ.2.2.1 25) (t1).toNatClampNeg t2)) fun s2 =>
  zgd (zin (s2.1 39) 6) (zlet (zA s2 26 (upd (s2.2.2.1 26) ((s2.1 39)).toNatClampNeg 0)) fun s5 =>
  zgd (zin (s5.1 39) 6) (
  if (s5.2.2.1 25 ((s5.1 39)).toNatClampNeg) = 1 then
    zci (call 11 [.ref h0, .ref (ks 506)] s5) fun r16 s14 =>
    if r16 = 0 then
      zci (call 11 [.ref h0, .ref (ks 510)] s14) fun r20 s18 =>
      if r20 = 0 then
        j_program_340 n call h0 qs ks k35 s18
      else
        j_program_306 n call h0 qs ks k35 r16 s18
    else
      j_program_306 n call h0 qs ks k35 r16 s14
  else
    zci (call 17 [.ref h0] s5) fun r11 s9 =>
    zgd (zin (s9.1 39) 6) (
    if (s9.2.2.1 24 ((s9.1 39)).toNatClampNeg) = 1 then
      j_program_375 n call h0 qs ks k35 (s9.1 39) (-r11) s9
    else
      j_program_375 n call h0 qs ks k35 (s9.1 39) r11 s9))))
def j_program_236 (n : Nat) (call : zCl) (h0 : Nat) (qs : List Nat) (ks : Nat → Nat) (k35 : zSt → zRs) (t1 : Int32) (t2 : Int32) (σ : zSt) : zRs :=
  zgd (zin t1 6) (zlet (zA σ 24 (upd (σ.2.2.1 24) (t1).toNatClampNeg t2)) fun s2 =>
  zci (call 12 [.ref h0, .ref (ks 508)] s2) fun r6 s4 =>
  if r6 = 0 then
    j_program_260 n call h0 qs ks k35 (s2.1 39) 0 s4
  else
    j_program_260 n call h0 qs ks k35 (s2.1 39) 1 s4)
def j_program_193 (n : Nat) (call : zCl) (h0 : Nat) (qs : List Nat) (ks : Nat → Nat) (k35 : zSt → zRs) (x1 : Int32) (σ : zSt) : zRs :=
  zlet (zI σ 10 ((σ.1 10) + 1)) fun s1 =>
  zgd (zin (s1.1 39) 6) (zlet (zA s1 23 (upd (s1.2.2.1 23) ((s1.1 39)).toNatClampNeg x1)) fun s4 =>
  zci (call 12 [.ref h0, .ref (ks 506)] s4) fun r8 s6 =>
  if r8 = 0 then
    j_program_236 n call h0 qs ks k35 (s4.1 39) 0 s6
  else
    j_program_236 n call h0 qs ks k35 (s4.1 39) 1 s6)
def j_program_189 (n : Nat) (call : zCl) (h0 : Nat) (qs : List Nat) (ks : Nat → Nat) (k35 : zSt → zRs) (x1 : Int32) (σ : zSt) : zRs :=
  zcv (call 13 [.ref h0] σ) fun s1 =>
  j_program_193 n call h0 qs ks k35 x1 s1
def j_program_161 (n : Nat) (call : zCl) (h0 : Nat) (qs : List Nat) (ks : Nat → Nat) (k35 : zSt → zRs) (σ : zSt) : zRs :=
  zcv (call 14 [.ref h0, .ref (ks 495)] σ) fun s1 =>
  zcv (call 14 [.ref h0, .ref (ks 501)] s1) fun s3 =>
  zci (call 18 [.ref h0] s3) fun r7 s5 =>
  if r7 < 0 then
    j_program_189 n call h0 qs ks k35 r7 s5
  else
    if r7 = 5 then
      j_program_189 n call h0 qs ks k35 r7 s5
    else
      j_program_193 n call h0 qs ks k35 r7 s5
def j_program_144 (n : Nat) (call : zCl) (h0 : Nat) (qs : List Nat) (ks : Nat → Nat) (k35 : zSt → zRs) (σ : zSt) : zRs :=
  zlet (zI σ 10 ((σ.1 10) + 1)) fun s1 =>
  j_program_161 n call h0 qs ks k35 s1
def j_program_113 (n : Nat) (call : zCl) (h0 : Nat) (qs : List Nat) (ks : Nat → Nat) (k35 : zSt → zRs) (t1 : Int32) (t2 : Int32) (σ : zSt) : zRs :=
  zgd (zin t1 6) (zlet (zA σ 22 (upd (σ.2.2.1 22) (t1).toNatClampNeg t2)) fun s2 =>
  zci (call 11 [.ref h0, .ref (ks 493)] s2) fun r6 s4 =>
  if r6 = 0 then
    zci (call 11 [.ref h0, .ref (ks 489)] s4) fun r10 s8 =>
    if r10 = 0 then
      zci (call 11 [.ref h0, .ref (ks 491)] s8) fun r14 s12 =>
      if r14 = 0 then
        zcv (call 13 [.ref h0] s12) fun s16 =>
        j_program_161 n call h0 qs ks k35 s16
      else
        j_program_144 n call h0 qs ks k35 s12
    else
      j_program_144 n call h0 qs ks k35 s8
  else
    j_program_144 n call h0 qs ks k35 s4)
def j_program_58 (n : Nat) (call : zCl) (h0 : Nat) (qs : List Nat) (ks : Nat → Nat) (k35 : zSt → zRs) (σ : zSt) : zRs :=
  if (σ.1 11) = 0 then
    zlet (zI σ 10 ((σ.1 10) + 1)) fun s2 =>
    zci (call 11 [.ref h0, .ref (ks 489)] s2) fun r6 s4 =>
    if r6 = 0 then
      zci (call 11 [.ref h0, .ref (ks 491)] s4) fun r10 s8 =>
      if r10 = 0 then
        j_program_113 n call h0 qs ks k35 (s2.1 39) 0 s8
      else
        j_program_113 n call h0 qs ks k35 (s2.1 39) 2 s8
    else
      j_program_113 n call h0 qs ks k35 (s2.1 39) 1 s4
  else
    some (none, σ)
def l_program_35 (n : Nat) (call : zCl) (h0 : Nat) (qs : List Nat) (ks : Nat → Nat) : Nat → zSt → zRs
  | 0, _ => none
  | f + 1, σ =>
    zci (call 11 [.ref h0, .ref (ks 487)] σ) fun r3 s1 =>
    if r3 = 0 then
      l_program_396 n call h0 qs ks n s1
    else
      if (s1.1 39) = 6 then
        zcv (call 13 [.ref h0] s1) fun s6 =>
        j_program_58 n call h0 qs ks (l_program_35 n call h0 qs ks f) s6
      else
        j_program_58 n call h0 qs ks (l_program_35 n call h0 qs ks f) s1
def b_program (n : Nat) (call : zCl) (h0 : Nat) (qs : List Nat) (ks : Nat → Nat) (σ : zSt) : zRs :=
  zlet (zI σ 20 0) fun s1 =>
  zlet (zI s1 24 0) fun s3 =>
  zlet (zI s3 28 0) fun s5 =>
  zlet (zI s5 32 0) fun s7 =>
  zlet (zI s7 39 0) fun s9 =>
  zlet (zI s9 42 0) fun s11 =>
  zlet (zI s11 33 0) fun s13 =>
  l_program_35 n call h0 qs ks n s13
set_option maxHeartbeats 4000000 in
theorem pj_program_542 {h0 : Nat} {qs : List Nat} {ks : Nat → Nat} {n : Nat} {call : zCl} {kc : Nat → List Value → zSt → (Option Value → zSt → Prop) → Prop} {v : Option Value × zSt} {X : Nat → zLv → List Value → zSt → Prop} (hX : zSem cX13_program 4 none h0 qs ks kc (fun r u => (r, u) = v) X) (hc : ∀ j av s w, call j av s = some w → kc j av s (fun r u => (r, u) = w)) {k396 : zSt → zRs} (hk396 : ∀ (s : zSt), k396 s = some v → X 396 [some (.ref h0), none, none, none] [] s) {σ : zSt} (h : j_program_542 n call h0 qs ks k396 σ = some v) : X 542 [some (.ref h0), none, none, none] [] σ := by
  rw [j_program_542] at h
  refine zs_aload_n hX dX13_program_542 rfl rfl ?_
  refine zs_ldcS hX dX13_program_543 (List.mem_of_getElem? (i := 16) rfl) ?_
  obtain ⟨s1, e2, h⟩ := zcv_e h
  refine zc_must hX dX13_program_546 (Nat.le_of_ble_eq_true rfl) (hc _ _ _ _ e2) (fun u9 h9 => ?_)
  cases h9
  refine zs_aload_n hX dX13_program_549 rfl rfl ?_
  refine zs_dup hX dX13_program_550 rfl ?_
  refine zg_inputs hX dX13_program_551 ?_
  refine zs_iconst (v := 1) hX dX13_program_554 (by decide) ?_
  refine zs_iadd hX dX13_program_555 ?_
  obtain ⟨s3, e4, h⟩ := zlet_e h
  refine zp_inputs hX dX13_program_556 ?_
  rw [← e4]
  refine zs_goto (tgt := 396) hX dX13_program_559 (by decide) ?_
  exact hk396 _ h
set_option maxHeartbeats 4000000 in
theorem pj_program_525 {h0 : Nat} {qs : List Nat} {ks : Nat → Nat} {n : Nat} {call : zCl} {kc : Nat → List Value → zSt → (Option Value → zSt → Prop) → Prop} {v : Option Value × zSt} {X : Nat → zLv → List Value → zSt → Prop} (hX : zSem cX13_program 4 none h0 qs ks kc (fun r u => (r, u) = v) X) (hc : ∀ j av s w, call j av s = some w → kc j av s (fun r u => (r, u) = w)) {k396 : zSt → zRs} (hk396 : ∀ (s : zSt), k396 s = some v → X 396 [some (.ref h0), none, none, none] [] s) {σ : zSt} (h : j_program_525 n call h0 qs ks k396 σ = some v) : X 525 [some (.ref h0), none, none, none] [] σ := by
  rw [j_program_525] at h
  refine zs_aload_n hX dX13_program_525 rfl rfl ?_
  refine zs_dup hX dX13_program_526 rfl ?_
  refine zg_w hX dX13_program_527 ?_
  refine zs_iconst (v := 1) hX dX13_program_530 (by decide) ?_
  refine zs_iadd hX dX13_program_531 ?_
  obtain ⟨s1, e2, h⟩ := zlet_e h
  refine zp_w hX dX13_program_532 ?_
  rw [← e2]
  refine zs_goto (tgt := 542) hX dX13_program_535 (by decide) ?_
  exact pj_program_542 hX hc hk396 h
set_option maxHeartbeats 4000000 in
theorem pj_program_494 {h0 : Nat} {qs : List Nat} {ks : Nat → Nat} {n : Nat} {call : zCl} {kc : Nat → List Value → zSt → (Option Value → zSt → Prop) → Prop} {v : Option Value × zSt} {X : Nat → zLv → List Value → zSt → Prop} (hX : zSem cX13_program 4 none h0 qs ks kc (fun r u => (r, u) = v) X) (hc : ∀ j av s w, call j av s = some w → kc j av s (fun r u => (r, u) = w)) {k396 : zSt → zRs} (hk396 : ∀ (s : zSt), k396 s = some v → X 396 [some (.ref h0), none, none, none] [] s) {t1 : Int32} {t2 : Int32} {σ : zSt} (h : j_program_494 n call h0 qs ks k396 t1 t2 σ = some v) : X 494 [some (.ref h0), none, none, none] [.int t2, .int t1, .ref (qs.getD 28 0)] σ := by
  rw [j_program_494] at h
  obtain ⟨b1, h⟩ := zgd_e h
  obtain ⟨s2, e3, h⟩ := zlet_e h
  refine zt_inSort hX dX13_program_494 (zin_ok b1) ?_
  rw [← e3]
  refine zs_aload_n hX dX13_program_495 rfl rfl ?_
  refine zs_ldcS hX dX13_program_496 (List.mem_of_getElem? (i := 4) rfl) ?_
  obtain ⟨r6, s4, e5, h⟩ := zci_e h
  refine zc_here hX dX13_program_499 (Nat.le_of_ble_eq_true rfl) (hc _ _ _ _ e5) (fun r9 u9 h9 => ?_)
  cases h9
  refine zs_if_ne (tgt := 525) hX dX13_program_502 (by decide) (fun c7 => ?_) (fun c7 => ?_)
  · rw [if_neg c7] at h
    exact pj_program_525 hX hc hk396 h
  · rw [if_pos c7] at h
    refine zs_aload_n hX dX13_program_505 rfl rfl ?_
    refine zs_ldcS hX dX13_program_506 (List.mem_of_getElem? (i := 18) rfl) ?_
    obtain ⟨r10, s8, e9, h⟩ := zci_e h
    refine zc_here hX dX13_program_509 (Nat.le_of_ble_eq_true rfl) (hc _ _ _ _ e9) (fun r9 u9 h9 => ?_)
    cases h9
    refine zs_if_ne (tgt := 525) hX dX13_program_512 (by decide) (fun c11 => ?_) (fun c11 => ?_)
    · rw [if_neg c11] at h
      exact pj_program_525 hX hc hk396 h
    · rw [if_pos c11] at h
      refine zs_aload_n hX dX13_program_515 rfl rfl ?_
      refine zs_ldcS hX dX13_program_516 (List.mem_of_getElem? (i := 2) rfl) ?_
      obtain ⟨r14, s12, e13, h⟩ := zci_e h
      refine zc_here hX dX13_program_519 (Nat.le_of_ble_eq_true rfl) (hc _ _ _ _ e13) (fun r9 u9 h9 => ?_)
      cases h9
      refine zs_if_eq (tgt := 538) hX dX13_program_522 (by decide) (fun c15 => ?_) (fun c15 => ?_)
      · rw [if_pos c15] at h
        refine zs_aload_n hX dX13_program_538 rfl rfl ?_
        obtain ⟨s16, e17, h⟩ := zcv_e h
        refine zc_form hX dX13_program_539 (Nat.le_of_ble_eq_true rfl) (hc _ _ _ _ e17) (fun u9 h9 => ?_)
        cases h9
        exact pj_program_542 hX hc hk396 h
      · rw [if_neg c15] at h
        exact pj_program_525 hX hc hk396 h
set_option maxHeartbeats 4000000 in
theorem pj_program_419 {h0 : Nat} {qs : List Nat} {ks : Nat → Nat} {n : Nat} {call : zCl} {kc : Nat → List Value → zSt → (Option Value → zSt → Prop) → Prop} {v : Option Value × zSt} {X : Nat → zLv → List Value → zSt → Prop} (hX : zSem cX13_program 4 none h0 qs ks kc (fun r u => (r, u) = v) X) (hc : ∀ j av s w, call j av s = some w → kc j av s (fun r u => (r, u) = w)) {k396 : zSt → zRs} (hk396 : ∀ (s : zSt), k396 s = some v → X 396 [some (.ref h0), none, none, none] [] s) {σ : zSt} (h : j_program_419 n call h0 qs ks k396 σ = some v) : X 419 [some (.ref h0), none, none, none] [] σ := by
  rw [j_program_419] at h
  refine zs_aload_n hX dX13_program_419 rfl rfl ?_
  refine zg_bad hX dX13_program_420 ?_
  refine zs_if_eq (tgt := 427) hX dX13_program_423 (by decide) (fun c1 => ?_) (fun c1 => ?_)
  · rw [if_pos c1] at h
    refine zs_aload_n hX dX13_program_427 rfl rfl ?_
    refine zs_dup hX dX13_program_428 rfl ?_
    refine zg_w hX dX13_program_429 ?_
    refine zs_iconst (v := 1) hX dX13_program_432 (by decide) ?_
    refine zs_iadd hX dX13_program_433 ?_
    obtain ⟨s2, e3, h⟩ := zlet_e h
    refine zp_w hX dX13_program_434 ?_
    rw [← e3]
    refine zs_aload_n hX dX13_program_437 rfl rfl ?_
    refine zg_inWord hX dX13_program_438 ?_
    refine zs_aload_n hX dX13_program_441 rfl rfl ?_
    refine zg_inputs hX dX13_program_442 ?_
    refine zs_aload_n hX dX13_program_445 rfl rfl ?_
    obtain ⟨r6, s4, e5, h⟩ := zci_e h
    refine zc_name hX dX13_program_446 (Nat.le_of_ble_eq_true rfl) (hc _ _ _ _ e5) (fun r9 u9 h9 => ?_)
    cases h9
    obtain ⟨b7, h⟩ := zgd_e h
    obtain ⟨s8, e9, h⟩ := zlet_e h
    refine zt_inWord hX dX13_program_449 (zin_ok b7) ?_
    rw [← e9]
    refine zs_aload_n hX dX13_program_450 rfl rfl ?_
    refine zs_ldcS hX dX13_program_451 (List.mem_of_getElem? (i := 5) rfl) ?_
    obtain ⟨s10, e11, h⟩ := zcv_e h
    refine zc_must hX dX13_program_454 (Nat.le_of_ble_eq_true rfl) (hc _ _ _ _ e11) (fun u9 h9 => ?_)
    cases h9
    refine zs_aload_n hX dX13_program_457 rfl rfl ?_
    refine zg_inSort hX dX13_program_458 ?_
    refine zs_aload_n hX dX13_program_461 rfl rfl ?_
    refine zg_inputs hX dX13_program_462 ?_
    refine zs_aload_n hX dX13_program_465 rfl rfl ?_
    refine zs_ldcS hX dX13_program_466 (List.mem_of_getElem? (i := 4) rfl) ?_
    obtain ⟨r14, s12, e13, h⟩ := zci_e h
    refine zc_here hX dX13_program_469 (Nat.le_of_ble_eq_true rfl) (hc _ _ _ _ e13) (fun r9 u9 h9 => ?_)
    cases h9
    refine zs_if_eq (tgt := 479) hX dX13_program_472 (by decide) (fun c15 => ?_) (fun c15 => ?_)
    · rw [if_pos c15] at h
      refine zs_aload_n hX dX13_program_479 rfl rfl ?_
      refine zs_ldcS hX dX13_program_480 (List.mem_of_getElem? (i := 18) rfl) ?_
      obtain ⟨r18, s16, e17, h⟩ := zci_e h
      refine zc_here hX dX13_program_483 (Nat.le_of_ble_eq_true rfl) (hc _ _ _ _ e17) (fun r9 u9 h9 => ?_)
      cases h9
      refine zs_if_eq (tgt := 493) hX dX13_program_486 (by decide) (fun c19 => ?_) (fun c19 => ?_)
      · rw [if_pos c19] at h
        refine zs_iconst (v := 2) hX dX13_program_493 (by decide) ?_
        exact pj_program_494 hX hc hk396 h
      · rw [if_neg c19] at h
        refine zs_iconst (v := 1) hX dX13_program_489 (by decide) ?_
        refine zs_goto (tgt := 494) hX dX13_program_490 (by decide) ?_
        exact pj_program_494 hX hc hk396 h
    · rw [if_neg c15] at h
      refine zs_iconst (v := 0) hX dX13_program_475 (by decide) ?_
      refine zs_goto (tgt := 494) hX dX13_program_476 (by decide) ?_
      exact pj_program_494 hX hc hk396 h
  · rw [if_neg c1] at h
    exact zs_vret hX dX13_program_426 rfl (Option.some.inj h)
set_option maxHeartbeats 4000000 in
theorem pl_program_396 {h0 : Nat} {qs : List Nat} {ks : Nat → Nat} {n : Nat} {call : zCl} {kc : Nat → List Value → zSt → (Option Value → zSt → Prop) → Prop} {v : Option Value × zSt} {X : Nat → zLv → List Value → zSt → Prop} (hX : zSem cX13_program 4 none h0 qs ks kc (fun r u => (r, u) = v) X) (hc : ∀ j av s w, call j av s = some w → kc j av s (fun r u => (r, u) = w)) : ∀ (f : Nat) (σ : zSt), l_program_396 n call h0 qs ks f σ = some v → X 396 [some (.ref h0), none, none, none] [] σ := by
  intro f
  induction f with
  | zero => intro  σ h; cases h
  | succ f hk396 =>
    intro  σ h
    rw [l_program_396] at h
    refine zs_aload_n hX dX13_program_396 rfl rfl ?_
    refine zs_ldcS hX dX13_program_397 (List.mem_of_getElem? (i := 17) rfl) ?_
    obtain ⟨r3, s1, e2, h⟩ := zci_e h
    refine zc_here hX dX13_program_400 (Nat.le_of_ble_eq_true rfl) (hc _ _ _ _ e2) (fun r9 u9 h9 => ?_)
    cases h9
    refine zs_if_eq (tgt := 562) hX dX13_program_403 (by decide) (fun c4 => ?_) (fun c4 => ?_)
    · rw [if_pos c4] at h
      refine zs_aload_n hX dX13_program_562 rfl rfl ?_
      refine zs_aload_n hX dX13_program_563 rfl rfl ?_
      obtain ⟨r7, s5, e6, h⟩ := zci_e h
      refine zc_expression hX dX13_program_564 (Nat.le_of_ble_eq_true rfl) (hc _ _ _ _ e6) (fun r9 u9 h9 => ?_)
      cases h9
      obtain ⟨s8, e9, h⟩ := zlet_e h
      refine zp_root hX dX13_program_567 ?_
      rw [← e9]
      refine zs_aload_n hX dX13_program_570 rfl rfl ?_
      refine zg_bad hX dX13_program_571 ?_
      refine zs_if_ne (tgt := 593) hX dX13_program_574 (by decide) (fun c10 => ?_) (fun c10 => ?_)
      · rw [if_neg c10] at h
        exact zs_vret hX dX13_program_593 rfl (Option.some.inj h)
      · rw [if_pos c10] at h
        refine zs_aload_n hX dX13_program_577 rfl rfl ?_
        refine zg_wKind hX dX13_program_578 ?_
        refine zs_aload_n hX dX13_program_581 rfl rfl ?_
        refine zg_w hX dX13_program_582 ?_
        obtain ⟨b11, h⟩ := zgd_e h
        refine zl_wKind hX dX13_program_585 (zin_ok b11) ?_
        refine zs_if_eq (tgt := 593) hX dX13_program_586 (by decide) (fun c12 => ?_) (fun c12 => ?_)
        · rw [if_pos c12] at h
          exact zs_vret hX dX13_program_593 rfl (Option.some.inj h)
        · rw [if_neg c12] at h
          refine zs_aload_n hX dX13_program_589 rfl rfl ?_
          obtain ⟨s13, e14, h⟩ := zcv_e h
          refine zc_form hX dX13_program_590 (Nat.le_of_ble_eq_true rfl) (hc _ _ _ _ e14) (fun u9 h9 => ?_)
          cases h9
          exact zs_vret hX dX13_program_593 rfl (Option.some.inj h)
    · rw [if_neg c4] at h
      refine zs_aload_n hX dX13_program_406 rfl rfl ?_
      refine zg_inputs hX dX13_program_407 ?_
      refine zs_bipush (v := 6) hX dX13_program_410 (by decide) ?_
      refine zs_icmp_ne (tgt := 419) hX dX13_program_412 (by decide) (fun c15 => ?_) (fun c15 => ?_)
      · rw [if_neg c15] at h
        exact pj_program_419 hX hc hk396 h
      · rw [if_pos c15] at h
        refine zs_aload_n hX dX13_program_415 rfl rfl ?_
        obtain ⟨s16, e17, h⟩ := zcv_e h
        refine zc_form hX dX13_program_416 (Nat.le_of_ble_eq_true rfl) (hc _ _ _ _ e17) (fun u9 h9 => ?_)
        cases h9
        exact pj_program_419 hX hc hk396 h
set_option maxHeartbeats 4000000 in
theorem pj_program_376 {h0 : Nat} {qs : List Nat} {ks : Nat → Nat} {n : Nat} {call : zCl} {kc : Nat → List Value → zSt → (Option Value → zSt → Prop) → Prop} {v : Option Value × zSt} {X : Nat → zLv → List Value → zSt → Prop} (hX : zSem cX13_program 4 none h0 qs ks kc (fun r u => (r, u) = v) X) (hc : ∀ j av s w, call j av s = some w → kc j av s (fun r u => (r, u) = w)) {k35 : zSt → zRs} (hk35 : ∀ (s : zSt), k35 s = some v → X 35 [some (.ref h0), none, none, none] [] s) {σ : zSt} (h : j_program_376 n call h0 qs ks k35 σ = some v) : X 376 [some (.ref h0), none, none, none] [] σ := by
  rw [j_program_376] at h
  refine zs_aload_n hX dX13_program_376 rfl rfl ?_
  refine zs_ldcS hX dX13_program_377 (List.mem_of_getElem? (i := 16) rfl) ?_
  obtain ⟨s1, e2, h⟩ := zcv_e h
  refine zc_must hX dX13_program_380 (Nat.le_of_ble_eq_true rfl) (hc _ _ _ _ e2) (fun u9 h9 => ?_)
  cases h9
  refine zs_aload_n hX dX13_program_383 rfl rfl ?_
  refine zs_dup hX dX13_program_384 rfl ?_
  refine zg_quals hX dX13_program_385 ?_
  refine zs_iconst (v := 1) hX dX13_program_388 (by decide) ?_
  refine zs_iadd hX dX13_program_389 ?_
  obtain ⟨s3, e4, h⟩ := zlet_e h
  refine zp_quals hX dX13_program_390 ?_
  rw [← e4]
  refine zs_goto (tgt := 35) hX dX13_program_393 (by decide) ?_
  exact hk35 _ h
set_option maxHeartbeats 4000000 in
theorem pj_program_375 {h0 : Nat} {qs : List Nat} {ks : Nat → Nat} {n : Nat} {call : zCl} {kc : Nat → List Value → zSt → (Option Value → zSt → Prop) → Prop} {v : Option Value × zSt} {X : Nat → zLv → List Value → zSt → Prop} (hX : zSem cX13_program 4 none h0 qs ks kc (fun r u => (r, u) = v) X) (hc : ∀ j av s w, call j av s = some w → kc j av s (fun r u => (r, u) = w)) {k35 : zSt → zRs} (hk35 : ∀ (s : zSt), k35 s = some v → X 35 [some (.ref h0), none, none, none] [] s) {t1 : Int32} {t2 : Int32} {σ : zSt} (h : j_program_375 n call h0 qs ks k35 t1 t2 σ = some v) : X 375 [some (.ref h0), none, none, none] [.int t2, .int t1, .ref (qs.getD 26 0)] σ := by
  rw [j_program_375] at h
  obtain ⟨b1, h⟩ := zgd_e h
  obtain ⟨s2, e3, h⟩ := zlet_e h
  refine zt_qNumber hX dX13_program_375 (zin_ok b1) ?_
  rw [← e3]
  exact pj_program_376 hX hc hk35 h
set_option maxHeartbeats 4000000 in
theorem pj_program_340 {h0 : Nat} {qs : List Nat} {ks : Nat → Nat} {n : Nat} {call : zCl} {kc : Nat → List Value → zSt → (Option Value → zSt → Prop) → Prop} {v : Option Value × zSt} {X : Nat → zLv → List Value → zSt → Prop} (hX : zSem cX13_program 4 none h0 qs ks kc (fun r u => (r, u) = v) X) (hc : ∀ j av s w, call j av s = some w → kc j av s (fun r u => (r, u) = w)) {k35 : zSt → zRs} (hk35 : ∀ (s : zSt), k35 s = some v → X 35 [some (.ref h0), none, none, none] [] s) {σ : zSt} (h : j_program_340 n call h0 qs ks k35 σ = some v) : X 340 [some (.ref h0), none, none, none] [] σ := by
  rw [j_program_340] at h
  refine zs_goto (tgt := 376) hX dX13_program_340 (by decide) ?_
  exact pj_program_376 hX hc hk35 h
set_option maxHeartbeats 4000000 in
theorem pj_program_339 {h0 : Nat} {qs : List Nat} {ks : Nat → Nat} {n : Nat} {call : zCl} {kc : Nat → List Value → zSt → (Option Value → zSt → Prop) → Prop} {v : Option Value × zSt} {X : Nat → zLv → List Value → zSt → Prop} (hX : zSem cX13_program 4 none h0 qs ks kc (fun r u => (r, u) = v) X) (hc : ∀ j av s w, call j av s = some w → kc j av s (fun r u => (r, u) = w)) {k35 : zSt → zRs} (hk35 : ∀ (s : zSt), k35 s = some v → X 35 [some (.ref h0), none, none, none] [] s) {t1 : Int32} {t2 : Int32} {σ : zSt} (h : j_program_339 n call h0 qs ks k35 t1 t2 σ = some v) : X 339 [some (.ref h0), none, none, none] [.int t2, .int t1, .ref (qs.getD 26 0)] σ := by
  rw [j_program_339] at h
  obtain ⟨b1, h⟩ := zgd_e h
  obtain ⟨s2, e3, h⟩ := zlet_e h
  refine zt_qNumber hX dX13_program_339 (zin_ok b1) ?_
  rw [← e3]
  exact pj_program_340 hX hc hk35 h
set_option maxHeartbeats 4000000 in
theorem pj_program_306 {h0 : Nat} {qs : List Nat} {ks : Nat → Nat} {n : Nat} {call : zCl} {kc : Nat → List Value → zSt → (Option Value → zSt → Prop) → Prop} {v : Option Value × zSt} {X : Nat → zLv → List Value → zSt → Prop} (hX : zSem cX13_program 4 none h0 qs ks kc (fun r u => (r, u) = v) X) (hc : ∀ j av s w, call j av s = some w → kc j av s (fun r u => (r, u) = w)) {k35 : zSt → zRs} (hk35 : ∀ (s : zSt), k35 s = some v → X 35 [some (.ref h0), none, none, none] [] s) {x2 : Int32} {σ : zSt} (h : j_program_306 n call h0 qs ks k35 x2 σ = some v) : X 306 [some (.ref h0), none, some (.int x2), none] [] σ := by
  rw [j_program_306] at h
  refine zs_aload_n hX dX13_program_306 rfl rfl ?_
  refine zs_dup hX dX13_program_307 rfl ?_
  refine zg_w hX dX13_program_308 ?_
  refine zs_iconst (v := 1) hX dX13_program_311 (by decide) ?_
  refine zs_iadd hX dX13_program_312 ?_
  obtain ⟨s1, e2, h⟩ := zlet_e h
  refine zp_w hX dX13_program_313 ?_
  rw [← e2]
  refine zs_aload_n hX dX13_program_316 rfl rfl ?_
  obtain ⟨r5, s3, e4, h⟩ := zci_e h
  refine zc_number hX dX13_program_317 (Nat.le_of_ble_eq_true rfl) (hc _ _ _ _ e4) (fun r9 u9 h9 => ?_)
  cases h9
  refine zs_istore_n hX dX13_program_320 rfl (by decide) rfl ?_
  dsimp only [List.set]
  refine zs_aload_n hX dX13_program_321 rfl rfl ?_
  refine zg_qNumber hX dX13_program_322 ?_
  refine zs_aload_n hX dX13_program_325 rfl rfl ?_
  refine zg_quals hX dX13_program_326 ?_
  refine zs_iload_n hX dX13_program_329 rfl rfl ?_
  refine zs_if_eq (tgt := 338) hX dX13_program_330 (by decide) (fun c6 => ?_) (fun c6 => ?_)
  · rw [if_pos c6] at h
    refine zs_iload_n hX dX13_program_338 rfl rfl ?_
    refine zs_weak hX (lw := [some (.ref h0), none, none, none]) ⟨rfl, trivial⟩ ?_
    exact pj_program_339 hX hc hk35 h
  · rw [if_neg c6] at h
    refine zs_iload_n hX dX13_program_333 rfl rfl ?_
    refine zs_ineg hX dX13_program_334 ?_
    refine zs_goto (tgt := 339) hX dX13_program_335 (by decide) ?_
    refine zs_weak hX (lw := [some (.ref h0), none, none, none]) ⟨rfl, trivial⟩ ?_
    exact pj_program_339 hX hc hk35 h
set_option maxHeartbeats 4000000 in
theorem pj_program_260 {h0 : Nat} {qs : List Nat} {ks : Nat → Nat} {n : Nat} {call : zCl} {kc : Nat → List Value → zSt → (Option Value → zSt → Prop) → Prop} {v : Option Value × zSt} {X : Nat → zLv → List Value → zSt → Prop} (hX : zSem cX13_program 4 none h0 qs ks kc (fun r u => (r, u) = v) X) (hc : ∀ j av s w, call j av s = some w → kc j av s (fun r u => (r, u) = w)) {k35 : zSt → zRs} (hk35 : ∀ (s : zSt), k35 s = some v → X 35 [some (.ref h0), none, none, none] [] s) {t1 : Int32} {t2 : Int32} {σ : zSt} (h : j_program_260 n call h0 qs ks k35 t1 t2 σ = some v) : X 260 [some (.ref h0), none, none, none] [.int t2, .int t1, .ref (qs.getD 25 0)] σ := by
  rw [j_program_260] at h
  obtain ⟨b1, h⟩ := zgd_e h
  obtain ⟨s2, e3, h⟩ := zlet_e h
  refine zt_qStar hX dX13_program_260 (zin_ok b1) ?_
  rw [← e3]
  refine zs_aload_n hX dX13_program_261 rfl rfl ?_
  refine zg_qNumber hX dX13_program_262 ?_
  refine zs_aload_n hX dX13_program_265 rfl rfl ?_
  refine zg_quals hX dX13_program_266 ?_
  refine zs_iconst (v := 0) hX dX13_program_269 (by decide) ?_
  obtain ⟨b4, h⟩ := zgd_e h
  obtain ⟨s5, e6, h⟩ := zlet_e h
  refine zt_qNumber hX dX13_program_270 (zin_ok b4) ?_
  rw [← e6]
  refine zs_aload_n hX dX13_program_271 rfl rfl ?_
  refine zg_qStar hX dX13_program_272 ?_
  refine zs_aload_n hX dX13_program_275 rfl rfl ?_
  refine zg_quals hX dX13_program_276 ?_
  obtain ⟨b7, h⟩ := zgd_e h
  refine zl_qStar hX dX13_program_279 (zin_ok b7) ?_
  refine zs_iconst (v := 1) hX dX13_program_280 (by decide) ?_
  refine zs_icmp_ne (tgt := 343) hX dX13_program_281 (by decide) (fun c8 => ?_) (fun c8 => ?_)
  · rw [if_neg c8] at h
    refine zs_aload_n hX dX13_program_343 rfl rfl ?_
    obtain ⟨r11, s9, e10, h⟩ := zci_e h
    refine zc_number hX dX13_program_344 (Nat.le_of_ble_eq_true rfl) (hc _ _ _ _ e10) (fun r9 u9 h9 => ?_)
    cases h9
    refine zs_istore_n hX dX13_program_347 rfl (by decide) rfl ?_
    dsimp only [List.set]
    refine zs_aload_n hX dX13_program_348 rfl rfl ?_
    refine zg_qNumber hX dX13_program_349 ?_
    refine zs_aload_n hX dX13_program_352 rfl rfl ?_
    refine zg_quals hX dX13_program_353 ?_
    refine zs_aload_n hX dX13_program_356 rfl rfl ?_
    refine zg_qMinus hX dX13_program_357 ?_
    refine zs_aload_n hX dX13_program_360 rfl rfl ?_
    refine zg_quals hX dX13_program_361 ?_
    obtain ⟨b12, h⟩ := zgd_e h
    refine zl_qMinus hX dX13_program_364 (zin_ok b12) ?_
    refine zs_iconst (v := 1) hX dX13_program_365 (by decide) ?_
    refine zs_icmp_ne (tgt := 374) hX dX13_program_366 (by decide) (fun c13 => ?_) (fun c13 => ?_)
    · rw [if_neg c13] at h
      refine zs_iload_n hX dX13_program_374 rfl rfl ?_
      refine zs_weak hX (lw := [some (.ref h0), none, none, none]) ⟨rfl, trivial⟩ ?_
      exact pj_program_375 hX hc hk35 h
    · rw [if_pos c13] at h
      refine zs_iload_n hX dX13_program_369 rfl rfl ?_
      refine zs_ineg hX dX13_program_370 ?_
      refine zs_goto (tgt := 375) hX dX13_program_371 (by decide) ?_
      refine zs_weak hX (lw := [some (.ref h0), none, none, none]) ⟨rfl, trivial⟩ ?_
      exact pj_program_375 hX hc hk35 h
  · rw [if_pos c8] at h
    refine zs_aload_n hX dX13_program_284 rfl rfl ?_
    refine zs_ldcS hX dX13_program_285 (List.mem_of_getElem? (i := 13) rfl) ?_
    obtain ⟨r16, s14, e15, h⟩ := zci_e h
    refine zc_here hX dX13_program_288 (Nat.le_of_ble_eq_true rfl) (hc _ _ _ _ e15) (fun r9 u9 h9 => ?_)
    cases h9
    refine zs_istore_n hX dX13_program_291 rfl (by decide) rfl ?_
    dsimp only [List.set]
    refine zs_iload_n hX dX13_program_292 rfl rfl ?_
    refine zs_if_ne (tgt := 306) hX dX13_program_293 (by decide) (fun c17 => ?_) (fun c17 => ?_)
    · rw [if_neg c17] at h
      exact pj_program_306 hX hc hk35 h
    · rw [if_pos c17] at h
      refine zs_aload_n hX dX13_program_296 rfl rfl ?_
      refine zs_ldcS hX dX13_program_297 (List.mem_of_getElem? (i := 15) rfl) ?_
      obtain ⟨r20, s18, e19, h⟩ := zci_e h
      refine zc_here hX dX13_program_300 (Nat.le_of_ble_eq_true rfl) (hc _ _ _ _ e19) (fun r9 u9 h9 => ?_)
      cases h9
      refine zs_if_eq (tgt := 340) hX dX13_program_303 (by decide) (fun c21 => ?_) (fun c21 => ?_)
      · rw [if_pos c21] at h
        refine zs_weak hX (lw := [some (.ref h0), none, none, none]) ⟨rfl, trivial⟩ ?_
        exact pj_program_340 hX hc hk35 h
      · rw [if_neg c21] at h
        exact pj_program_306 hX hc hk35 h
set_option maxHeartbeats 4000000 in
theorem pj_program_236 {h0 : Nat} {qs : List Nat} {ks : Nat → Nat} {n : Nat} {call : zCl} {kc : Nat → List Value → zSt → (Option Value → zSt → Prop) → Prop} {v : Option Value × zSt} {X : Nat → zLv → List Value → zSt → Prop} (hX : zSem cX13_program 4 none h0 qs ks kc (fun r u => (r, u) = v) X) (hc : ∀ j av s w, call j av s = some w → kc j av s (fun r u => (r, u) = w)) {k35 : zSt → zRs} (hk35 : ∀ (s : zSt), k35 s = some v → X 35 [some (.ref h0), none, none, none] [] s) {t1 : Int32} {t2 : Int32} {σ : zSt} (h : j_program_236 n call h0 qs ks k35 t1 t2 σ = some v) : X 236 [some (.ref h0), none, none, none] [.int t2, .int t1, .ref (qs.getD 24 0)] σ := by
  rw [j_program_236] at h
  obtain ⟨b1, h⟩ := zgd_e h
  obtain ⟨s2, e3, h⟩ := zlet_e h
  refine zt_qMinus hX dX13_program_236 (zin_ok b1) ?_
  rw [← e3]
  refine zs_aload_n hX dX13_program_237 rfl rfl ?_
  refine zg_qStar hX dX13_program_238 ?_
  refine zs_aload_n hX dX13_program_241 rfl rfl ?_
  refine zg_quals hX dX13_program_242 ?_
  refine zs_aload_n hX dX13_program_245 rfl rfl ?_
  refine zs_ldcS hX dX13_program_246 (List.mem_of_getElem? (i := 14) rfl) ?_
  obtain ⟨r6, s4, e5, h⟩ := zci_e h
  refine zc_skip hX dX13_program_249 (Nat.le_of_ble_eq_true rfl) (hc _ _ _ _ e5) (fun r9 u9 h9 => ?_)
  cases h9
  refine zs_if_eq (tgt := 259) hX dX13_program_252 (by decide) (fun c7 => ?_) (fun c7 => ?_)
  · rw [if_pos c7] at h
    refine zs_iconst (v := 0) hX dX13_program_259 (by decide) ?_
    exact pj_program_260 hX hc hk35 h
  · rw [if_neg c7] at h
    refine zs_iconst (v := 1) hX dX13_program_255 (by decide) ?_
    refine zs_goto (tgt := 260) hX dX13_program_256 (by decide) ?_
    exact pj_program_260 hX hc hk35 h
set_option maxHeartbeats 4000000 in
theorem pj_program_193 {h0 : Nat} {qs : List Nat} {ks : Nat → Nat} {n : Nat} {call : zCl} {kc : Nat → List Value → zSt → (Option Value → zSt → Prop) → Prop} {v : Option Value × zSt} {X : Nat → zLv → List Value → zSt → Prop} (hX : zSem cX13_program 4 none h0 qs ks kc (fun r u => (r, u) = v) X) (hc : ∀ j av s w, call j av s = some w → kc j av s (fun r u => (r, u) = w)) {k35 : zSt → zRs} (hk35 : ∀ (s : zSt), k35 s = some v → X 35 [some (.ref h0), none, none, none] [] s) {x1 : Int32} {σ : zSt} (h : j_program_193 n call h0 qs ks k35 x1 σ = some v) : X 193 [some (.ref h0), some (.int x1), none, none] [] σ := by
  rw [j_program_193] at h
  refine zs_aload_n hX dX13_program_193 rfl rfl ?_
  refine zs_dup hX dX13_program_194 rfl ?_
  refine zg_w hX dX13_program_195 ?_
  refine zs_iconst (v := 1) hX dX13_program_198 (by decide) ?_
  refine zs_iadd hX dX13_program_199 ?_
  obtain ⟨s1, e2, h⟩ := zlet_e h
  refine zp_w hX dX13_program_200 ?_
  rw [← e2]
  refine zs_aload_n hX dX13_program_203 rfl rfl ?_
  refine zg_qRel hX dX13_program_204 ?_
  refine zs_aload_n hX dX13_program_207 rfl rfl ?_
  refine zg_quals hX dX13_program_208 ?_
  refine zs_iload_n hX dX13_program_211 rfl rfl ?_
  obtain ⟨b3, h⟩ := zgd_e h
  obtain ⟨s4, e5, h⟩ := zlet_e h
  refine zt_qRel hX dX13_program_212 (zin_ok b3) ?_
  rw [← e5]
  refine zs_aload_n hX dX13_program_213 rfl rfl ?_
  refine zg_qMinus hX dX13_program_214 ?_
  refine zs_aload_n hX dX13_program_217 rfl rfl ?_
  refine zg_quals hX dX13_program_218 ?_
  refine zs_aload_n hX dX13_program_221 rfl rfl ?_
  refine zs_ldcS hX dX13_program_222 (List.mem_of_getElem? (i := 13) rfl) ?_
  obtain ⟨r8, s6, e7, h⟩ := zci_e h
  refine zc_skip hX dX13_program_225 (Nat.le_of_ble_eq_true rfl) (hc _ _ _ _ e7) (fun r9 u9 h9 => ?_)
  cases h9
  refine zs_if_eq (tgt := 235) hX dX13_program_228 (by decide) (fun c9 => ?_) (fun c9 => ?_)
  · rw [if_pos c9] at h
    refine zs_iconst (v := 0) hX dX13_program_235 (by decide) ?_
    refine zs_weak hX (lw := [some (.ref h0), none, none, none]) ⟨rfl, trivial⟩ ?_
    exact pj_program_236 hX hc hk35 h
  · rw [if_neg c9] at h
    refine zs_iconst (v := 1) hX dX13_program_231 (by decide) ?_
    refine zs_goto (tgt := 236) hX dX13_program_232 (by decide) ?_
    refine zs_weak hX (lw := [some (.ref h0), none, none, none]) ⟨rfl, trivial⟩ ?_
    exact pj_program_236 hX hc hk35 h
set_option maxHeartbeats 4000000 in
theorem pj_program_189 {h0 : Nat} {qs : List Nat} {ks : Nat → Nat} {n : Nat} {call : zCl} {kc : Nat → List Value → zSt → (Option Value → zSt → Prop) → Prop} {v : Option Value × zSt} {X : Nat → zLv → List Value → zSt → Prop} (hX : zSem cX13_program 4 none h0 qs ks kc (fun r u => (r, u) = v) X) (hc : ∀ j av s w, call j av s = some w → kc j av s (fun r u => (r, u) = w)) {k35 : zSt → zRs} (hk35 : ∀ (s : zSt), k35 s = some v → X 35 [some (.ref h0), none, none, none] [] s) {x1 : Int32} {σ : zSt} (h : j_program_189 n call h0 qs ks k35 x1 σ = some v) : X 189 [some (.ref h0), some (.int x1), none, none] [] σ := by
  rw [j_program_189] at h
  refine zs_aload_n hX dX13_program_189 rfl rfl ?_
  obtain ⟨s1, e2, h⟩ := zcv_e h
  refine zc_form hX dX13_program_190 (Nat.le_of_ble_eq_true rfl) (hc _ _ _ _ e2) (fun u9 h9 => ?_)
  cases h9
  exact pj_program_193 hX hc hk35 h
set_option maxHeartbeats 4000000 in
theorem pj_program_161 {h0 : Nat} {qs : List Nat} {ks : Nat → Nat} {n : Nat} {call : zCl} {kc : Nat → List Value → zSt → (Option Value → zSt → Prop) → Prop} {v : Option Value × zSt} {X : Nat → zLv → List Value → zSt → Prop} (hX : zSem cX13_program 4 none h0 qs ks kc (fun r u => (r, u) = v) X) (hc : ∀ j av s w, call j av s = some w → kc j av s (fun r u => (r, u) = w)) {k35 : zSt → zRs} (hk35 : ∀ (s : zSt), k35 s = some v → X 35 [some (.ref h0), none, none, none] [] s) {σ : zSt} (h : j_program_161 n call h0 qs ks k35 σ = some v) : X 161 [some (.ref h0), none, none, none] [] σ := by
  rw [j_program_161] at h
  refine zs_aload_n hX dX13_program_161 rfl rfl ?_
  refine zs_ldcS hX dX13_program_162 (List.mem_of_getElem? (i := 5) rfl) ?_
  obtain ⟨s1, e2, h⟩ := zcv_e h
  refine zc_must hX dX13_program_165 (Nat.le_of_ble_eq_true rfl) (hc _ _ _ _ e2) (fun u9 h9 => ?_)
  cases h9
  refine zs_aload_n hX dX13_program_168 rfl rfl ?_
  refine zs_ldcS hX dX13_program_169 (List.mem_of_getElem? (i := 6) rfl) ?_
  obtain ⟨s3, e4, h⟩ := zcv_e h
  refine zc_must hX dX13_program_172 (Nat.le_of_ble_eq_true rfl) (hc _ _ _ _ e4) (fun u9 h9 => ?_)
  cases h9
  refine zs_aload_n hX dX13_program_175 rfl rfl ?_
  obtain ⟨r7, s5, e6, h⟩ := zci_e h
  refine zc_relation hX dX13_program_176 (Nat.le_of_ble_eq_true rfl) (hc _ _ _ _ e6) (fun r9 u9 h9 => ?_)
  cases h9
  refine zs_istore_n hX dX13_program_179 rfl (by decide) rfl ?_
  dsimp only [List.set]
  refine zs_iload_n hX dX13_program_180 rfl rfl ?_
  refine zs_if_lt (tgt := 189) hX dX13_program_181 (by decide) (fun c8 => ?_) (fun c8 => ?_)
  · rw [if_pos c8] at h
    exact pj_program_189 hX hc hk35 h
  · rw [if_neg c8] at h
    refine zs_iload_n hX dX13_program_184 rfl rfl ?_
    refine zs_iconst (v := 5) hX dX13_program_185 (by decide) ?_
    refine zs_icmp_ne (tgt := 193) hX dX13_program_186 (by decide) (fun c9 => ?_) (fun c9 => ?_)
    · rw [if_neg c9] at h
      exact pj_program_193 hX hc hk35 h
    · rw [if_pos c9] at h
      exact pj_program_189 hX hc hk35 h
set_option maxHeartbeats 4000000 in
theorem pj_program_144 {h0 : Nat} {qs : List Nat} {ks : Nat → Nat} {n : Nat} {call : zCl} {kc : Nat → List Value → zSt → (Option Value → zSt → Prop) → Prop} {v : Option Value × zSt} {X : Nat → zLv → List Value → zSt → Prop} (hX : zSem cX13_program 4 none h0 qs ks kc (fun r u => (r, u) = v) X) (hc : ∀ j av s w, call j av s = some w → kc j av s (fun r u => (r, u) = w)) {k35 : zSt → zRs} (hk35 : ∀ (s : zSt), k35 s = some v → X 35 [some (.ref h0), none, none, none] [] s) {σ : zSt} (h : j_program_144 n call h0 qs ks k35 σ = some v) : X 144 [some (.ref h0), none, none, none] [] σ := by
  rw [j_program_144] at h
  refine zs_aload_n hX dX13_program_144 rfl rfl ?_
  refine zs_dup hX dX13_program_145 rfl ?_
  refine zg_w hX dX13_program_146 ?_
  refine zs_iconst (v := 1) hX dX13_program_149 (by decide) ?_
  refine zs_iadd hX dX13_program_150 ?_
  obtain ⟨s1, e2, h⟩ := zlet_e h
  refine zp_w hX dX13_program_151 ?_
  rw [← e2]
  refine zs_goto (tgt := 161) hX dX13_program_154 (by decide) ?_
  exact pj_program_161 hX hc hk35 h
set_option maxHeartbeats 4000000 in
theorem pj_program_113 {h0 : Nat} {qs : List Nat} {ks : Nat → Nat} {n : Nat} {call : zCl} {kc : Nat → List Value → zSt → (Option Value → zSt → Prop) → Prop} {v : Option Value × zSt} {X : Nat → zLv → List Value → zSt → Prop} (hX : zSem cX13_program 4 none h0 qs ks kc (fun r u => (r, u) = v) X) (hc : ∀ j av s w, call j av s = some w → kc j av s (fun r u => (r, u) = w)) {k35 : zSt → zRs} (hk35 : ∀ (s : zSt), k35 s = some v → X 35 [some (.ref h0), none, none, none] [] s) {t1 : Int32} {t2 : Int32} {σ : zSt} (h : j_program_113 n call h0 qs ks k35 t1 t2 σ = some v) : X 113 [some (.ref h0), none, none, none] [.int t2, .int t1, .ref (qs.getD 22 0)] σ := by
  rw [j_program_113] at h
  obtain ⟨b1, h⟩ := zgd_e h
  obtain ⟨s2, e3, h⟩ := zlet_e h
  refine zt_qSort hX dX13_program_113 (zin_ok b1) ?_
  rw [← e3]
  refine zs_aload_n hX dX13_program_114 rfl rfl ?_
  refine zs_ldcS hX dX13_program_115 (List.mem_of_getElem? (i := 4) rfl) ?_
  obtain ⟨r6, s4, e5, h⟩ := zci_e h
  refine zc_here hX dX13_program_118 (Nat.le_of_ble_eq_true rfl) (hc _ _ _ _ e5) (fun r9 u9 h9 => ?_)
  cases h9
  refine zs_if_ne (tgt := 144) hX dX13_program_121 (by decide) (fun c7 => ?_) (fun c7 => ?_)
  · rw [if_neg c7] at h
    exact pj_program_144 hX hc hk35 h
  · rw [if_pos c7] at h
    refine zs_aload_n hX dX13_program_124 rfl rfl ?_
    refine zs_ldcS hX dX13_program_125 (List.mem_of_getElem? (i := 2) rfl) ?_
    obtain ⟨r10, s8, e9, h⟩ := zci_e h
    refine zc_here hX dX13_program_128 (Nat.le_of_ble_eq_true rfl) (hc _ _ _ _ e9) (fun r9 u9 h9 => ?_)
    cases h9
    refine zs_if_ne (tgt := 144) hX dX13_program_131 (by decide) (fun c11 => ?_) (fun c11 => ?_)
    · rw [if_neg c11] at h
      exact pj_program_144 hX hc hk35 h
    · rw [if_pos c11] at h
      refine zs_aload_n hX dX13_program_134 rfl rfl ?_
      refine zs_ldcS hX dX13_program_135 (List.mem_of_getElem? (i := 3) rfl) ?_
      obtain ⟨r14, s12, e13, h⟩ := zci_e h
      refine zc_here hX dX13_program_138 (Nat.le_of_ble_eq_true rfl) (hc _ _ _ _ e13) (fun r9 u9 h9 => ?_)
      cases h9
      refine zs_if_eq (tgt := 157) hX dX13_program_141 (by decide) (fun c15 => ?_) (fun c15 => ?_)
      · rw [if_pos c15] at h
        refine zs_aload_n hX dX13_program_157 rfl rfl ?_
        obtain ⟨s16, e17, h⟩ := zcv_e h
        refine zc_form hX dX13_program_158 (Nat.le_of_ble_eq_true rfl) (hc _ _ _ _ e17) (fun u9 h9 => ?_)
        cases h9
        exact pj_program_161 hX hc hk35 h
      · rw [if_neg c15] at h
        exact pj_program_144 hX hc hk35 h
set_option maxHeartbeats 4000000 in
theorem pj_program_58 {h0 : Nat} {qs : List Nat} {ks : Nat → Nat} {n : Nat} {call : zCl} {kc : Nat → List Value → zSt → (Option Value → zSt → Prop) → Prop} {v : Option Value × zSt} {X : Nat → zLv → List Value → zSt → Prop} (hX : zSem cX13_program 4 none h0 qs ks kc (fun r u => (r, u) = v) X) (hc : ∀ j av s w, call j av s = some w → kc j av s (fun r u => (r, u) = w)) {k35 : zSt → zRs} (hk35 : ∀ (s : zSt), k35 s = some v → X 35 [some (.ref h0), none, none, none] [] s) {σ : zSt} (h : j_program_58 n call h0 qs ks k35 σ = some v) : X 58 [some (.ref h0), none, none, none] [] σ := by
  rw [j_program_58] at h
  refine zs_aload_n hX dX13_program_58 rfl rfl ?_
  refine zg_bad hX dX13_program_59 ?_
  refine zs_if_eq (tgt := 66) hX dX13_program_62 (by decide) (fun c1 => ?_) (fun c1 => ?_)
  · rw [if_pos c1] at h
    refine zs_aload_n hX dX13_program_66 rfl rfl ?_
    refine zs_dup hX dX13_program_67 rfl ?_
    refine zg_w hX dX13_program_68 ?_
    refine zs_iconst (v := 1) hX dX13_program_71 (by decide) ?_
    refine zs_iadd hX dX13_program_72 ?_
    obtain ⟨s2, e3, h⟩ := zlet_e h
    refine zp_w hX dX13_program_73 ?_
    rw [← e3]
    refine zs_aload_n hX dX13_program_76 rfl rfl ?_
    refine zg_qSort hX dX13_program_77 ?_
    refine zs_aload_n hX dX13_program_80 rfl rfl ?_
    refine zg_quals hX dX13_program_81 ?_
    refine zs_aload_n hX dX13_program_84 rfl rfl ?_
    refine zs_ldcS hX dX13_program_85 (List.mem_of_getElem? (i := 2) rfl) ?_
    obtain ⟨r6, s4, e5, h⟩ := zci_e h
    refine zc_here hX dX13_program_88 (Nat.le_of_ble_eq_true rfl) (hc _ _ _ _ e5) (fun r9 u9 h9 => ?_)
    cases h9
    refine zs_if_eq (tgt := 98) hX dX13_program_91 (by decide) (fun c7 => ?_) (fun c7 => ?_)
    · rw [if_pos c7] at h
      refine zs_aload_n hX dX13_program_98 rfl rfl ?_
      refine zs_ldcS hX dX13_program_99 (List.mem_of_getElem? (i := 3) rfl) ?_
      obtain ⟨r10, s8, e9, h⟩ := zci_e h
      refine zc_here hX dX13_program_102 (Nat.le_of_ble_eq_true rfl) (hc _ _ _ _ e9) (fun r9 u9 h9 => ?_)
      cases h9
      refine zs_if_eq (tgt := 112) hX dX13_program_105 (by decide) (fun c11 => ?_) (fun c11 => ?_)
      · rw [if_pos c11] at h
        refine zs_iconst (v := 0) hX dX13_program_112 (by decide) ?_
        exact pj_program_113 hX hc hk35 h
      · rw [if_neg c11] at h
        refine zs_iconst (v := 2) hX dX13_program_108 (by decide) ?_
        refine zs_goto (tgt := 113) hX dX13_program_109 (by decide) ?_
        exact pj_program_113 hX hc hk35 h
    · rw [if_neg c7] at h
      refine zs_iconst (v := 1) hX dX13_program_94 (by decide) ?_
      refine zs_goto (tgt := 113) hX dX13_program_95 (by decide) ?_
      exact pj_program_113 hX hc hk35 h
  · rw [if_neg c1] at h
    exact zs_vret hX dX13_program_65 rfl (Option.some.inj h)
set_option maxHeartbeats 4000000 in
theorem pl_program_35 {h0 : Nat} {qs : List Nat} {ks : Nat → Nat} {n : Nat} {call : zCl} {kc : Nat → List Value → zSt → (Option Value → zSt → Prop) → Prop} {v : Option Value × zSt} {X : Nat → zLv → List Value → zSt → Prop} (hX : zSem cX13_program 4 none h0 qs ks kc (fun r u => (r, u) = v) X) (hc : ∀ j av s w, call j av s = some w → kc j av s (fun r u => (r, u) = w)) : ∀ (f : Nat) (σ : zSt), l_program_35 n call h0 qs ks f σ = some v → X 35 [some (.ref h0), none, none, none] [] σ := by
  intro f
  induction f with
  | zero => intro  σ h; cases h
  | succ f hk35 =>
    intro  σ h
    rw [l_program_35] at h
    refine zs_aload_n hX dX13_program_35 rfl rfl ?_
    refine zs_ldcS hX dX13_program_36 (List.mem_of_getElem? (i := 1) rfl) ?_
    obtain ⟨r3, s1, e2, h⟩ := zci_e h
    refine zc_here hX dX13_program_39 (Nat.le_of_ble_eq_true rfl) (hc _ _ _ _ e2) (fun r9 u9 h9 => ?_)
    cases h9
    refine zs_if_eq (tgt := 396) hX dX13_program_42 (by decide) (fun c4 => ?_) (fun c4 => ?_)
    · rw [if_pos c4] at h
      exact pl_program_396 hX hc n _ h
    · rw [if_neg c4] at h
      refine zs_aload_n hX dX13_program_45 rfl rfl ?_
      refine zg_quals hX dX13_program_46 ?_
      refine zs_bipush (v := 6) hX dX13_program_49 (by decide) ?_
      refine zs_icmp_ne (tgt := 58) hX dX13_program_51 (by decide) (fun c5 => ?_) (fun c5 => ?_)
      · rw [if_neg c5] at h
        exact pj_program_58 hX hc hk35 h
      · rw [if_pos c5] at h
        refine zs_aload_n hX dX13_program_54 rfl rfl ?_
        obtain ⟨s6, e7, h⟩ := zcv_e h
        refine zc_form hX dX13_program_55 (Nat.le_of_ble_eq_true rfl) (hc _ _ _ _ e7) (fun u9 h9 => ?_)
        cases h9
        exact pj_program_58 hX hc hk35 h
set_option maxHeartbeats 4000000 in
theorem pb_program {h0 : Nat} {qs : List Nat} {ks : Nat → Nat} {n : Nat} {call : zCl} {kc : Nat → List Value → zSt → (Option Value → zSt → Prop) → Prop} {v : Option Value × zSt} {X : Nat → zLv → List Value → zSt → Prop} (hX : zSem cX13_program 4 none h0 qs ks kc (fun r u => (r, u) = v) X) (hc : ∀ j av s w, call j av s = some w → kc j av s (fun r u => (r, u) = w)) {σ : zSt} (h : b_program n call h0 qs ks σ = some v) : X 0 [some (.ref h0), none, none, none] [] σ := by
  rw [b_program] at h
  refine zs_aload_n hX dX13_program_0 rfl rfl ?_
  refine zs_iconst (v := 0) hX dX13_program_1 (by decide) ?_
  obtain ⟨s1, e2, h⟩ := zlet_e h
  refine zp_nodes hX dX13_program_2 ?_
  rw [← e2]
  refine zs_aload_n hX dX13_program_5 rfl rfl ?_
  refine zs_iconst (v := 0) hX dX13_program_6 (by decide) ?_
  obtain ⟨s3, e4, h⟩ := zlet_e h
  refine zp_sums hX dX13_program_7 ?_
  rw [← e4]
  refine zs_aload_n hX dX13_program_10 rfl rfl ?_
  refine zs_iconst (v := 0) hX dX13_program_11 (by decide) ?_
  obtain ⟨s5, e6, h⟩ := zlet_e h
  refine zp_partsMany hX dX13_program_12 ?_
  rw [← e6]
  refine zs_aload_n hX dX13_program_15 rfl rfl ?_
  refine zs_iconst (v := 0) hX dX13_program_16 (by decide) ?_
  obtain ⟨s7, e8, h⟩ := zlet_e h
  refine zp_argsMany hX dX13_program_17 ?_
  rw [← e8]
  refine zs_aload_n hX dX13_program_20 rfl rfl ?_
  refine zs_iconst (v := 0) hX dX13_program_21 (by decide) ?_
  obtain ⟨s9, e10, h⟩ := zlet_e h
  refine zp_quals hX dX13_program_22 ?_
  rw [← e10]
  refine zs_aload_n hX dX13_program_25 rfl rfl ?_
  refine zs_iconst (v := 0) hX dX13_program_26 (by decide) ?_
  obtain ⟨s11, e12, h⟩ := zlet_e h
  refine zp_inputs hX dX13_program_27 ?_
  rw [← e12]
  refine zs_aload_n hX dX13_program_30 rfl rfl ?_
  refine zs_iconst (v := 0) hX dX13_program_31 (by decide) ?_
  obtain ⟨s13, e14, h⟩ := zlet_e h
  refine zp_deep hX dX13_program_32 ?_
  rw [← e14]
  exact pl_program_35 hX hc n _ h
def l_sameWord_33 (n : Nat) (call : zCl) (h0 : Nat) (qs : List Nat) (ks : Nat → Nat) : Nat → Int32 → Int32 → Int32 → zSt → zRs
  | 0, _, _, _, _ => none
  | f + 1, x1, x2, x3, σ =>
    zgd (zin x1 2010) (
    zgd (zin x1 2010) (
    if ((σ.2.2.1 5 (x1).toNatClampNeg) - (σ.2.2.1 4 (x1).toNatClampNeg)) ≤ x3 then
      some (some (.int 1), σ)
    else
      zgd (zin x1 2010) (
      zgd (zin ((σ.2.2.1 4 (x1).toNatClampNeg) + x3) 2000) (
      zgd (zin x2 2010) (
      zgd (zin ((σ.2.2.1 4 (x2).toNatClampNeg) + x3) 2000) (
      if (σ.2.2.1 1 (((σ.2.2.1 4 (x1).toNatClampNeg) + x3)).toNatClampNeg) = (σ.2.2.1 1 (((σ.2.2.1 4 (x2).toNatClampNeg) + x3)).toNatClampNeg) then
        l_sameWord_33 n call h0 qs ks f x1 x2 (x3 + 1) σ
      else
        some (some (.int 0), σ)))))))
def b_sameWord (n : Nat) (call : zCl) (h0 : Nat) (qs : List Nat) (ks : Nat → Nat) (x1 : Int32) (x2 : Int32) (σ : zSt) : zRs :=
  zgd (zin x1 2010) (
  zgd (zin x1 2010) (
  zgd (zin x2 2010) (
  zgd (zin x2 2010) (
  if ((σ.2.2.1 5 (x1).toNatClampNeg) - (σ.2.2.1 4 (x1).toNatClampNeg)) = ((σ.2.2.1 5 (x2).toNatClampNeg) - (σ.2.2.1 4 (x2).toNatClampNeg)) then
    l_sameWord_33 n call h0 qs ks n x1 x2 0 σ
  else
    some (some (.int 0), σ)))))
set_option maxHeartbeats 4000000 in
theorem pl_sameWord_33 {h0 : Nat} {qs : List Nat} {ks : Nat → Nat} {n : Nat} {call : zCl} {kc : Nat → List Value → zSt → (Option Value → zSt → Prop) → Prop} {v : Option Value × zSt} {X : Nat → zLv → List Value → zSt → Prop} (hX : zSem cX13_sameWord 4 (some .boolean) h0 qs ks kc (fun r u => (r, u) = v) X) (hc : ∀ j av s w, call j av s = some w → kc j av s (fun r u => (r, u) = w)) : ∀ (f : Nat) (x1 : Int32) (x2 : Int32) (x3 : Int32) (σ : zSt), l_sameWord_33 n call h0 qs ks f x1 x2 x3 σ = some v → X 33 [some (.ref h0), some (.int x1), some (.int x2), some (.int x3)] [] σ := by
  intro f
  induction f with
  | zero => intro x1 x2 x3 σ h; cases h
  | succ f hk33 =>
    intro x1 x2 x3 σ h
    rw [l_sameWord_33] at h
    refine zs_iload_n hX dX13_sameWord_33 rfl rfl ?_
    refine zs_aload_n hX dX13_sameWord_34 rfl rfl ?_
    refine zg_wEnd hX dX13_sameWord_35 ?_
    refine zs_iload_n hX dX13_sameWord_38 rfl rfl ?_
    obtain ⟨b1, h⟩ := zgd_e h
    refine zl_wEnd hX dX13_sameWord_39 (zin_ok b1) ?_
    refine zs_aload_n hX dX13_sameWord_40 rfl rfl ?_
    refine zg_wAt hX dX13_sameWord_41 ?_
    refine zs_iload_n hX dX13_sameWord_44 rfl rfl ?_
    obtain ⟨b2, h⟩ := zgd_e h
    refine zl_wAt hX dX13_sameWord_45 (zin_ok b2) ?_
    refine zs_isub hX dX13_sameWord_46 ?_
    refine zs_icmp_ge (tgt := 87) hX dX13_sameWord_47 (by decide) (fun c3 => ?_) (fun c3 => ?_)
    · rw [if_pos c3] at h
      refine zs_iconst (v := 1) hX dX13_sameWord_87 (by decide) ?_
      exact zs_zret hX dX13_sameWord_88 rfl (by decide) (Option.some.inj h)
    · rw [if_neg c3] at h
      refine zs_aload_n hX dX13_sameWord_50 rfl rfl ?_
      refine zg_text hX dX13_sameWord_51 ?_
      refine zs_aload_n hX dX13_sameWord_54 rfl rfl ?_
      refine zg_wAt hX dX13_sameWord_55 ?_
      refine zs_iload_n hX dX13_sameWord_58 rfl rfl ?_
      obtain ⟨b4, h⟩ := zgd_e h
      refine zl_wAt hX dX13_sameWord_59 (zin_ok b4) ?_
      refine zs_iload_n hX dX13_sameWord_60 rfl rfl ?_
      refine zs_iadd hX dX13_sameWord_61 ?_
      obtain ⟨b5, h⟩ := zgd_e h
      refine zl_text hX dX13_sameWord_62 (zin_ok b5) ?_
      refine zs_aload_n hX dX13_sameWord_63 rfl rfl ?_
      refine zg_text hX dX13_sameWord_64 ?_
      refine zs_aload_n hX dX13_sameWord_67 rfl rfl ?_
      refine zg_wAt hX dX13_sameWord_68 ?_
      refine zs_iload_n hX dX13_sameWord_71 rfl rfl ?_
      obtain ⟨b6, h⟩ := zgd_e h
      refine zl_wAt hX dX13_sameWord_72 (zin_ok b6) ?_
      refine zs_iload_n hX dX13_sameWord_73 rfl rfl ?_
      refine zs_iadd hX dX13_sameWord_74 ?_
      obtain ⟨b7, h⟩ := zgd_e h
      refine zl_text hX dX13_sameWord_75 (zin_ok b7) ?_
      refine zs_icmp_eq (tgt := 81) hX dX13_sameWord_76 (by decide) (fun c8 => ?_) (fun c8 => ?_)
      · rw [if_pos c8] at h
        refine zs_iinc (v := x3 + 1) hX dX13_sameWord_81 rfl rfl (by decide) rfl ?_
        dsimp only [List.set]
        refine zs_goto (tgt := 33) hX dX13_sameWord_84 (by decide) ?_
        exact hk33 _ _ _ _ h
      · rw [if_neg c8] at h
        refine zs_iconst (v := 0) hX dX13_sameWord_79 (by decide) ?_
        exact zs_zret hX dX13_sameWord_80 rfl (by decide) (Option.some.inj h)
set_option maxHeartbeats 4000000 in
theorem pb_sameWord {h0 : Nat} {qs : List Nat} {ks : Nat → Nat} {n : Nat} {call : zCl} {kc : Nat → List Value → zSt → (Option Value → zSt → Prop) → Prop} {v : Option Value × zSt} {X : Nat → zLv → List Value → zSt → Prop} (hX : zSem cX13_sameWord 4 (some .boolean) h0 qs ks kc (fun r u => (r, u) = v) X) (hc : ∀ j av s w, call j av s = some w → kc j av s (fun r u => (r, u) = w)) {x1 : Int32} {x2 : Int32} {σ : zSt} (h : b_sameWord n call h0 qs ks x1 x2 σ = some v) : X 0 [some (.ref h0), some (.int x1), some (.int x2), none] [] σ := by
  rw [b_sameWord] at h
  refine zs_aload_n hX dX13_sameWord_0 rfl rfl ?_
  refine zg_wEnd hX dX13_sameWord_1 ?_
  refine zs_iload_n hX dX13_sameWord_4 rfl rfl ?_
  obtain ⟨b1, h⟩ := zgd_e h
  refine zl_wEnd hX dX13_sameWord_5 (zin_ok b1) ?_
  refine zs_aload_n hX dX13_sameWord_6 rfl rfl ?_
  refine zg_wAt hX dX13_sameWord_7 ?_
  refine zs_iload_n hX dX13_sameWord_10 rfl rfl ?_
  obtain ⟨b2, h⟩ := zgd_e h
  refine zl_wAt hX dX13_sameWord_11 (zin_ok b2) ?_
  refine zs_isub hX dX13_sameWord_12 ?_
  refine zs_aload_n hX dX13_sameWord_13 rfl rfl ?_
  refine zg_wEnd hX dX13_sameWord_14 ?_
  refine zs_iload_n hX dX13_sameWord_17 rfl rfl ?_
  obtain ⟨b3, h⟩ := zgd_e h
  refine zl_wEnd hX dX13_sameWord_18 (zin_ok b3) ?_
  refine zs_aload_n hX dX13_sameWord_19 rfl rfl ?_
  refine zg_wAt hX dX13_sameWord_20 ?_
  refine zs_iload_n hX dX13_sameWord_23 rfl rfl ?_
  obtain ⟨b4, h⟩ := zgd_e h
  refine zl_wAt hX dX13_sameWord_24 (zin_ok b4) ?_
  refine zs_isub hX dX13_sameWord_25 ?_
  refine zs_icmp_eq (tgt := 31) hX dX13_sameWord_26 (by decide) (fun c5 => ?_) (fun c5 => ?_)
  · rw [if_pos c5] at h
    refine zs_iconst (v := 0) hX dX13_sameWord_31 (by decide) ?_
    refine zs_istore_n hX dX13_sameWord_32 rfl (by decide) rfl ?_
    dsimp only [List.set]
    exact pl_sameWord_33 hX hc n _ _ _ _ h
  · rw [if_neg c5] at h
    refine zs_iconst (v := 0) hX dX13_sameWord_29 (by decide) ?_
    exact zs_zret hX dX13_sameWord_30 rfl (by decide) (Option.some.inj h)
def j_wrongName_20 (n : Nat) (call : zCl) (h0 : Nat) (qs : List Nat) (ks : Nat → Nat) (x1 : Int32) (σ : zSt) : zRs :=
  zgd (zin x1 2010) (
  zlet (zI σ 52 (σ.2.2.1 4 (x1).toNatClampNeg)) fun s2 =>
  some (none, s2))
def b_wrongName (n : Nat) (call : zCl) (h0 : Nat) (qs : List Nat) (ks : Nat → Nat) (x1 : Int32) (σ : zSt) : zRs :=
  if (σ.1 52) < 0 then
    j_wrongName_20 n call h0 qs ks x1 σ
  else
    zgd (zin x1 2010) (
    if (σ.1 52) ≤ (σ.2.2.1 4 (x1).toNatClampNeg) then
      some (none, σ)
    else
      j_wrongName_20 n call h0 qs ks x1 σ)
set_option maxHeartbeats 4000000 in
theorem pj_wrongName_20 {h0 : Nat} {qs : List Nat} {ks : Nat → Nat} {n : Nat} {call : zCl} {kc : Nat → List Value → zSt → (Option Value → zSt → Prop) → Prop} {v : Option Value × zSt} {X : Nat → zLv → List Value → zSt → Prop} (hX : zSem cX13_wrongName 2 none h0 qs ks kc (fun r u => (r, u) = v) X) (hc : ∀ j av s w, call j av s = some w → kc j av s (fun r u => (r, u) = w)) {x1 : Int32} {σ : zSt} (h : j_wrongName_20 n call h0 qs ks x1 σ = some v) : X 20 [some (.ref h0), some (.int x1)] [] σ := by
  rw [j_wrongName_20] at h
  refine zs_aload_n hX dX13_wrongName_20 rfl rfl ?_
  refine zs_aload_n hX dX13_wrongName_21 rfl rfl ?_
  refine zg_wAt hX dX13_wrongName_22 ?_
  refine zs_iload_n hX dX13_wrongName_25 rfl rfl ?_
  obtain ⟨b1, h⟩ := zgd_e h
  refine zl_wAt hX dX13_wrongName_26 (zin_ok b1) ?_
  obtain ⟨s2, e3, h⟩ := zlet_e h
  refine zp_least hX dX13_wrongName_27 ?_
  rw [← e3]
  exact zs_vret hX dX13_wrongName_30 rfl (Option.some.inj h)
set_option maxHeartbeats 4000000 in
theorem pb_wrongName {h0 : Nat} {qs : List Nat} {ks : Nat → Nat} {n : Nat} {call : zCl} {kc : Nat → List Value → zSt → (Option Value → zSt → Prop) → Prop} {v : Option Value × zSt} {X : Nat → zLv → List Value → zSt → Prop} (hX : zSem cX13_wrongName 2 none h0 qs ks kc (fun r u => (r, u) = v) X) (hc : ∀ j av s w, call j av s = some w → kc j av s (fun r u => (r, u) = w)) {x1 : Int32} {σ : zSt} (h : b_wrongName n call h0 qs ks x1 σ = some v) : X 0 [some (.ref h0), some (.int x1)] [] σ := by
  rw [b_wrongName] at h
  refine zs_aload_n hX dX13_wrongName_0 rfl rfl ?_
  refine zg_least hX dX13_wrongName_1 ?_
  refine zs_if_lt (tgt := 20) hX dX13_wrongName_4 (by decide) (fun c1 => ?_) (fun c1 => ?_)
  · rw [if_pos c1] at h
    exact pj_wrongName_20 hX hc h
  · rw [if_neg c1] at h
    refine zs_aload_n hX dX13_wrongName_7 rfl rfl ?_
    refine zg_wAt hX dX13_wrongName_8 ?_
    refine zs_iload_n hX dX13_wrongName_11 rfl rfl ?_
    obtain ⟨b2, h⟩ := zgd_e h
    refine zl_wAt hX dX13_wrongName_12 (zin_ok b2) ?_
    refine zs_aload_n hX dX13_wrongName_13 rfl rfl ?_
    refine zg_least hX dX13_wrongName_14 ?_
    refine zs_icmp_ge (tgt := 30) hX dX13_wrongName_17 (by decide) (fun c3 => ?_) (fun c3 => ?_)
    · rw [if_pos c3] at h
      exact zs_vret hX dX13_wrongName_30 rfl (Option.some.inj h)
    · rw [if_neg c3] at h
      exact pj_wrongName_20 hX hc h
def b_tell (n : Nat) (call : zCl) (h0 : Nat) (qs : List Nat) (ks : Nat → Nat) (x1 : Int32) (σ : zSt) : zRs :=
  zgd (zin (σ.1 50) 700) (zlet (zA σ 30 (upd (σ.2.2.1 30) ((σ.1 50)).toNatClampNeg x1)) fun s2 =>
  zgd (zin x1 2010) (zlet (zA s2 32 (upd (s2.2.2.1 32) (x1).toNatClampNeg (s2.1 50))) fun s5 =>
  zlet (zI s5 50 ((s5.1 50) + 1)) fun s7 =>
  some (some (.int ((s7.1 50) - 1)), s7)))
set_option maxHeartbeats 4000000 in
theorem pb_tell {h0 : Nat} {qs : List Nat} {ks : Nat → Nat} {n : Nat} {call : zCl} {kc : Nat → List Value → zSt → (Option Value → zSt → Prop) → Prop} {v : Option Value × zSt} {X : Nat → zLv → List Value → zSt → Prop} (hX : zSem cX13_tell 2 (some .int) h0 qs ks kc (fun r u => (r, u) = v) X) (hc : ∀ j av s w, call j av s = some w → kc j av s (fun r u => (r, u) = w)) {x1 : Int32} {σ : zSt} (h : b_tell n call h0 qs ks x1 σ = some v) : X 0 [some (.ref h0), some (.int x1)] [] σ := by
  rw [b_tell] at h
  refine zs_aload_n hX dX13_tell_0 rfl rfl ?_
  refine zg_dWord hX dX13_tell_1 ?_
  refine zs_aload_n hX dX13_tell_4 rfl rfl ?_
  refine zg_told hX dX13_tell_5 ?_
  refine zs_iload_n hX dX13_tell_8 rfl rfl ?_
  obtain ⟨b1, h⟩ := zgd_e h
  obtain ⟨s2, e3, h⟩ := zlet_e h
  refine zt_dWord hX dX13_tell_9 (zin_ok b1) ?_
  rw [← e3]
  refine zs_aload_n hX dX13_tell_10 rfl rfl ?_
  refine zg_whose hX dX13_tell_11 ?_
  refine zs_iload_n hX dX13_tell_14 rfl rfl ?_
  refine zs_aload_n hX dX13_tell_15 rfl rfl ?_
  refine zg_told hX dX13_tell_16 ?_
  obtain ⟨b4, h⟩ := zgd_e h
  obtain ⟨s5, e6, h⟩ := zlet_e h
  refine zt_whose hX dX13_tell_19 (zin_ok b4) ?_
  rw [← e6]
  refine zs_aload_n hX dX13_tell_20 rfl rfl ?_
  refine zs_dup hX dX13_tell_21 rfl ?_
  refine zg_told hX dX13_tell_22 ?_
  refine zs_iconst (v := 1) hX dX13_tell_25 (by decide) ?_
  refine zs_iadd hX dX13_tell_26 ?_
  obtain ⟨s7, e8, h⟩ := zlet_e h
  refine zp_told hX dX13_tell_27 ?_
  rw [← e8]
  refine zs_aload_n hX dX13_tell_30 rfl rfl ?_
  refine zg_told hX dX13_tell_31 ?_
  refine zs_iconst (v := 1) hX dX13_tell_34 (by decide) ?_
  refine zs_isub hX dX13_tell_35 ?_
  exact zs_iret hX dX13_tell_36 rfl (Option.some.inj h)
def j_counts_72 (n : Nat) (call : zCl) (h0 : Nat) (qs : List Nat) (ks : Nat → Nat) (x1 : Int32) (σ : zSt) : zRs :=
  zgd (zin (σ.1 51) 400) (zlet (zA σ 33 (upd (σ.2.2.1 33) ((σ.1 51)).toNatClampNeg x1)) fun s2 =>
  zlet (zI s2 51 ((s2.1 51) + 1)) fun s4 =>
  some (none, s4))
def j_counts_53 (n : Nat) (call : zCl) (h0 : Nat) (qs : List Nat) (ks : Nat → Nat) (x1 : Int32) (σ : zSt) : zRs :=
  if (σ.1 51) < 12 then
    j_counts_72 n call h0 qs ks x1 σ
  else
    zgd (zin x1 700) (
    zcv (call 32 [.ref h0, .int (σ.2.2.1 30 (x1).toNatClampNeg)] σ) fun s3 =>
    j_counts_72 n call h0 qs ks x1 s3)
def l_counts_2 (n : Nat) (call : zCl) (h0 : Nat) (qs : List Nat) (ks : Nat → Nat) : Nat → Int32 → Int32 → zSt → zRs
  | 0, _, _, _ => none
  | f + 1, x1, x2, σ =>
    if (σ.1 51) ≤ x2 then
      j_counts_53 n call h0 qs ks x1 σ
    else
      zgd (zin x2 400) (
      zgd (zin (σ.2.2.1 33 (x2).toNatClampNeg) 700) (
      zgd (zin x1 700) (
      zci (call 31 [.ref h0, .int (σ.2.2.1 30 ((σ.2.2.1 33 (x2).toNatClampNeg)).toNatClampNeg), .int (σ.2.2.1 30 (x1).toNatClampNeg)] σ) fun r7 s5 =>
      if r7 = 0 then
        l_counts_2 n call h0 qs ks f x1 (x2 + 1) s5
      else
        zgd (zin x1 700) (
        zcv (call 32 [.ref h0, .int (s5.2.2.1 30 (x1).toNatClampNeg)] s5) fun s10 =>
        j_counts_53 n call h0 qs ks x1 s10))))
def b_counts (n : Nat) (call : zCl) (h0 : Nat) (qs : List Nat) (ks : Nat → Nat) (x1 : Int32) (σ : zSt) : zRs :=
  l_counts_2 n call h0 qs ks n x1 0 σ
set_option maxHeartbeats 4000000 in
theorem pj_counts_72 {h0 : Nat} {qs : List Nat} {ks : Nat → Nat} {n : Nat} {call : zCl} {kc : Nat → List Value → zSt → (Option Value → zSt → Prop) → Prop} {v : Option Value × zSt} {X : Nat → zLv → List Value → zSt → Prop} (hX : zSem cX13_counts 3 none h0 qs ks kc (fun r u => (r, u) = v) X) (hc : ∀ j av s w, call j av s = some w → kc j av s (fun r u => (r, u) = w)) {x1 : Int32} {σ : zSt} (h : j_counts_72 n call h0 qs ks x1 σ = some v) : X 72 [some (.ref h0), some (.int x1), none] [] σ := by
  rw [j_counts_72] at h
  refine zs_aload_n hX dX13_counts_72 rfl rfl ?_
  refine zg_scope hX dX13_counts_73 ?_
  refine zs_aload_n hX dX13_counts_76 rfl rfl ?_
  refine zg_scopes hX dX13_counts_77 ?_
  refine zs_iload_n hX dX13_counts_80 rfl rfl ?_
  obtain ⟨b1, h⟩ := zgd_e h
  obtain ⟨s2, e3, h⟩ := zlet_e h
  refine zt_scope hX dX13_counts_81 (zin_ok b1) ?_
  rw [← e3]
  refine zs_aload_n hX dX13_counts_82 rfl rfl ?_
  refine zs_dup hX dX13_counts_83 rfl ?_
  refine zg_scopes hX dX13_counts_84 ?_
  refine zs_iconst (v := 1) hX dX13_counts_87 (by decide) ?_
  refine zs_iadd hX dX13_counts_88 ?_
  obtain ⟨s4, e5, h⟩ := zlet_e h
  refine zp_scopes hX dX13_counts_89 ?_
  rw [← e5]
  exact zs_vret hX dX13_counts_92 rfl (Option.some.inj h)
set_option maxHeartbeats 4000000 in
theorem pj_counts_53 {h0 : Nat} {qs : List Nat} {ks : Nat → Nat} {n : Nat} {call : zCl} {kc : Nat → List Value → zSt → (Option Value → zSt → Prop) → Prop} {v : Option Value × zSt} {X : Nat → zLv → List Value → zSt → Prop} (hX : zSem cX13_counts 3 none h0 qs ks kc (fun r u => (r, u) = v) X) (hc : ∀ j av s w, call j av s = some w → kc j av s (fun r u => (r, u) = w)) {x1 : Int32} {σ : zSt} (h : j_counts_53 n call h0 qs ks x1 σ = some v) : X 53 [some (.ref h0), some (.int x1), none] [] σ := by
  rw [j_counts_53] at h
  refine zs_aload_n hX dX13_counts_53 rfl rfl ?_
  refine zg_scopes hX dX13_counts_54 ?_
  refine zs_bipush (v := 12) hX dX13_counts_57 (by decide) ?_
  refine zs_icmp_lt (tgt := 72) hX dX13_counts_59 (by decide) (fun c1 => ?_) (fun c1 => ?_)
  · rw [if_pos c1] at h
    exact pj_counts_72 hX hc h
  · rw [if_neg c1] at h
    refine zs_aload_n hX dX13_counts_62 rfl rfl ?_
    refine zs_aload_n hX dX13_counts_63 rfl rfl ?_
    refine zg_dWord hX dX13_counts_64 ?_
    refine zs_iload_n hX dX13_counts_67 rfl rfl ?_
    obtain ⟨b2, h⟩ := zgd_e h
    refine zl_dWord hX dX13_counts_68 (zin_ok b2) ?_
    obtain ⟨s3, e4, h⟩ := zcv_e h
    refine zc_wrongName hX dX13_counts_69 (Nat.le_of_ble_eq_true rfl) (hc _ _ _ _ e4) (fun u9 h9 => ?_)
    cases h9
    exact pj_counts_72 hX hc h
set_option maxHeartbeats 4000000 in
theorem pl_counts_2 {h0 : Nat} {qs : List Nat} {ks : Nat → Nat} {n : Nat} {call : zCl} {kc : Nat → List Value → zSt → (Option Value → zSt → Prop) → Prop} {v : Option Value × zSt} {X : Nat → zLv → List Value → zSt → Prop} (hX : zSem cX13_counts 3 none h0 qs ks kc (fun r u => (r, u) = v) X) (hc : ∀ j av s w, call j av s = some w → kc j av s (fun r u => (r, u) = w)) : ∀ (f : Nat) (x1 : Int32) (x2 : Int32) (σ : zSt), l_counts_2 n call h0 qs ks f x1 x2 σ = some v → X 2 [some (.ref h0), some (.int x1), some (.int x2)] [] σ := by
  intro f
  induction f with
  | zero => intro x1 x2 σ h; cases h
  | succ f hk2 =>
    intro x1 x2 σ h
    rw [l_counts_2] at h
    refine zs_iload_n hX dX13_counts_2 rfl rfl ?_
    refine zs_aload_n hX dX13_counts_3 rfl rfl ?_
    refine zg_scopes hX dX13_counts_4 ?_
    refine zs_icmp_ge (tgt := 53) hX dX13_counts_7 (by decide) (fun c1 => ?_) (fun c1 => ?_)
    · rw [if_pos c1] at h
      refine zs_weak hX (lw := [some (.ref h0), some (.int x1), none]) ⟨rfl, rfl, trivial⟩ ?_
      exact pj_counts_53 hX hc h
    · rw [if_neg c1] at h
      refine zs_aload_n hX dX13_counts_10 rfl rfl ?_
      refine zs_aload_n hX dX13_counts_11 rfl rfl ?_
      refine zg_dWord hX dX13_counts_12 ?_
      refine zs_aload_n hX dX13_counts_15 rfl rfl ?_
      refine zg_scope hX dX13_counts_16 ?_
      refine zs_iload_n hX dX13_counts_19 rfl rfl ?_
      obtain ⟨b2, h⟩ := zgd_e h
      refine zl_scope hX dX13_counts_20 (zin_ok b2) ?_
      obtain ⟨b3, h⟩ := zgd_e h
      refine zl_dWord hX dX13_counts_21 (zin_ok b3) ?_
      refine zs_aload_n hX dX13_counts_22 rfl rfl ?_
      refine zg_dWord hX dX13_counts_23 ?_
      refine zs_iload_n hX dX13_counts_26 rfl rfl ?_
      obtain ⟨b4, h⟩ := zgd_e h
      refine zl_dWord hX dX13_counts_27 (zin_ok b4) ?_
      obtain ⟨r7, s5, e6, h⟩ := zci_e h
      refine zc_sameWord hX dX13_counts_28 (Nat.le_of_ble_eq_true rfl) (hc _ _ _ _ e6) (fun r9 u9 h9 => ?_)
      cases h9
      refine zs_if_eq (tgt := 47) hX dX13_counts_31 (by decide) (fun c8 => ?_) (fun c8 => ?_)
      · rw [if_pos c8] at h
        refine zs_iinc (v := x2 + 1) hX dX13_counts_47 rfl rfl (by decide) rfl ?_
        dsimp only [List.set]
        refine zs_goto (tgt := 2) hX dX13_counts_50 (by decide) ?_
        exact hk2 _ _ _ h
      · rw [if_neg c8] at h
        refine zs_aload_n hX dX13_counts_34 rfl rfl ?_
        refine zs_aload_n hX dX13_counts_35 rfl rfl ?_
        refine zg_dWord hX dX13_counts_36 ?_
        refine zs_iload_n hX dX13_counts_39 rfl rfl ?_
        obtain ⟨b9, h⟩ := zgd_e h
        refine zl_dWord hX dX13_counts_40 (zin_ok b9) ?_
        obtain ⟨s10, e11, h⟩ := zcv_e h
        refine zc_wrongName hX dX13_counts_41 (Nat.le_of_ble_eq_true rfl) (hc _ _ _ _ e11) (fun u9 h9 => ?_)
        cases h9
        refine zs_goto (tgt := 53) hX dX13_counts_44 (by decide) ?_
        refine zs_weak hX (lw := [some (.ref h0), some (.int x1), none]) ⟨rfl, rfl, trivial⟩ ?_
        exact pj_counts_53 hX hc h
set_option maxHeartbeats 4000000 in
theorem pb_counts {h0 : Nat} {qs : List Nat} {ks : Nat → Nat} {n : Nat} {call : zCl} {kc : Nat → List Value → zSt → (Option Value → zSt → Prop) → Prop} {v : Option Value × zSt} {X : Nat → zLv → List Value → zSt → Prop} (hX : zSem cX13_counts 3 none h0 qs ks kc (fun r u => (r, u) = v) X) (hc : ∀ j av s w, call j av s = some w → kc j av s (fun r u => (r, u) = w)) {x1 : Int32} {σ : zSt} (h : b_counts n call h0 qs ks x1 σ = some v) : X 0 [some (.ref h0), some (.int x1), none] [] σ := by
  rw [b_counts] at h
  refine zs_iconst (v := 0) hX dX13_counts_0 (by decide) ?_
  refine zs_istore_n hX dX13_counts_1 rfl (by decide) rfl ?_
  dsimp only [List.set]
  exact pl_counts_2 hX hc n _ _ _ h
def l_uses_7 (n : Nat) (call : zCl) (h0 : Nat) (qs : List Nat) (ks : Nat → Nat) : Nat → Int32 → Int32 → zSt → zRs
  | 0, _, _, _ => none
  | f + 1, x1, x2, σ =>
    if x2 < 0 then
      zgd (zin x1 2010) (zlet (zA σ 32 (upd (σ.2.2.1 32) (x1).toNatClampNeg (-1))) fun s3 =>
      zcv (call 32 [.ref h0, .int x1] s3) fun s5 =>
      some (none, s5))
    else
      zgd (zin x2 400) (
      zgd (zin (σ.2.2.1 33 (x2).toNatClampNeg) 700) (
      zci (call 31 [.ref h0, .int (σ.2.2.1 30 ((σ.2.2.1 33 (x2).toNatClampNeg)).toNatClampNeg), .int x1] σ) fun r11 s9 =>
      if r11 = 0 then
        l_uses_7 n call h0 qs ks f x1 (x2 + (-1)) s9
      else
        zgd (zin x2 400) (
        zgd (zin x1 2010) (zlet (zA s9 32 (upd (s9.2.2.1 32) (x1).toNatClampNeg (s9.2.2.1 33 (x2).toNatClampNeg))) fun s15 =>
        some (none, s15)))))
def b_uses (n : Nat) (call : zCl) (h0 : Nat) (qs : List Nat) (ks : Nat → Nat) (x1 : Int32) (σ : zSt) : zRs :=
  l_uses_7 n call h0 qs ks n x1 ((σ.1 51) - 1) σ
set_option maxHeartbeats 4000000 in
theorem pl_uses_7 {h0 : Nat} {qs : List Nat} {ks : Nat → Nat} {n : Nat} {call : zCl} {kc : Nat → List Value → zSt → (Option Value → zSt → Prop) → Prop} {v : Option Value × zSt} {X : Nat → zLv → List Value → zSt → Prop} (hX : zSem cX13_uses 3 none h0 qs ks kc (fun r u => (r, u) = v) X) (hc : ∀ j av s w, call j av s = some w → kc j av s (fun r u => (r, u) = w)) : ∀ (f : Nat) (x1 : Int32) (x2 : Int32) (σ : zSt), l_uses_7 n call h0 qs ks f x1 x2 σ = some v → X 7 [some (.ref h0), some (.int x1), some (.int x2)] [] σ := by
  intro f
  induction f with
  | zero => intro x1 x2 σ h; cases h
  | succ f hk7 =>
    intro x1 x2 σ h
    rw [l_uses_7] at h
    refine zs_iload_n hX dX13_uses_7 rfl rfl ?_
    refine zs_if_lt (tgt := 52) hX dX13_uses_8 (by decide) (fun c1 => ?_) (fun c1 => ?_)
    · rw [if_pos c1] at h
      refine zs_aload_n hX dX13_uses_52 rfl rfl ?_
      refine zg_whose hX dX13_uses_53 ?_
      refine zs_iload_n hX dX13_uses_56 rfl rfl ?_
      refine zs_iconst (v := (-1)) hX dX13_uses_57 (by decide) ?_
      obtain ⟨b2, h⟩ := zgd_e h
      obtain ⟨s3, e4, h⟩ := zlet_e h
      refine zt_whose hX dX13_uses_58 (zin_ok b2) ?_
      rw [← e4]
      refine zs_aload_n hX dX13_uses_59 rfl rfl ?_
      refine zs_iload_n hX dX13_uses_60 rfl rfl ?_
      obtain ⟨s5, e6, h⟩ := zcv_e h
      refine zc_wrongName hX dX13_uses_61 (Nat.le_of_ble_eq_true rfl) (hc _ _ _ _ e6) (fun u9 h9 => ?_)
      cases h9
      exact zs_vret hX dX13_uses_64 rfl (Option.some.inj h)
    · rw [if_neg c1] at h
      refine zs_aload_n hX dX13_uses_11 rfl rfl ?_
      refine zs_aload_n hX dX13_uses_12 rfl rfl ?_
      refine zg_dWord hX dX13_uses_13 ?_
      refine zs_aload_n hX dX13_uses_16 rfl rfl ?_
      refine zg_scope hX dX13_uses_17 ?_
      refine zs_iload_n hX dX13_uses_20 rfl rfl ?_
      obtain ⟨b7, h⟩ := zgd_e h
      refine zl_scope hX dX13_uses_21 (zin_ok b7) ?_
      obtain ⟨b8, h⟩ := zgd_e h
      refine zl_dWord hX dX13_uses_22 (zin_ok b8) ?_
      refine zs_iload_n hX dX13_uses_23 rfl rfl ?_
      obtain ⟨r11, s9, e10, h⟩ := zci_e h
      refine zc_sameWord hX dX13_uses_24 (Nat.le_of_ble_eq_true rfl) (hc _ _ _ _ e10) (fun r9 u9 h9 => ?_)
      cases h9
      refine zs_if_ne (tgt := 33) hX dX13_uses_27 (by decide) (fun c12 => ?_) (fun c12 => ?_)
      · rw [if_neg c12] at h
        refine zs_aload_n hX dX13_uses_33 rfl rfl ?_
        refine zg_whose hX dX13_uses_34 ?_
        refine zs_iload_n hX dX13_uses_37 rfl rfl ?_
        refine zs_aload_n hX dX13_uses_38 rfl rfl ?_
        refine zg_scope hX dX13_uses_39 ?_
        refine zs_iload_n hX dX13_uses_42 rfl rfl ?_
        obtain ⟨b13, h⟩ := zgd_e h
        refine zl_scope hX dX13_uses_43 (zin_ok b13) ?_
        obtain ⟨b14, h⟩ := zgd_e h
        obtain ⟨s15, e16, h⟩ := zlet_e h
        refine zt_whose hX dX13_uses_44 (zin_ok b14) ?_
        rw [← e16]
        exact zs_vret hX dX13_uses_45 rfl (Option.some.inj h)
      · rw [if_pos c12] at h
        refine zs_goto (tgt := 46) hX dX13_uses_30 (by decide) ?_
        refine zs_iinc (v := x2 + (-1)) hX dX13_uses_46 rfl rfl (by decide) rfl ?_
        dsimp only [List.set]
        refine zs_goto (tgt := 7) hX dX13_uses_49 (by decide) ?_
        exact hk7 _ _ _ h
set_option maxHeartbeats 4000000 in
theorem pb_uses {h0 : Nat} {qs : List Nat} {ks : Nat → Nat} {n : Nat} {call : zCl} {kc : Nat → List Value → zSt → (Option Value → zSt → Prop) → Prop} {v : Option Value × zSt} {X : Nat → zLv → List Value → zSt → Prop} (hX : zSem cX13_uses 3 none h0 qs ks kc (fun r u => (r, u) = v) X) (hc : ∀ j av s w, call j av s = some w → kc j av s (fun r u => (r, u) = w)) {x1 : Int32} {σ : zSt} (h : b_uses n call h0 qs ks x1 σ = some v) : X 0 [some (.ref h0), some (.int x1), none] [] σ := by
  rw [b_uses] at h
  refine zs_aload_n hX dX13_uses_0 rfl rfl ?_
  refine zg_scopes hX dX13_uses_1 ?_
  refine zs_iconst (v := 1) hX dX13_uses_4 (by decide) ?_
  refine zs_isub hX dX13_uses_5 ?_
  refine zs_istore_n hX dX13_uses_6 rfl (by decide) rfl ?_
  dsimp only [List.set]
  exact pl_uses_7 hX hc n _ _ _ h
def j_namesOfSum_36 (n : Nat) (call : zCl) (h0 : Nat) (qs : List Nat) (ks : Nat → Nat) (k7 : Int32 → Int32 → zSt → zRs) (x1 : Int32) (x2 : Int32) (σ : zSt) : zRs :=
  k7 x1 (x2 + 1) σ
def l_namesOfSum_7 (n : Nat) (call : zCl) (h0 : Nat) (qs : List Nat) (ks : Nat → Nat) : Nat → Int32 → Int32 → zSt → zRs
  | 0, _, _, _ => none
  | f + 1, x1, x2, σ =>
    zgd (zin x1 2100) (
    if (σ.2.2.1 14 (x1).toNatClampNeg) ≤ x2 then
      some (none, σ)
    else
      zgd (zin x2 2100) (
      if (σ.2.2.1 16 (x2).toNatClampNeg) ≤ 0 then
        j_namesOfSum_36 n call h0 qs ks (l_namesOfSum_7 n call h0 qs ks f) x1 x2 σ
      else
        zgd (zin x2 2100) (
        zcv (call 35 [.ref h0, .int (σ.2.2.1 18 (x2).toNatClampNeg)] σ) fun s6 =>
        j_namesOfSum_36 n call h0 qs ks (l_namesOfSum_7 n call h0 qs ks f) x1 x2 s6)))
def b_namesOfSum (n : Nat) (call : zCl) (h0 : Nat) (qs : List Nat) (ks : Nat → Nat) (x1 : Int32) (σ : zSt) : zRs :=
  zgd (zin x1 2100) (
  l_namesOfSum_7 n call h0 qs ks n x1 (σ.2.2.1 13 (x1).toNatClampNeg) σ)
set_option maxHeartbeats 4000000 in
theorem pj_namesOfSum_36 {h0 : Nat} {qs : List Nat} {ks : Nat → Nat} {n : Nat} {call : zCl} {kc : Nat → List Value → zSt → (Option Value → zSt → Prop) → Prop} {v : Option Value × zSt} {X : Nat → zLv → List Value → zSt → Prop} (hX : zSem cX13_namesOfSum 3 none h0 qs ks kc (fun r u => (r, u) = v) X) (hc : ∀ j av s w, call j av s = some w → kc j av s (fun r u => (r, u) = w)) {k7 : Int32 → Int32 → zSt → zRs} (hk7 : ∀ (x1 : Int32) (x2 : Int32) (s : zSt), k7 x1 x2 s = some v → X 7 [some (.ref h0), some (.int x1), some (.int x2)] [] s) {x1 : Int32} {x2 : Int32} {σ : zSt} (h : j_namesOfSum_36 n call h0 qs ks k7 x1 x2 σ = some v) : X 36 [some (.ref h0), some (.int x1), some (.int x2)] [] σ := by
  rw [j_namesOfSum_36] at h
  refine zs_iinc (v := x2 + 1) hX dX13_namesOfSum_36 rfl rfl (by decide) rfl ?_
  dsimp only [List.set]
  refine zs_goto (tgt := 7) hX dX13_namesOfSum_39 (by decide) ?_
  exact hk7 _ _ _ h
set_option maxHeartbeats 4000000 in
theorem pl_namesOfSum_7 {h0 : Nat} {qs : List Nat} {ks : Nat → Nat} {n : Nat} {call : zCl} {kc : Nat → List Value → zSt → (Option Value → zSt → Prop) → Prop} {v : Option Value × zSt} {X : Nat → zLv → List Value → zSt → Prop} (hX : zSem cX13_namesOfSum 3 none h0 qs ks kc (fun r u => (r, u) = v) X) (hc : ∀ j av s w, call j av s = some w → kc j av s (fun r u => (r, u) = w)) : ∀ (f : Nat) (x1 : Int32) (x2 : Int32) (σ : zSt), l_namesOfSum_7 n call h0 qs ks f x1 x2 σ = some v → X 7 [some (.ref h0), some (.int x1), some (.int x2)] [] σ := by
  intro f
  induction f with
  | zero => intro x1 x2 σ h; cases h
  | succ f hk7 =>
    intro x1 x2 σ h
    rw [l_namesOfSum_7] at h
    refine zs_iload_n hX dX13_namesOfSum_7 rfl rfl ?_
    refine zs_aload_n hX dX13_namesOfSum_8 rfl rfl ?_
    refine zg_sTo hX dX13_namesOfSum_9 ?_
    refine zs_iload_n hX dX13_namesOfSum_12 rfl rfl ?_
    obtain ⟨b1, h⟩ := zgd_e h
    refine zl_sTo hX dX13_namesOfSum_13 (zin_ok b1) ?_
    refine zs_icmp_ge (tgt := 42) hX dX13_namesOfSum_14 (by decide) (fun c2 => ?_) (fun c2 => ?_)
    · rw [if_pos c2] at h
      exact zs_vret hX dX13_namesOfSum_42 rfl (Option.some.inj h)
    · rw [if_neg c2] at h
      refine zs_aload_n hX dX13_namesOfSum_17 rfl rfl ?_
      refine zg_pKind hX dX13_namesOfSum_18 ?_
      refine zs_iload_n hX dX13_namesOfSum_21 rfl rfl ?_
      obtain ⟨b3, h⟩ := zgd_e h
      refine zl_pKind hX dX13_namesOfSum_22 (zin_ok b3) ?_
      refine zs_if_le (tgt := 36) hX dX13_namesOfSum_23 (by decide) (fun c4 => ?_) (fun c4 => ?_)
      · rw [if_pos c4] at h
        exact pj_namesOfSum_36 hX hc hk7 h
      · rw [if_neg c4] at h
        refine zs_aload_n hX dX13_namesOfSum_26 rfl rfl ?_
        refine zs_aload_n hX dX13_namesOfSum_27 rfl rfl ?_
        refine zg_pWord hX dX13_namesOfSum_28 ?_
        refine zs_iload_n hX dX13_namesOfSum_31 rfl rfl ?_
        obtain ⟨b5, h⟩ := zgd_e h
        refine zl_pWord hX dX13_namesOfSum_32 (zin_ok b5) ?_
        obtain ⟨s6, e7, h⟩ := zcv_e h
        refine zc_uses hX dX13_namesOfSum_33 (Nat.le_of_ble_eq_true rfl) (hc _ _ _ _ e7) (fun u9 h9 => ?_)
        cases h9
        exact pj_namesOfSum_36 hX hc hk7 h
set_option maxHeartbeats 4000000 in
theorem pb_namesOfSum {h0 : Nat} {qs : List Nat} {ks : Nat → Nat} {n : Nat} {call : zCl} {kc : Nat → List Value → zSt → (Option Value → zSt → Prop) → Prop} {v : Option Value × zSt} {X : Nat → zLv → List Value → zSt → Prop} (hX : zSem cX13_namesOfSum 3 none h0 qs ks kc (fun r u => (r, u) = v) X) (hc : ∀ j av s w, call j av s = some w → kc j av s (fun r u => (r, u) = w)) {x1 : Int32} {σ : zSt} (h : b_namesOfSum n call h0 qs ks x1 σ = some v) : X 0 [some (.ref h0), some (.int x1), none] [] σ := by
  rw [b_namesOfSum] at h
  refine zs_aload_n hX dX13_namesOfSum_0 rfl rfl ?_
  refine zg_sFrom hX dX13_namesOfSum_1 ?_
  refine zs_iload_n hX dX13_namesOfSum_4 rfl rfl ?_
  obtain ⟨b1, h⟩ := zgd_e h
  refine zl_sFrom hX dX13_namesOfSum_5 (zin_ok b1) ?_
  refine zs_istore_n hX dX13_namesOfSum_6 rfl (by decide) rfl ?_
  dsimp only [List.set]
  exact pl_namesOfSum_7 hX hc n _ _ _ h
def b_namesOfCondition (n : Nat) (call : zCl) (h0 : Nat) (qs : List Nat) (ks : Nat → Nat) (x1 : Int32) (σ : zSt) : zRs :=
  zgd (zin x1 2100) (
  if (σ.2.2.1 6 (x1).toNatClampNeg) = 20 then
    zgd (zin x1 2100) (
    zcv (call 37 [.ref h0, .int (σ.2.2.1 9 (x1).toNatClampNeg)] σ) fun s4 =>
    zgd (zin x1 2100) (
    zcv (call 37 [.ref h0, .int (s4.2.2.1 10 (x1).toNatClampNeg)] s4) fun s7 =>
    some (none, s7)))
  else
  if (σ.2.2.1 6 (x1).toNatClampNeg) = 21 then
    zgd (zin x1 2100) (
    zcv (call 37 [.ref h0, .int (σ.2.2.1 9 (x1).toNatClampNeg)] σ) fun s11 =>
    zgd (zin x1 2100) (
    zcv (call 37 [.ref h0, .int (s11.2.2.1 10 (x1).toNatClampNeg)] s11) fun s14 =>
    some (none, s14)))
  else
  if (σ.2.2.1 6 (x1).toNatClampNeg) = 22 then
    zgd (zin x1 2100) (
    zcv (call 37 [.ref h0, .int (σ.2.2.1 9 (x1).toNatClampNeg)] σ) fun s18 =>
    some (none, s18))
  else
  if (σ.2.2.1 6 (x1).toNatClampNeg) = 23 then
    some (none, σ)
  else
  if (σ.2.2.1 6 (x1).toNatClampNeg) = 24 then
    zgd (zin x1 2100) (
    zcv (call 35 [.ref h0, .int (σ.2.2.1 9 (x1).toNatClampNeg)] σ) fun s23 =>
    some (none, s23))
  else
  if (σ.2.2.1 6 (x1).toNatClampNeg) = 25 then
    zgd (zin x1 2100) (
    zcv (call 36 [.ref h0, .int (σ.2.2.1 9 (x1).toNatClampNeg)] σ) fun s27 =>
    zgd (zin x1 2100) (
    zcv (call 36 [.ref h0, .int (s27.2.2.1 10 (x1).toNatClampNeg)] s27) fun s30 =>
    some (none, s30)))
  else
  some (none, σ))
set_option maxHeartbeats 4000000 in
theorem pb_namesOfCondition {h0 : Nat} {qs : List Nat} {ks : Nat → Nat} {n : Nat} {call : zCl} {kc : Nat → List Value → zSt → (Option Value → zSt → Prop) → Prop} {v : Option Value × zSt} {X : Nat → zLv → List Value → zSt → Prop} (hX : zSem cX13_namesOfCondition 2 none h0 qs ks kc (fun r u => (r, u) = v) X) (hc : ∀ j av s w, call j av s = some w → kc j av s (fun r u => (r, u) = w)) {x1 : Int32} {σ : zSt} (h : b_namesOfCondition n call h0 qs ks x1 σ = some v) : X 0 [some (.ref h0), some (.int x1)] [] σ := by
  rw [b_namesOfCondition] at h
  refine zs_aload_n hX dX13_namesOfCondition_0 rfl rfl ?_
  refine zg_kind hX dX13_namesOfCondition_1 ?_
  refine zs_iload_n hX dX13_namesOfCondition_4 rfl rfl ?_
  obtain ⟨b1, h⟩ := zgd_e h
  refine zl_kind hX dX13_namesOfCondition_5 (zin_ok b1) ?_
  by_cases c2 : (σ.2.2.1 6 (x1).toNatClampNeg) = 20
  · rw [if_pos c2] at h
    refine zs_tableIn (tgt := 44) (off := 38) hX dX13_namesOfCondition_6 (by rw [c2]; decide) (by rw [c2]; decide) (by rw [c2]; rfl) (by decide) ?_
    refine zs_aload_n hX dX13_namesOfCondition_44 rfl rfl ?_
    refine zs_aload_n hX dX13_namesOfCondition_45 rfl rfl ?_
    refine zg_x1 hX dX13_namesOfCondition_46 ?_
    refine zs_iload_n hX dX13_namesOfCondition_49 rfl rfl ?_
    obtain ⟨b3, h⟩ := zgd_e h
    refine zl_x1 hX dX13_namesOfCondition_50 (zin_ok b3) ?_
    obtain ⟨s4, e5, h⟩ := zcv_e h
    refine zc_namesOfCondition hX dX13_namesOfCondition_51 (Nat.le_of_ble_eq_true rfl) (hc _ _ _ _ e5) (fun u9 h9 => ?_)
    cases h9
    refine zs_aload_n hX dX13_namesOfCondition_54 rfl rfl ?_
    refine zs_aload_n hX dX13_namesOfCondition_55 rfl rfl ?_
    refine zg_x2 hX dX13_namesOfCondition_56 ?_
    refine zs_iload_n hX dX13_namesOfCondition_59 rfl rfl ?_
    obtain ⟨b6, h⟩ := zgd_e h
    refine zl_x2 hX dX13_namesOfCondition_60 (zin_ok b6) ?_
    obtain ⟨s7, e8, h⟩ := zcv_e h
    refine zc_namesOfCondition hX dX13_namesOfCondition_61 (Nat.le_of_ble_eq_true rfl) (hc _ _ _ _ e8) (fun u9 h9 => ?_)
    cases h9
    refine zs_goto (tgt := 116) hX dX13_namesOfCondition_64 (by decide) ?_
    exact zs_vret hX dX13_namesOfCondition_116 rfl (Option.some.inj h)
  rw [if_neg c2] at h
  by_cases c9 : (σ.2.2.1 6 (x1).toNatClampNeg) = 21
  · rw [if_pos c9] at h
    refine zs_tableIn (tgt := 44) (off := 38) hX dX13_namesOfCondition_6 (by rw [c9]; decide) (by rw [c9]; decide) (by rw [c9]; rfl) (by decide) ?_
    refine zs_aload_n hX dX13_namesOfCondition_44 rfl rfl ?_
    refine zs_aload_n hX dX13_namesOfCondition_45 rfl rfl ?_
    refine zg_x1 hX dX13_namesOfCondition_46 ?_
    refine zs_iload_n hX dX13_namesOfCondition_49 rfl rfl ?_
    obtain ⟨b10, h⟩ := zgd_e h
    refine zl_x1 hX dX13_namesOfCondition_50 (zin_ok b10) ?_
    obtain ⟨s11, e12, h⟩ := zcv_e h
    refine zc_namesOfCondition hX dX13_namesOfCondition_51 (Nat.le_of_ble_eq_true rfl) (hc _ _ _ _ e12) (fun u9 h9 => ?_)
    cases h9
    refine zs_aload_n hX dX13_namesOfCondition_54 rfl rfl ?_
    refine zs_aload_n hX dX13_namesOfCondition_55 rfl rfl ?_
    refine zg_x2 hX dX13_namesOfCondition_56 ?_
    refine zs_iload_n hX dX13_namesOfCondition_59 rfl rfl ?_
    obtain ⟨b13, h⟩ := zgd_e h
    refine zl_x2 hX dX13_namesOfCondition_60 (zin_ok b13) ?_
    obtain ⟨s14, e15, h⟩ := zcv_e h
    refine zc_namesOfCondition hX dX13_namesOfCondition_61 (Nat.le_of_ble_eq_true rfl) (hc _ _ _ _ e15) (fun u9 h9 => ?_)
    cases h9
    refine zs_goto (tgt := 116) hX dX13_namesOfCondition_64 (by decide) ?_
    exact zs_vret hX dX13_namesOfCondition_116 rfl (Option.some.inj h)
  rw [if_neg c9] at h
  by_cases c16 : (σ.2.2.1 6 (x1).toNatClampNeg) = 22
  · rw [if_pos c16] at h
    refine zs_tableIn (tgt := 67) (off := 61) hX dX13_namesOfCondition_6 (by rw [c16]; decide) (by rw [c16]; decide) (by rw [c16]; rfl) (by decide) ?_
    refine zs_aload_n hX dX13_namesOfCondition_67 rfl rfl ?_
    refine zs_aload_n hX dX13_namesOfCondition_68 rfl rfl ?_
    refine zg_x1 hX dX13_namesOfCondition_69 ?_
    refine zs_iload_n hX dX13_namesOfCondition_72 rfl rfl ?_
    obtain ⟨b17, h⟩ := zgd_e h
    refine zl_x1 hX dX13_namesOfCondition_73 (zin_ok b17) ?_
    obtain ⟨s18, e19, h⟩ := zcv_e h
    refine zc_namesOfCondition hX dX13_namesOfCondition_74 (Nat.le_of_ble_eq_true rfl) (hc _ _ _ _ e19) (fun u9 h9 => ?_)
    cases h9
    refine zs_goto (tgt := 116) hX dX13_namesOfCondition_77 (by decide) ?_
    exact zs_vret hX dX13_namesOfCondition_116 rfl (Option.some.inj h)
  rw [if_neg c16] at h
  by_cases c20 : (σ.2.2.1 6 (x1).toNatClampNeg) = 23
  · rw [if_pos c20] at h
    refine zs_tableIn (tgt := 116) (off := 110) hX dX13_namesOfCondition_6 (by rw [c20]; decide) (by rw [c20]; decide) (by rw [c20]; rfl) (by decide) ?_
    exact zs_vret hX dX13_namesOfCondition_116 rfl (Option.some.inj h)
  rw [if_neg c20] at h
  by_cases c21 : (σ.2.2.1 6 (x1).toNatClampNeg) = 24
  · rw [if_pos c21] at h
    refine zs_tableIn (tgt := 80) (off := 74) hX dX13_namesOfCondition_6 (by rw [c21]; decide) (by rw [c21]; decide) (by rw [c21]; rfl) (by decide) ?_
    refine zs_aload_n hX dX13_namesOfCondition_80 rfl rfl ?_
    refine zs_aload_n hX dX13_namesOfCondition_81 rfl rfl ?_
    refine zg_x1 hX dX13_namesOfCondition_82 ?_
    refine zs_iload_n hX dX13_namesOfCondition_85 rfl rfl ?_
    obtain ⟨b22, h⟩ := zgd_e h
    refine zl_x1 hX dX13_namesOfCondition_86 (zin_ok b22) ?_
    obtain ⟨s23, e24, h⟩ := zcv_e h
    refine zc_uses hX dX13_namesOfCondition_87 (Nat.le_of_ble_eq_true rfl) (hc _ _ _ _ e24) (fun u9 h9 => ?_)
    cases h9
    refine zs_goto (tgt := 116) hX dX13_namesOfCondition_90 (by decide) ?_
    exact zs_vret hX dX13_namesOfCondition_116 rfl (Option.some.inj h)
  rw [if_neg c21] at h
  by_cases c25 : (σ.2.2.1 6 (x1).toNatClampNeg) = 25
  · rw [if_pos c25] at h
    refine zs_tableIn (tgt := 93) (off := 87) hX dX13_namesOfCondition_6 (by rw [c25]; decide) (by rw [c25]; decide) (by rw [c25]; rfl) (by decide) ?_
    refine zs_aload_n hX dX13_namesOfCondition_93 rfl rfl ?_
    refine zs_aload_n hX dX13_namesOfCondition_94 rfl rfl ?_
    refine zg_x1 hX dX13_namesOfCondition_95 ?_
    refine zs_iload_n hX dX13_namesOfCondition_98 rfl rfl ?_
    obtain ⟨b26, h⟩ := zgd_e h
    refine zl_x1 hX dX13_namesOfCondition_99 (zin_ok b26) ?_
    obtain ⟨s27, e28, h⟩ := zcv_e h
    refine zc_namesOfSum hX dX13_namesOfCondition_100 (Nat.le_of_ble_eq_true rfl) (hc _ _ _ _ e28) (fun u9 h9 => ?_)
    cases h9
    refine zs_aload_n hX dX13_namesOfCondition_103 rfl rfl ?_
    refine zs_aload_n hX dX13_namesOfCondition_104 rfl rfl ?_
    refine zg_x2 hX dX13_namesOfCondition_105 ?_
    refine zs_iload_n hX dX13_namesOfCondition_108 rfl rfl ?_
    obtain ⟨b29, h⟩ := zgd_e h
    refine zl_x2 hX dX13_namesOfCondition_109 (zin_ok b29) ?_
    obtain ⟨s30, e31, h⟩ := zcv_e h
    refine zc_namesOfSum hX dX13_namesOfCondition_110 (Nat.le_of_ble_eq_true rfl) (hc _ _ _ _ e31) (fun u9 h9 => ?_)
    cases h9
    refine zs_goto (tgt := 116) hX dX13_namesOfCondition_113 (by decide) ?_
    exact zs_vret hX dX13_namesOfCondition_116 rfl (Option.some.inj h)
  rw [if_neg c25] at h
  refine zs_tableOut (tgt := 116) hX dX13_namesOfCondition_6 (by have := z_ne c2 (k := 20) (by decide); have := z_ne c9 (k := 21) (by decide); have := z_ne c16 (k := 22) (by decide); have := z_ne c20 (k := 23) (by decide); have := z_ne c21 (k := 24) (by decide); have := z_ne c25 (k := 25) (by decide); omega) (by decide) ?_
  exact zs_vret hX dX13_namesOfCondition_116 rfl (Option.some.inj h)
def l_parameters_2 (n : Nat) (call : zCl) (h0 : Nat) (qs : List Nat) (ks : Nat → Nat) : Nat → Int32 → Int32 → zSt → zRs
  | 0, _, _, _ => none
  | f + 1, x1, x2, σ =>
    zgd (zin x1 2100) (
    zgd (zin ((σ.2.2.1 10 (x1).toNatClampNeg) + x2) 2010) (
    if (σ.2.2.1 3 (((σ.2.2.1 10 (x1).toNatClampNeg) + x2)).toNatClampNeg) = 1 then
      l_parameters_2 n call h0 qs ks f x1 (x2 + 1) σ
    else
      some (some (.int x2), σ)))
def b_parameters (n : Nat) (call : zCl) (h0 : Nat) (qs : List Nat) (ks : Nat → Nat) (x1 : Int32) (σ : zSt) : zRs :=
  l_parameters_2 n call h0 qs ks n x1 0 σ
set_option maxHeartbeats 4000000 in
theorem pl_parameters_2 {h0 : Nat} {qs : List Nat} {ks : Nat → Nat} {n : Nat} {call : zCl} {kc : Nat → List Value → zSt → (Option Value → zSt → Prop) → Prop} {v : Option Value × zSt} {X : Nat → zLv → List Value → zSt → Prop} (hX : zSem cX13_parameters 3 (some .int) h0 qs ks kc (fun r u => (r, u) = v) X) (hc : ∀ j av s w, call j av s = some w → kc j av s (fun r u => (r, u) = w)) : ∀ (f : Nat) (x1 : Int32) (x2 : Int32) (σ : zSt), l_parameters_2 n call h0 qs ks f x1 x2 σ = some v → X 2 [some (.ref h0), some (.int x1), some (.int x2)] [] σ := by
  intro f
  induction f with
  | zero => intro x1 x2 σ h; cases h
  | succ f hk2 =>
    intro x1 x2 σ h
    rw [l_parameters_2] at h
    refine zs_aload_n hX dX13_parameters_2 rfl rfl ?_
    refine zg_wKind hX dX13_parameters_3 ?_
    refine zs_aload_n hX dX13_parameters_6 rfl rfl ?_
    refine zg_x2 hX dX13_parameters_7 ?_
    refine zs_iload_n hX dX13_parameters_10 rfl rfl ?_
    obtain ⟨b1, h⟩ := zgd_e h
    refine zl_x2 hX dX13_parameters_11 (zin_ok b1) ?_
    refine zs_iload_n hX dX13_parameters_12 rfl rfl ?_
    refine zs_iadd hX dX13_parameters_13 ?_
    obtain ⟨b2, h⟩ := zgd_e h
    refine zl_wKind hX dX13_parameters_14 (zin_ok b2) ?_
    refine zs_iconst (v := 1) hX dX13_parameters_15 (by decide) ?_
    refine zs_icmp_ne (tgt := 25) hX dX13_parameters_16 (by decide) (fun c3 => ?_) (fun c3 => ?_)
    · rw [if_neg c3] at h
      refine zs_iload_n hX dX13_parameters_25 rfl rfl ?_
      exact zs_iret hX dX13_parameters_26 rfl (Option.some.inj h)
    · rw [if_pos c3] at h
      refine zs_iinc (v := x2 + 1) hX dX13_parameters_19 rfl rfl (by decide) rfl ?_
      dsimp only [List.set]
      refine zs_goto (tgt := 2) hX dX13_parameters_22 (by decide) ?_
      exact hk2 _ _ _ h
set_option maxHeartbeats 4000000 in
theorem pb_parameters {h0 : Nat} {qs : List Nat} {ks : Nat → Nat} {n : Nat} {call : zCl} {kc : Nat → List Value → zSt → (Option Value → zSt → Prop) → Prop} {v : Option Value × zSt} {X : Nat → zLv → List Value → zSt → Prop} (hX : zSem cX13_parameters 3 (some .int) h0 qs ks kc (fun r u => (r, u) = v) X) (hc : ∀ j av s w, call j av s = some w → kc j av s (fun r u => (r, u) = w)) {x1 : Int32} {σ : zSt} (h : b_parameters n call h0 qs ks x1 σ = some v) : X 0 [some (.ref h0), some (.int x1), none] [] σ := by
  rw [b_parameters] at h
  refine zs_iconst (v := 0) hX dX13_parameters_0 (by decide) ?_
  refine zs_istore_n hX dX13_parameters_1 rfl (by decide) rfl ?_
  dsimp only [List.set]
  exact pl_parameters_2 hX hc n _ _ _ h
def j_namesOf_596 (n : Nat) (call : zCl) (h0 : Nat) (qs : List Nat) (ks : Nat → Nat) (x2 : Int32) (σ : zSt) : zRs :=
  zlet (zI σ 51 x2) fun s1 =>
  some (none, s1)
def j_namesOf_488 (n : Nat) (call : zCl) (h0 : Nat) (qs : List Nat) (ks : Nat → Nat) (k422 : Int32 → Int32 → Int32 → zSt → zRs) (x1 : Int32) (x2 : Int32) (x3 : Int32) (σ : zSt) : zRs :=
  k422 x1 x2 (x3 + 1) σ
def l_namesOf_422 (n : Nat) (call : zCl) (h0 : Nat) (qs : List Nat) (ks : Nat → Nat) : Nat → Int32 → Int32 → Int32 → zSt → zRs
  | 0, _, _, _, _ => none
  | f + 1, x1, x2, x3, σ =>
    zgd (zin x1 2100) (
    if (σ.2.2.1 11 (x1).toNatClampNeg) ≤ x3 then
      j_namesOf_596 n call h0 qs ks x2 σ
    else
      zgd (zin x1 2100) (
      zgd (zin ((σ.2.2.1 10 (x1).toNatClampNeg) + x3) 2100) (
      if (σ.2.2.1 19 (((σ.2.2.1 10 (x1).toNatClampNeg) + x3)).toNatClampNeg) = 0 then
        zgd (zin ((σ.2.2.1 10 (x1).toNatClampNeg) + x3) 2100) (
        zcv (call 36 [.ref h0, .int (σ.2.2.1 20 (((σ.2.2.1 10 (x1).toNatClampNeg) + x3)).toNatClampNeg)] σ) fun s12 =>
        j_namesOf_488 n call h0 qs ks (l_namesOf_422 n call h0 qs ks f) x1 x2 x3 s12)
      else
        zgd (zin ((σ.2.2.1 10 (x1).toNatClampNeg) + x3) 2100) (
        if (σ.2.2.1 19 (((σ.2.2.1 10 (x1).toNatClampNeg) + x3)).toNatClampNeg) = 1 then
          zgd (zin ((σ.2.2.1 10 (x1).toNatClampNeg) + x3) 2100) (
          zcv (call 39 [.ref h0, .int (σ.2.2.1 20 (((σ.2.2.1 10 (x1).toNatClampNeg) + x3)).toNatClampNeg)] σ) fun s9 =>
          j_namesOf_488 n call h0 qs ks (l_namesOf_422 n call h0 qs ks f) x1 x2 x3 s9)
        else
          j_namesOf_488 n call h0 qs ks (l_namesOf_422 n call h0 qs ks f) x1 x2 x3 σ))))
def l_namesOf_165 (n : Nat) (call : zCl) (h0 : Nat) (qs : List Nat) (ks : Nat → Nat) : Nat → Int32 → Int32 → Int32 → Int32 → zSt → zRs
  | 0, _, _, _, _, _ => none
  | f + 1, x1, x2, x4, x5, σ =>
    if x4 ≤ x5 then
      zgd (zin x1 2100) (
      zcv (call 39 [.ref h0, .int (σ.2.2.1 11 (x1).toNatClampNeg)] σ) fun s3 =>
      zlet (zI s3 51 (x2 + 1)) fun s5 =>
      zgd (zin x1 2100) (
      zcv (call 39 [.ref h0, .int (s5.2.2.1 12 (x1).toNatClampNeg)] s5) fun s8 =>
      j_namesOf_596 n call h0 qs ks x2 s8))
    else
      zgd (zin x1 2100) (
      zci (call 33 [.ref h0, .int ((σ.2.2.1 10 (x1).toNatClampNeg) + x5)] σ) fun r13 s11 =>
      zcv (call 34 [.ref h0, .int r13] s11) fun s14 =>
      l_namesOf_165 n call h0 qs ks f x1 x2 x4 (x5 + 1) s14)
def b_namesOf (n : Nat) (call : zCl) (h0 : Nat) (qs : List Nat) (ks : Nat → Nat) (x1 : Int32) (σ : zSt) : zRs :=
  zgd (zin x1 2100) (
  if (σ.2.2.1 6 (x1).toNatClampNeg) = 1 then
    zgd (zin x1 2100) (
    zci (call 33 [.ref h0, .int (σ.2.2.1 9 (x1).toNatClampNeg)] σ) fun r6 s4 =>
    zgd (zin x1 2100) (
    zcv (call 39 [.ref h0, .int (s4.2.2.1 11 (x1).toNatClampNeg)] s4) fun s8 =>
    zcv (call 34 [.ref h0, .int r6] s8) fun s10 =>
    zgd (zin x1 2100) (
    zcv (call 39 [.ref h0, .int (s10.2.2.1 12 (x1).toNatClampNeg)] s10) fun s13 =>
    j_namesOf_596 n call h0 qs ks (σ.1 51) s13)))
  else
  if (σ.2.2.1 6 (x1).toNatClampNeg) = 2 then
    zgd (zin x1 2100) (
    zci (call 33 [.ref h0, .int (σ.2.2.1 9 (x1).toNatClampNeg)] σ) fun r19 s17 =>
    zci (call 38 [.ref h0, .int x1] s17) fun r22 s20 =>
    zcv (call 34 [.ref h0, .int r19] s20) fun s23 =>
    l_namesOf_165 n call h0 qs ks n x1 (σ.1 51) r22 0 s23)
  else
  if (σ.2.2.1 6 (x1).toNatClampNeg) = 3 then
    zgd (zin x1 2100) (
    zci (call 33 [.ref h0, .int (σ.2.2.1 9 (x1).toNatClampNeg)] σ) fun r29 s27 =>
    zcv (call 34 [.ref h0, .int r29] s27) fun s30 =>
    zgd (zin x1 2100) (
    zcv (call 39 [.ref h0, .int (s30.2.2.1 11 (x1).toNatClampNeg)] s30) fun s33 =>
    j_namesOf_596 n call h0 qs ks (σ.1 51) s33))
  else
  if (σ.2.2.1 6 (x1).toNatClampNeg) = 4 then
    zgd (zin x1 2100) (
    zcv (call 37 [.ref h0, .int (σ.2.2.1 9 (x1).toNatClampNeg)] σ) fun s37 =>
    zgd (zin x1 2100) (
    zcv (call 39 [.ref h0, .int (s37.2.2.1 11 (x1).toNatClampNeg)] s37) fun s40 =>
    zgd (zin x1 2100) (
    zcv (call 39 [.ref h0, .int (s40.2.2.1 12 (x1).toNatClampNeg)] s40) fun s43 =>
    j_namesOf_596 n call h0 qs ks (σ.1 51) s43)))
  else
  if (σ.2.2.1 6 (x1).toNatClampNeg) = 5 then
    zgd (zin x1 2100) (
    zcv (call 37 [.ref h0, .int (σ.2.2.1 9 (x1).toNatClampNeg)] σ) fun s47 =>
    zgd (zin x1 2100) (
    zcv (call 39 [.ref h0, .int (s47.2.2.1 11 (x1).toNatClampNeg)] s47) fun s50 =>
    j_namesOf_596 n call h0 qs ks (σ.1 51) s50))
  else
  if (σ.2.2.1 6 (x1).toNatClampNeg) = 6 then
    zgd (zin x1 2100) (
    zcv (call 35 [.ref h0, .int (σ.2.2.1 9 (x1).toNatClampNeg)] σ) fun s54 =>
    zgd (zin x1 2100) (
    zcv (call 36 [.ref h0, .int (s54.2.2.1 10 (x1).toNatClampNeg)] s54) fun s57 =>
    zgd (zin x1 2100) (
    zcv (call 36 [.ref h0, .int (s57.2.2.1 11 (x1).toNatClampNeg)] s57) fun s60 =>
    zgd (zin x1 2100) (
    zcv (call 39 [.ref h0, .int (s60.2.2.1 12 (x1).toNatClampNeg)] s60) fun s63 =>
    j_namesOf_596 n call h0 qs ks (σ.1 51) s63))))
  else
  if (σ.2.2.1 6 (x1).toNatClampNeg) = 7 then
    zgd (zin x1 2100) (
    zcv (call 36 [.ref h0, .int (σ.2.2.1 10 (x1).toNatClampNeg)] σ) fun s67 =>
    j_namesOf_596 n call h0 qs ks (σ.1 51) s67)
  else
  if (σ.2.2.1 6 (x1).toNatClampNeg) = 8 then
    j_namesOf_596 n call h0 qs ks (σ.1 51) σ
  else
  if (σ.2.2.1 6 (x1).toNatClampNeg) = 9 then
    j_namesOf_596 n call h0 qs ks (σ.1 51) σ
  else
  if (σ.2.2.1 6 (x1).toNatClampNeg) = 10 then
    zgd (zin x1 2100) (
    zcv (call 36 [.ref h0, .int (σ.2.2.1 10 (x1).toNatClampNeg)] σ) fun s73 =>
    j_namesOf_596 n call h0 qs ks (σ.1 51) s73)
  else
  if (σ.2.2.1 6 (x1).toNatClampNeg) = 11 then
    zgd (zin x1 2100) (
    zcv (call 36 [.ref h0, .int (σ.2.2.1 10 (x1).toNatClampNeg)] σ) fun s77 =>
    zgd (zin x1 2100) (
    zcv (call 36 [.ref h0, .int (s77.2.2.1 11 (x1).toNatClampNeg)] s77) fun s80 =>
    j_namesOf_596 n call h0 qs ks (σ.1 51) s80))
  else
  if (σ.2.2.1 6 (x1).toNatClampNeg) = 12 then
    zgd (zin x1 2100) (
    zcv (call 36 [.ref h0, .int (σ.2.2.1 10 (x1).toNatClampNeg)] σ) fun s84 =>
    zgd (zin x1 2100) (
    zcv (call 36 [.ref h0, .int (s84.2.2.1 11 (x1).toNatClampNeg)] s84) fun s87 =>
    j_namesOf_596 n call h0 qs ks (σ.1 51) s87))
  else
  if (σ.2.2.1 6 (x1).toNatClampNeg) = 13 then
    zgd (zin x1 2100) (
    zcv (call 36 [.ref h0, .int (σ.2.2.1 10 (x1).toNatClampNeg)] σ) fun s91 =>
    zgd (zin x1 2100) (
    zcv (call 36 [.ref h0, .int (s91.2.2.1 11 (x1).toNatClampNeg)] s91) fun s94 =>
    j_namesOf_596 n call h0 qs ks (σ.1 51) s94))
  else
  if (σ.2.2.1 6 (x1).toNatClampNeg) = 14 then
    zgd (zin x1 2100) (
    zcv (call 35 [.ref h0, .int (σ.2.2.1 9 (x1).toNatClampNeg)] σ) fun s98 =>
    zgd (zin x1 2100) (
    zcv (call 36 [.ref h0, .int (s98.2.2.1 10 (x1).toNatClampNeg)] s98) fun s101 =>
    j_namesOf_596 n call h0 qs ks (σ.1 51) s101))
  else
  if (σ.2.2.1 6 (x1).toNatClampNeg) = 15 then
    zgd (zin x1 2100) (
    zcv (call 35 [.ref h0, .int (σ.2.2.1 9 (x1).toNatClampNeg)] σ) fun s105 =>
    l_namesOf_422 n call h0 qs ks n x1 (σ.1 51) 0 s105)
  else
  if (σ.2.2.1 6 (x1).toNatClampNeg) = 16 then
    zgd (zin x1 2100) (
    zcv (call 39 [.ref h0, .int (σ.2.2.1 11 (x1).toNatClampNeg)] σ) fun s109 =>
    j_namesOf_596 n call h0 qs ks (σ.1 51) s109)
  else
  if (σ.2.2.1 6 (x1).toNatClampNeg) = 17 then
    j_namesOf_596 n call h0 qs ks (σ.1 51) σ
  else
  if (σ.2.2.1 6 (x1).toNatClampNeg) = 18 then
    zgd (zin x1 2100) (
    zcv (call 36 [.ref h0, .int (σ.2.2.1 10 (x1).toNatClampNeg)] σ) fun s114 =>
    zgd (zin x1 2100) (
    zcv (call 35 [.ref h0, .int (s114.2.2.1 9 (x1).toNatClampNeg)] s114) fun s117 =>
    j_namesOf_596 n call h0 qs ks (σ.1 51) s117))
  else
  if (σ.2.2.1 6 (x1).toNatClampNeg) = 19 then
    zgd (zin x1 2100) (
    zcv (call 35 [.ref h0, .int (σ.2.2.1 9 (x1).toNatClampNeg)] σ) fun s121 =>
    zgd (zin x1 2100) (
    zcv (call 39 [.ref h0, .int (s121.2.2.1 11 (x1).toNatClampNeg)] s121) fun s124 =>
    zgd (zin x1 2100) (
    zci (call 33 [.ref h0, .int (s124.2.2.1 10 (x1).toNatClampNeg)] s124) fun r129 s127 =>
    zcv (call 34 [.ref h0, .int r129] s127) fun s130 =>
    zgd (zin x1 2100) (
    zci (call 33 [.ref h0, .int ((s130.2.2.1 10 (x1).toNatClampNeg) + 1)] s130) fun r135 s133 =>
    zcv (call 34 [.ref h0, .int r135] s133) fun s136 =>
    zgd (zin x1 2100) (
    zcv (call 39 [.ref h0, .int (s136.2.2.1 12 (x1).toNatClampNeg)] s136) fun s139 =>
    j_namesOf_596 n call h0 qs ks (σ.1 51) s139)))))
  else
  j_namesOf_596 n call h0 qs ks (σ.1 51) σ)
set_option maxHeartbeats 4000000 in
theorem pj_namesOf_596 {h0 : Nat} {qs : List Nat} {ks : Nat → Nat} {n : Nat} {call : zCl} {kc : Nat → List Value → zSt → (Option Value → zSt → Prop) → Prop} {v : Option Value × zSt} {X : Nat → zLv → List Value → zSt → Prop} (hX : zSem cX13_namesOf 6 none h0 qs ks kc (fun r u => (r, u) = v) X) (hc : ∀ j av s w, call j av s = some w → kc j av s (fun r u => (r, u) = w)) {x2 : Int32} {σ : zSt} (h : j_namesOf_596 n call h0 qs ks x2 σ = some v) : X 596 [some (.ref h0), none, some (.int x2), none, none, none] [] σ := by
  rw [j_namesOf_596] at h
  refine zs_aload_n hX dX13_namesOf_596 rfl rfl ?_
  refine zs_iload_n hX dX13_namesOf_597 rfl rfl ?_
  obtain ⟨s1, e2, h⟩ := zlet_e h
  refine zp_scopes hX dX13_namesOf_598 ?_
  rw [← e2]
  exact zs_vret hX dX13_namesOf_601 rfl (Option.some.inj h)
set_option maxHeartbeats 4000000 in
theorem pj_namesOf_488 {h0 : Nat} {qs : List Nat} {ks : Nat → Nat} {n : Nat} {call : zCl} {kc : Nat → List Value → zSt → (Option Value → zSt → Prop) → Prop} {v : Option Value × zSt} {X : Nat → zLv → List Value → zSt → Prop} (hX : zSem cX13_namesOf 6 none h0 qs ks kc (fun r u => (r, u) = v) X) (hc : ∀ j av s w, call j av s = some w → kc j av s (fun r u => (r, u) = w)) {k422 : Int32 → Int32 → Int32 → zSt → zRs} (hk422 : ∀ (x1 : Int32) (x2 : Int32) (x3 : Int32) (s : zSt), k422 x1 x2 x3 s = some v → X 422 [some (.ref h0), some (.int x1), some (.int x2), some (.int x3), none, none] [] s) {x1 : Int32} {x2 : Int32} {x3 : Int32} {σ : zSt} (h : j_namesOf_488 n call h0 qs ks k422 x1 x2 x3 σ = some v) : X 488 [some (.ref h0), some (.int x1), some (.int x2), some (.int x3), none, none] [] σ := by
  rw [j_namesOf_488] at h
  refine zs_iinc (v := x3 + 1) hX dX13_namesOf_488 rfl rfl (by decide) rfl ?_
  dsimp only [List.set]
  refine zs_goto (tgt := 422) hX dX13_namesOf_491 (by decide) ?_
  exact hk422 _ _ _ _ h
set_option maxHeartbeats 4000000 in
theorem pl_namesOf_422 {h0 : Nat} {qs : List Nat} {ks : Nat → Nat} {n : Nat} {call : zCl} {kc : Nat → List Value → zSt → (Option Value → zSt → Prop) → Prop} {v : Option Value × zSt} {X : Nat → zLv → List Value → zSt → Prop} (hX : zSem cX13_namesOf 6 none h0 qs ks kc (fun r u => (r, u) = v) X) (hc : ∀ j av s w, call j av s = some w → kc j av s (fun r u => (r, u) = w)) : ∀ (f : Nat) (x1 : Int32) (x2 : Int32) (x3 : Int32) (σ : zSt), l_namesOf_422 n call h0 qs ks f x1 x2 x3 σ = some v → X 422 [some (.ref h0), some (.int x1), some (.int x2), some (.int x3), none, none] [] σ := by
  intro f
  induction f with
  | zero => intro x1 x2 x3 σ h; cases h
  | succ f hk422 =>
    intro x1 x2 x3 σ h
    rw [l_namesOf_422] at h
    refine zs_iload_n hX dX13_namesOf_422 rfl rfl ?_
    refine zs_aload_n hX dX13_namesOf_423 rfl rfl ?_
    refine zg_x3 hX dX13_namesOf_424 ?_
    refine zs_iload_n hX dX13_namesOf_427 rfl rfl ?_
    obtain ⟨b1, h⟩ := zgd_e h
    refine zl_x3 hX dX13_namesOf_428 (zin_ok b1) ?_
    refine zs_icmp_ge (tgt := 494) hX dX13_namesOf_429 (by decide) (fun c2 => ?_) (fun c2 => ?_)
    · rw [if_pos c2] at h
      refine zs_goto (tgt := 596) hX dX13_namesOf_494 (by decide) ?_
      refine zs_weak hX (lw := [some (.ref h0), none, some (.int x2), none, none, none]) ⟨rfl, rfl, trivial⟩ ?_
      exact pj_namesOf_596 hX hc h
    · rw [if_neg c2] at h
      refine zs_aload_n hX dX13_namesOf_432 rfl rfl ?_
      refine zg_x2 hX dX13_namesOf_433 ?_
      refine zs_iload_n hX dX13_namesOf_436 rfl rfl ?_
      obtain ⟨b3, h⟩ := zgd_e h
      refine zl_x2 hX dX13_namesOf_437 (zin_ok b3) ?_
      refine zs_iload_n hX dX13_namesOf_438 rfl rfl ?_
      refine zs_iadd hX dX13_namesOf_439 ?_
      refine zs_istore hX dX13_namesOf_440 (by decide) rfl ?_
      dsimp only [List.set]
      refine zs_aload_n hX dX13_namesOf_442 rfl rfl ?_
      refine zg_aKind hX dX13_namesOf_443 ?_
      refine zs_iload hX dX13_namesOf_446 rfl ?_
      obtain ⟨b4, h⟩ := zgd_e h
      refine zl_aKind hX dX13_namesOf_448 (zin_ok b4) ?_
      refine zs_if_ne (tgt := 466) hX dX13_namesOf_449 (by decide) (fun c5 => ?_) (fun c5 => ?_)
      · rw [if_neg c5] at h
        refine zs_aload_n hX dX13_namesOf_466 rfl rfl ?_
        refine zg_aKind hX dX13_namesOf_467 ?_
        refine zs_iload hX dX13_namesOf_470 rfl ?_
        obtain ⟨b6, h⟩ := zgd_e h
        refine zl_aKind hX dX13_namesOf_472 (zin_ok b6) ?_
        refine zs_iconst (v := 1) hX dX13_namesOf_473 (by decide) ?_
        refine zs_icmp_ne (tgt := 488) hX dX13_namesOf_474 (by decide) (fun c7 => ?_) (fun c7 => ?_)
        · rw [if_neg c7] at h
          refine zs_weak hX (lw := [some (.ref h0), some (.int x1), some (.int x2), some (.int x3), none, none]) ⟨rfl, rfl, rfl, rfl, trivial⟩ ?_
          exact pj_namesOf_488 hX hc hk422 h
        · rw [if_pos c7] at h
          refine zs_aload_n hX dX13_namesOf_477 rfl rfl ?_
          refine zs_aload_n hX dX13_namesOf_478 rfl rfl ?_
          refine zg_aWhat hX dX13_namesOf_479 ?_
          refine zs_iload hX dX13_namesOf_482 rfl ?_
          obtain ⟨b8, h⟩ := zgd_e h
          refine zl_aWhat hX dX13_namesOf_484 (zin_ok b8) ?_
          obtain ⟨s9, e10, h⟩ := zcv_e h
          refine zc_namesOf hX dX13_namesOf_485 (Nat.le_of_ble_eq_true rfl) (hc _ _ _ _ e10) (fun u9 h9 => ?_)
          cases h9
          refine zs_weak hX (lw := [some (.ref h0), some (.int x1), some (.int x2), some (.int x3), none, none]) ⟨rfl, rfl, rfl, rfl, trivial⟩ ?_
          exact pj_namesOf_488 hX hc hk422 h
      · rw [if_pos c5] at h
        refine zs_aload_n hX dX13_namesOf_452 rfl rfl ?_
        refine zs_aload_n hX dX13_namesOf_453 rfl rfl ?_
        refine zg_aWhat hX dX13_namesOf_454 ?_
        refine zs_iload hX dX13_namesOf_457 rfl ?_
        obtain ⟨b11, h⟩ := zgd_e h
        refine zl_aWhat hX dX13_namesOf_459 (zin_ok b11) ?_
        obtain ⟨s12, e13, h⟩ := zcv_e h
        refine zc_namesOfSum hX dX13_namesOf_460 (Nat.le_of_ble_eq_true rfl) (hc _ _ _ _ e13) (fun u9 h9 => ?_)
        cases h9
        refine zs_goto (tgt := 488) hX dX13_namesOf_463 (by decide) ?_
        refine zs_weak hX (lw := [some (.ref h0), some (.int x1), some (.int x2), some (.int x3), none, none]) ⟨rfl, rfl, rfl, rfl, trivial⟩ ?_
        exact pj_namesOf_488 hX hc hk422 h
set_option maxHeartbeats 4000000 in
theorem pl_namesOf_165 {h0 : Nat} {qs : List Nat} {ks : Nat → Nat} {n : Nat} {call : zCl} {kc : Nat → List Value → zSt → (Option Value → zSt → Prop) → Prop} {v : Option Value × zSt} {X : Nat → zLv → List Value → zSt → Prop} (hX : zSem cX13_namesOf 6 none h0 qs ks kc (fun r u => (r, u) = v) X) (hc : ∀ j av s w, call j av s = some w → kc j av s (fun r u => (r, u) = w)) : ∀ (f : Nat) (x1 : Int32) (x2 : Int32) (x4 : Int32) (x5 : Int32) (σ : zSt), l_namesOf_165 n call h0 qs ks f x1 x2 x4 x5 σ = some v → X 165 [some (.ref h0), some (.int x1), some (.int x2), none, some (.int x4), some (.int x5)] [] σ := by
  intro f
  induction f with
  | zero => intro x1 x2 x4 x5 σ h; cases h
  | succ f hk165 =>
    intro x1 x2 x4 x5 σ h
    rw [l_namesOf_165] at h
    refine zs_iload hX dX13_namesOf_165 rfl ?_
    refine zs_iload hX dX13_namesOf_167 rfl ?_
    refine zs_icmp_ge (tgt := 195) hX dX13_namesOf_169 (by decide) (fun c1 => ?_) (fun c1 => ?_)
    · rw [if_pos c1] at h
      refine zs_aload_n hX dX13_namesOf_195 rfl rfl ?_
      refine zs_aload_n hX dX13_namesOf_196 rfl rfl ?_
      refine zg_x3 hX dX13_namesOf_197 ?_
      refine zs_iload_n hX dX13_namesOf_200 rfl rfl ?_
      obtain ⟨b2, h⟩ := zgd_e h
      refine zl_x3 hX dX13_namesOf_201 (zin_ok b2) ?_
      obtain ⟨s3, e4, h⟩ := zcv_e h
      refine zc_namesOf hX dX13_namesOf_202 (Nat.le_of_ble_eq_true rfl) (hc _ _ _ _ e4) (fun u9 h9 => ?_)
      cases h9
      refine zs_aload_n hX dX13_namesOf_205 rfl rfl ?_
      refine zs_iload_n hX dX13_namesOf_206 rfl rfl ?_
      refine zs_iconst (v := 1) hX dX13_namesOf_207 (by decide) ?_
      refine zs_iadd hX dX13_namesOf_208 ?_
      obtain ⟨s5, e6, h⟩ := zlet_e h
      refine zp_scopes hX dX13_namesOf_209 ?_
      rw [← e6]
      refine zs_aload_n hX dX13_namesOf_212 rfl rfl ?_
      refine zs_aload_n hX dX13_namesOf_213 rfl rfl ?_
      refine zg_x4 hX dX13_namesOf_214 ?_
      refine zs_iload_n hX dX13_namesOf_217 rfl rfl ?_
      obtain ⟨b7, h⟩ := zgd_e h
      refine zl_x4 hX dX13_namesOf_218 (zin_ok b7) ?_
      obtain ⟨s8, e9, h⟩ := zcv_e h
      refine zc_namesOf hX dX13_namesOf_219 (Nat.le_of_ble_eq_true rfl) (hc _ _ _ _ e9) (fun u9 h9 => ?_)
      cases h9
      refine zs_goto (tgt := 596) hX dX13_namesOf_222 (by decide) ?_
      refine zs_weak hX (lw := [some (.ref h0), none, some (.int x2), none, none, none]) ⟨rfl, rfl, trivial⟩ ?_
      exact pj_namesOf_596 hX hc h
    · rw [if_neg c1] at h
      refine zs_aload_n hX dX13_namesOf_172 rfl rfl ?_
      refine zs_aload_n hX dX13_namesOf_173 rfl rfl ?_
      refine zs_aload_n hX dX13_namesOf_174 rfl rfl ?_
      refine zg_x2 hX dX13_namesOf_175 ?_
      refine zs_iload_n hX dX13_namesOf_178 rfl rfl ?_
      obtain ⟨b10, h⟩ := zgd_e h
      refine zl_x2 hX dX13_namesOf_179 (zin_ok b10) ?_
      refine zs_iload hX dX13_namesOf_180 rfl ?_
      refine zs_iadd hX dX13_namesOf_182 ?_
      obtain ⟨r13, s11, e12, h⟩ := zci_e h
      refine zc_tell hX dX13_namesOf_183 (Nat.le_of_ble_eq_true rfl) (hc _ _ _ _ e12) (fun r9 u9 h9 => ?_)
      cases h9
      obtain ⟨s14, e15, h⟩ := zcv_e h
      refine zc_counts hX dX13_namesOf_186 (Nat.le_of_ble_eq_true rfl) (hc _ _ _ _ e15) (fun u9 h9 => ?_)
      cases h9
      refine zs_iinc (v := x5 + 1) hX dX13_namesOf_189 rfl rfl (by decide) rfl ?_
      dsimp only [List.set]
      refine zs_goto (tgt := 165) hX dX13_namesOf_192 (by decide) ?_
      exact hk165 _ _ _ _ _ h
set_option maxHeartbeats 4000000 in
theorem pb_namesOf {h0 : Nat} {qs : List Nat} {ks : Nat → Nat} {n : Nat} {call : zCl} {kc : Nat → List Value → zSt → (Option Value → zSt → Prop) → Prop} {v : Option Value × zSt} {X : Nat → zLv → List Value → zSt → Prop} (hX : zSem cX13_namesOf 6 none h0 qs ks kc (fun r u => (r, u) = v) X) (hc : ∀ j av s w, call j av s = some w → kc j av s (fun r u => (r, u) = w)) {x1 : Int32} {σ : zSt} (h : b_namesOf n call h0 qs ks x1 σ = some v) : X 0 [some (.ref h0), some (.int x1), none, none, none, none] [] σ := by
  rw [b_namesOf] at h
  refine zs_aload_n hX dX13_namesOf_0 rfl rfl ?_
  refine zg_scopes hX dX13_namesOf_1 ?_
  refine zs_istore_n hX dX13_namesOf_4 rfl (by decide) rfl ?_
  dsimp only [List.set]
  refine zs_aload_n hX dX13_namesOf_5 rfl rfl ?_
  refine zg_kind hX dX13_namesOf_6 ?_
  refine zs_iload_n hX dX13_namesOf_9 rfl rfl ?_
  obtain ⟨b1, h⟩ := zgd_e h
  refine zl_kind hX dX13_namesOf_10 (zin_ok b1) ?_
  by_cases c2 : (σ.2.2.1 6 (x1).toNatClampNeg) = 1
  · rw [if_pos c2] at h
    refine zs_tableIn (tgt := 100) (off := 89) hX dX13_namesOf_11 (by rw [c2]; decide) (by rw [c2]; decide) (by rw [c2]; rfl) (by decide) ?_
    refine zs_aload_n hX dX13_namesOf_100 rfl rfl ?_
    refine zs_aload_n hX dX13_namesOf_101 rfl rfl ?_
    refine zg_x1 hX dX13_namesOf_102 ?_
    refine zs_iload_n hX dX13_namesOf_105 rfl rfl ?_
    obtain ⟨b3, h⟩ := zgd_e h
    refine zl_x1 hX dX13_namesOf_106 (zin_ok b3) ?_
    obtain ⟨r6, s4, e5, h⟩ := zci_e h
    refine zc_tell hX dX13_namesOf_107 (Nat.le_of_ble_eq_true rfl) (hc _ _ _ _ e5) (fun r9 u9 h9 => ?_)
    cases h9
    refine zs_istore_n hX dX13_namesOf_110 rfl (by decide) rfl ?_
    dsimp only [List.set]
    refine zs_aload_n hX dX13_namesOf_111 rfl rfl ?_
    refine zs_aload_n hX dX13_namesOf_112 rfl rfl ?_
    refine zg_x3 hX dX13_namesOf_113 ?_
    refine zs_iload_n hX dX13_namesOf_116 rfl rfl ?_
    obtain ⟨b7, h⟩ := zgd_e h
    refine zl_x3 hX dX13_namesOf_117 (zin_ok b7) ?_
    obtain ⟨s8, e9, h⟩ := zcv_e h
    refine zc_namesOf hX dX13_namesOf_118 (Nat.le_of_ble_eq_true rfl) (hc _ _ _ _ e9) (fun u9 h9 => ?_)
    cases h9
    refine zs_aload_n hX dX13_namesOf_121 rfl rfl ?_
    refine zs_iload_n hX dX13_namesOf_122 rfl rfl ?_
    obtain ⟨s10, e11, h⟩ := zcv_e h
    refine zc_counts hX dX13_namesOf_123 (Nat.le_of_ble_eq_true rfl) (hc _ _ _ _ e11) (fun u9 h9 => ?_)
    cases h9
    refine zs_aload_n hX dX13_namesOf_126 rfl rfl ?_
    refine zs_aload_n hX dX13_namesOf_127 rfl rfl ?_
    refine zg_x4 hX dX13_namesOf_128 ?_
    refine zs_iload_n hX dX13_namesOf_131 rfl rfl ?_
    obtain ⟨b12, h⟩ := zgd_e h
    refine zl_x4 hX dX13_namesOf_132 (zin_ok b12) ?_
    obtain ⟨s13, e14, h⟩ := zcv_e h
    refine zc_namesOf hX dX13_namesOf_133 (Nat.le_of_ble_eq_true rfl) (hc _ _ _ _ e14) (fun u9 h9 => ?_)
    cases h9
    refine zs_goto (tgt := 596) hX dX13_namesOf_136 (by decide) ?_
    refine zs_weak hX (lw := [some (.ref h0), none, some (.int (σ.1 51)), none, none, none]) ⟨rfl, rfl, trivial⟩ ?_
    exact pj_namesOf_596 hX hc h
  rw [if_neg c2] at h
  by_cases c15 : (σ.2.2.1 6 (x1).toNatClampNeg) = 2
  · rw [if_pos c15] at h
    refine zs_tableIn (tgt := 139) (off := 128) hX dX13_namesOf_11 (by rw [c15]; decide) (by rw [c15]; decide) (by rw [c15]; rfl) (by decide) ?_
    refine zs_aload_n hX dX13_namesOf_139 rfl rfl ?_
    refine zs_aload_n hX dX13_namesOf_140 rfl rfl ?_
    refine zg_x1 hX dX13_namesOf_141 ?_
    refine zs_iload_n hX dX13_namesOf_144 rfl rfl ?_
    obtain ⟨b16, h⟩ := zgd_e h
    refine zl_x1 hX dX13_namesOf_145 (zin_ok b16) ?_
    obtain ⟨r19, s17, e18, h⟩ := zci_e h
    refine zc_tell hX dX13_namesOf_146 (Nat.le_of_ble_eq_true rfl) (hc _ _ _ _ e18) (fun r9 u9 h9 => ?_)
    cases h9
    refine zs_istore_n hX dX13_namesOf_149 rfl (by decide) rfl ?_
    dsimp only [List.set]
    refine zs_aload_n hX dX13_namesOf_150 rfl rfl ?_
    refine zs_iload_n hX dX13_namesOf_151 rfl rfl ?_
    obtain ⟨r22, s20, e21, h⟩ := zci_e h
    refine zc_parameters hX dX13_namesOf_152 (Nat.le_of_ble_eq_true rfl) (hc _ _ _ _ e21) (fun r9 u9 h9 => ?_)
    cases h9
    refine zs_istore hX dX13_namesOf_155 (by decide) rfl ?_
    dsimp only [List.set]
    refine zs_aload_n hX dX13_namesOf_157 rfl rfl ?_
    refine zs_iload_n hX dX13_namesOf_158 rfl rfl ?_
    obtain ⟨s23, e24, h⟩ := zcv_e h
    refine zc_counts hX dX13_namesOf_159 (Nat.le_of_ble_eq_true rfl) (hc _ _ _ _ e24) (fun u9 h9 => ?_)
    cases h9
    refine zs_iconst (v := 0) hX dX13_namesOf_162 (by decide) ?_
    refine zs_istore hX dX13_namesOf_163 (by decide) rfl ?_
    dsimp only [List.set]
    refine zs_weak hX (lw := [some (.ref h0), some (.int x1), some (.int (σ.1 51)), none, some (.int r22), some (.int 0)]) ⟨rfl, rfl, rfl, rfl, rfl, trivial⟩ ?_
    exact pl_namesOf_165 hX hc n _ _ _ _ _ h
  rw [if_neg c15] at h
  by_cases c25 : (σ.2.2.1 6 (x1).toNatClampNeg) = 3
  · rw [if_pos c25] at h
    refine zs_tableIn (tgt := 225) (off := 214) hX dX13_namesOf_11 (by rw [c25]; decide) (by rw [c25]; decide) (by rw [c25]; rfl) (by decide) ?_
    refine zs_aload_n hX dX13_namesOf_225 rfl rfl ?_
    refine zs_aload_n hX dX13_namesOf_226 rfl rfl ?_
    refine zs_aload_n hX dX13_namesOf_227 rfl rfl ?_
    refine zg_x1 hX dX13_namesOf_228 ?_
    refine zs_iload_n hX dX13_namesOf_231 rfl rfl ?_
    obtain ⟨b26, h⟩ := zgd_e h
    refine zl_x1 hX dX13_namesOf_232 (zin_ok b26) ?_
    obtain ⟨r29, s27, e28, h⟩ := zci_e h
    refine zc_tell hX dX13_namesOf_233 (Nat.le_of_ble_eq_true rfl) (hc _ _ _ _ e28) (fun r9 u9 h9 => ?_)
    cases h9
    obtain ⟨s30, e31, h⟩ := zcv_e h
    refine zc_counts hX dX13_namesOf_236 (Nat.le_of_ble_eq_true rfl) (hc _ _ _ _ e31) (fun u9 h9 => ?_)
    cases h9
    refine zs_aload_n hX dX13_namesOf_239 rfl rfl ?_
    refine zs_aload_n hX dX13_namesOf_240 rfl rfl ?_
    refine zg_x3 hX dX13_namesOf_241 ?_
    refine zs_iload_n hX dX13_namesOf_244 rfl rfl ?_
    obtain ⟨b32, h⟩ := zgd_e h
    refine zl_x3 hX dX13_namesOf_245 (zin_ok b32) ?_
    obtain ⟨s33, e34, h⟩ := zcv_e h
    refine zc_namesOf hX dX13_namesOf_246 (Nat.le_of_ble_eq_true rfl) (hc _ _ _ _ e34) (fun u9 h9 => ?_)
    cases h9
    refine zs_goto (tgt := 596) hX dX13_namesOf_249 (by decide) ?_
    refine zs_weak hX (lw := [some (.ref h0), none, some (.int (σ.1 51)), none, none, none]) ⟨rfl, rfl, trivial⟩ ?_
    exact pj_namesOf_596 hX hc h
  rw [if_neg c25] at h
  by_cases c35 : (σ.2.2.1 6 (x1).toNatClampNeg) = 4
  · rw [if_pos c35] at h
    refine zs_tableIn (tgt := 252) (off := 241) hX dX13_namesOf_11 (by rw [c35]; decide) (by rw [c35]; decide) (by rw [c35]; rfl) (by decide) ?_
    refine zs_aload_n hX dX13_namesOf_252 rfl rfl ?_
    refine zs_aload_n hX dX13_namesOf_253 rfl rfl ?_
    refine zg_x1 hX dX13_namesOf_254 ?_
    refine zs_iload_n hX dX13_namesOf_257 rfl rfl ?_
    obtain ⟨b36, h⟩ := zgd_e h
    refine zl_x1 hX dX13_namesOf_258 (zin_ok b36) ?_
    obtain ⟨s37, e38, h⟩ := zcv_e h
    refine zc_namesOfCondition hX dX13_namesOf_259 (Nat.le_of_ble_eq_true rfl) (hc _ _ _ _ e38) (fun u9 h9 => ?_)
    cases h9
    refine zs_aload_n hX dX13_namesOf_262 rfl rfl ?_
    refine zs_aload_n hX dX13_namesOf_263 rfl rfl ?_
    refine zg_x3 hX dX13_namesOf_264 ?_
    refine zs_iload_n hX dX13_namesOf_267 rfl rfl ?_
    obtain ⟨b39, h⟩ := zgd_e h
    refine zl_x3 hX dX13_namesOf_268 (zin_ok b39) ?_
    obtain ⟨s40, e41, h⟩ := zcv_e h
    refine zc_namesOf hX dX13_namesOf_269 (Nat.le_of_ble_eq_true rfl) (hc _ _ _ _ e41) (fun u9 h9 => ?_)
    cases h9
    refine zs_aload_n hX dX13_namesOf_272 rfl rfl ?_
    refine zs_aload_n hX dX13_namesOf_273 rfl rfl ?_
    refine zg_x4 hX dX13_namesOf_274 ?_
    refine zs_iload_n hX dX13_namesOf_277 rfl rfl ?_
    obtain ⟨b42, h⟩ := zgd_e h
    refine zl_x4 hX dX13_namesOf_278 (zin_ok b42) ?_
    obtain ⟨s43, e44, h⟩ := zcv_e h
    refine zc_namesOf hX dX13_namesOf_279 (Nat.le_of_ble_eq_true rfl) (hc _ _ _ _ e44) (fun u9 h9 => ?_)
    cases h9
    refine zs_goto (tgt := 596) hX dX13_namesOf_282 (by decide) ?_
    refine zs_weak hX (lw := [some (.ref h0), none, some (.int (σ.1 51)), none, none, none]) ⟨rfl, rfl, trivial⟩ ?_
    exact pj_namesOf_596 hX hc h
  rw [if_neg c35] at h
  by_cases c45 : (σ.2.2.1 6 (x1).toNatClampNeg) = 5
  · rw [if_pos c45] at h
    refine zs_tableIn (tgt := 285) (off := 274) hX dX13_namesOf_11 (by rw [c45]; decide) (by rw [c45]; decide) (by rw [c45]; rfl) (by decide) ?_
    refine zs_aload_n hX dX13_namesOf_285 rfl rfl ?_
    refine zs_aload_n hX dX13_namesOf_286 rfl rfl ?_
    refine zg_x1 hX dX13_namesOf_287 ?_
    refine zs_iload_n hX dX13_namesOf_290 rfl rfl ?_
    obtain ⟨b46, h⟩ := zgd_e h
    refine zl_x1 hX dX13_namesOf_291 (zin_ok b46) ?_
    obtain ⟨s47, e48, h⟩ := zcv_e h
    refine zc_namesOfCondition hX dX13_namesOf_292 (Nat.le_of_ble_eq_true rfl) (hc _ _ _ _ e48) (fun u9 h9 => ?_)
    cases h9
    refine zs_aload_n hX dX13_namesOf_295 rfl rfl ?_
    refine zs_aload_n hX dX13_namesOf_296 rfl rfl ?_
    refine zg_x3 hX dX13_namesOf_297 ?_
    refine zs_iload_n hX dX13_namesOf_300 rfl rfl ?_
    obtain ⟨b49, h⟩ := zgd_e h
    refine zl_x3 hX dX13_namesOf_301 (zin_ok b49) ?_
    obtain ⟨s50, e51, h⟩ := zcv_e h
    refine zc_namesOf hX dX13_namesOf_302 (Nat.le_of_ble_eq_true rfl) (hc _ _ _ _ e51) (fun u9 h9 => ?_)
    cases h9
    refine zs_goto (tgt := 596) hX dX13_namesOf_305 (by decide) ?_
    refine zs_weak hX (lw := [some (.ref h0), none, some (.int (σ.1 51)), none, none, none]) ⟨rfl, rfl, trivial⟩ ?_
    exact pj_namesOf_596 hX hc h
  rw [if_neg c45] at h
  by_cases c52 : (σ.2.2.1 6 (x1).toNatClampNeg) = 6
  · rw [if_pos c52] at h
    refine zs_tableIn (tgt := 308) (off := 297) hX dX13_namesOf_11 (by rw [c52]; decide) (by rw [c52]; decide) (by rw [c52]; rfl) (by decide) ?_
    refine zs_aload_n hX dX13_namesOf_308 rfl rfl ?_
    refine zs_aload_n hX dX13_namesOf_309 rfl rfl ?_
    refine zg_x1 hX dX13_namesOf_310 ?_
    refine zs_iload_n hX dX13_namesOf_313 rfl rfl ?_
    obtain ⟨b53, h⟩ := zgd_e h
    refine zl_x1 hX dX13_namesOf_314 (zin_ok b53) ?_
    obtain ⟨s54, e55, h⟩ := zcv_e h
    refine zc_uses hX dX13_namesOf_315 (Nat.le_of_ble_eq_true rfl) (hc _ _ _ _ e55) (fun u9 h9 => ?_)
    cases h9
    refine zs_aload_n hX dX13_namesOf_318 rfl rfl ?_
    refine zs_aload_n hX dX13_namesOf_319 rfl rfl ?_
    refine zg_x2 hX dX13_namesOf_320 ?_
    refine zs_iload_n hX dX13_namesOf_323 rfl rfl ?_
    obtain ⟨b56, h⟩ := zgd_e h
    refine zl_x2 hX dX13_namesOf_324 (zin_ok b56) ?_
    obtain ⟨s57, e58, h⟩ := zcv_e h
    refine zc_namesOfSum hX dX13_namesOf_325 (Nat.le_of_ble_eq_true rfl) (hc _ _ _ _ e58) (fun u9 h9 => ?_)
    cases h9
    refine zs_aload_n hX dX13_namesOf_328 rfl rfl ?_
    refine zs_aload_n hX dX13_namesOf_329 rfl rfl ?_
    refine zg_x3 hX dX13_namesOf_330 ?_
    refine zs_iload_n hX dX13_namesOf_333 rfl rfl ?_
    obtain ⟨b59, h⟩ := zgd_e h
    refine zl_x3 hX dX13_namesOf_334 (zin_ok b59) ?_
    obtain ⟨s60, e61, h⟩ := zcv_e h
    refine zc_namesOfSum hX dX13_namesOf_335 (Nat.le_of_ble_eq_true rfl) (hc _ _ _ _ e61) (fun u9 h9 => ?_)
    cases h9
    refine zs_aload_n hX dX13_namesOf_338 rfl rfl ?_
    refine zs_aload_n hX dX13_namesOf_339 rfl rfl ?_
    refine zg_x4 hX dX13_namesOf_340 ?_
    refine zs_iload_n hX dX13_namesOf_343 rfl rfl ?_
    obtain ⟨b62, h⟩ := zgd_e h
    refine zl_x4 hX dX13_namesOf_344 (zin_ok b62) ?_
    obtain ⟨s63, e64, h⟩ := zcv_e h
    refine zc_namesOf hX dX13_namesOf_345 (Nat.le_of_ble_eq_true rfl) (hc _ _ _ _ e64) (fun u9 h9 => ?_)
    cases h9
    refine zs_goto (tgt := 596) hX dX13_namesOf_348 (by decide) ?_
    refine zs_weak hX (lw := [some (.ref h0), none, some (.int (σ.1 51)), none, none, none]) ⟨rfl, rfl, trivial⟩ ?_
    exact pj_namesOf_596 hX hc h
  rw [if_neg c52] at h
  by_cases c65 : (σ.2.2.1 6 (x1).toNatClampNeg) = 7
  · rw [if_pos c65] at h
    refine zs_tableIn (tgt := 351) (off := 340) hX dX13_namesOf_11 (by rw [c65]; decide) (by rw [c65]; decide) (by rw [c65]; rfl) (by decide) ?_
    refine zs_aload_n hX dX13_namesOf_351 rfl rfl ?_
    refine zs_aload_n hX dX13_namesOf_352 rfl rfl ?_
    refine zg_x2 hX dX13_namesOf_353 ?_
    refine zs_iload_n hX dX13_namesOf_356 rfl rfl ?_
    obtain ⟨b66, h⟩ := zgd_e h
    refine zl_x2 hX dX13_namesOf_357 (zin_ok b66) ?_
    obtain ⟨s67, e68, h⟩ := zcv_e h
    refine zc_namesOfSum hX dX13_namesOf_358 (Nat.le_of_ble_eq_true rfl) (hc _ _ _ _ e68) (fun u9 h9 => ?_)
    cases h9
    refine zs_goto (tgt := 596) hX dX13_namesOf_361 (by decide) ?_
    refine zs_weak hX (lw := [some (.ref h0), none, some (.int (σ.1 51)), none, none, none]) ⟨rfl, rfl, trivial⟩ ?_
    exact pj_namesOf_596 hX hc h
  rw [if_neg c65] at h
  by_cases c69 : (σ.2.2.1 6 (x1).toNatClampNeg) = 8
  · rw [if_pos c69] at h
    refine zs_tableIn (tgt := 596) (off := 585) hX dX13_namesOf_11 (by rw [c69]; decide) (by rw [c69]; decide) (by rw [c69]; rfl) (by decide) ?_
    refine zs_weak hX (lw := [some (.ref h0), none, some (.int (σ.1 51)), none, none, none]) ⟨rfl, rfl, trivial⟩ ?_
    exact pj_namesOf_596 hX hc h
  rw [if_neg c69] at h
  by_cases c70 : (σ.2.2.1 6 (x1).toNatClampNeg) = 9
  · rw [if_pos c70] at h
    refine zs_tableIn (tgt := 596) (off := 585) hX dX13_namesOf_11 (by rw [c70]; decide) (by rw [c70]; decide) (by rw [c70]; rfl) (by decide) ?_
    refine zs_weak hX (lw := [some (.ref h0), none, some (.int (σ.1 51)), none, none, none]) ⟨rfl, rfl, trivial⟩ ?_
    exact pj_namesOf_596 hX hc h
  rw [if_neg c70] at h
  by_cases c71 : (σ.2.2.1 6 (x1).toNatClampNeg) = 10
  · rw [if_pos c71] at h
    refine zs_tableIn (tgt := 351) (off := 340) hX dX13_namesOf_11 (by rw [c71]; decide) (by rw [c71]; decide) (by rw [c71]; rfl) (by decide) ?_
    refine zs_aload_n hX dX13_namesOf_351 rfl rfl ?_
    refine zs_aload_n hX dX13_namesOf_352 rfl rfl ?_
    refine zg_x2 hX dX13_namesOf_353 ?_
    refine zs_iload_n hX dX13_namesOf_356 rfl rfl ?_
    obtain ⟨b72, h⟩ := zgd_e h
    refine zl_x2 hX dX13_namesOf_357 (zin_ok b72) ?_
    obtain ⟨s73, e74, h⟩ := zcv_e h
    refine zc_namesOfSum hX dX13_namesOf_358 (Nat.le_of_ble_eq_true rfl) (hc _ _ _ _ e74) (fun u9 h9 => ?_)
    cases h9
    refine zs_goto (tgt := 596) hX dX13_namesOf_361 (by decide) ?_
    refine zs_weak hX (lw := [some (.ref h0), none, some (.int (σ.1 51)), none, none, none]) ⟨rfl, rfl, trivial⟩ ?_
    exact pj_namesOf_596 hX hc h
  rw [if_neg c71] at h
  by_cases c75 : (σ.2.2.1 6 (x1).toNatClampNeg) = 11
  · rw [if_pos c75] at h
    refine zs_tableIn (tgt := 364) (off := 353) hX dX13_namesOf_11 (by rw [c75]; decide) (by rw [c75]; decide) (by rw [c75]; rfl) (by decide) ?_
    refine zs_aload_n hX dX13_namesOf_364 rfl rfl ?_
    refine zs_aload_n hX dX13_namesOf_365 rfl rfl ?_
    refine zg_x2 hX dX13_namesOf_366 ?_
    refine zs_iload_n hX dX13_namesOf_369 rfl rfl ?_
    obtain ⟨b76, h⟩ := zgd_e h
    refine zl_x2 hX dX13_namesOf_370 (zin_ok b76) ?_
    obtain ⟨s77, e78, h⟩ := zcv_e h
    refine zc_namesOfSum hX dX13_namesOf_371 (Nat.le_of_ble_eq_true rfl) (hc _ _ _ _ e78) (fun u9 h9 => ?_)
    cases h9
    refine zs_aload_n hX dX13_namesOf_374 rfl rfl ?_
    refine zs_aload_n hX dX13_namesOf_375 rfl rfl ?_
    refine zg_x3 hX dX13_namesOf_376 ?_
    refine zs_iload_n hX dX13_namesOf_379 rfl rfl ?_
    obtain ⟨b79, h⟩ := zgd_e h
    refine zl_x3 hX dX13_namesOf_380 (zin_ok b79) ?_
    obtain ⟨s80, e81, h⟩ := zcv_e h
    refine zc_namesOfSum hX dX13_namesOf_381 (Nat.le_of_ble_eq_true rfl) (hc _ _ _ _ e81) (fun u9 h9 => ?_)
    cases h9
    refine zs_goto (tgt := 596) hX dX13_namesOf_384 (by decide) ?_
    refine zs_weak hX (lw := [some (.ref h0), none, some (.int (σ.1 51)), none, none, none]) ⟨rfl, rfl, trivial⟩ ?_
    exact pj_namesOf_596 hX hc h
  rw [if_neg c75] at h
  by_cases c82 : (σ.2.2.1 6 (x1).toNatClampNeg) = 12
  · rw [if_pos c82] at h
    refine zs_tableIn (tgt := 364) (off := 353) hX dX13_namesOf_11 (by rw [c82]; decide) (by rw [c82]; decide) (by rw [c82]; rfl) (by decide) ?_
    refine zs_aload_n hX dX13_namesOf_364 rfl rfl ?_
    refine zs_aload_n hX dX13_namesOf_365 rfl rfl ?_
    refine zg_x2 hX dX13_namesOf_366 ?_
    refine zs_iload_n hX dX13_namesOf_369 rfl rfl ?_
    obtain ⟨b83, h⟩ := zgd_e h
    refine zl_x2 hX dX13_namesOf_370 (zin_ok b83) ?_
    obtain ⟨s84, e85, h⟩ := zcv_e h
    refine zc_namesOfSum hX dX13_namesOf_371 (Nat.le_of_ble_eq_true rfl) (hc _ _ _ _ e85) (fun u9 h9 => ?_)
    cases h9
    refine zs_aload_n hX dX13_namesOf_374 rfl rfl ?_
    refine zs_aload_n hX dX13_namesOf_375 rfl rfl ?_
    refine zg_x3 hX dX13_namesOf_376 ?_
    refine zs_iload_n hX dX13_namesOf_379 rfl rfl ?_
    obtain ⟨b86, h⟩ := zgd_e h
    refine zl_x3 hX dX13_namesOf_380 (zin_ok b86) ?_
    obtain ⟨s87, e88, h⟩ := zcv_e h
    refine zc_namesOfSum hX dX13_namesOf_381 (Nat.le_of_ble_eq_true rfl) (hc _ _ _ _ e88) (fun u9 h9 => ?_)
    cases h9
    refine zs_goto (tgt := 596) hX dX13_namesOf_384 (by decide) ?_
    refine zs_weak hX (lw := [some (.ref h0), none, some (.int (σ.1 51)), none, none, none]) ⟨rfl, rfl, trivial⟩ ?_
    exact pj_namesOf_596 hX hc h
  rw [if_neg c82] at h
  by_cases c89 : (σ.2.2.1 6 (x1).toNatClampNeg) = 13
  · rw [if_pos c89] at h
    refine zs_tableIn (tgt := 364) (off := 353) hX dX13_namesOf_11 (by rw [c89]; decide) (by rw [c89]; decide) (by rw [c89]; rfl) (by decide) ?_
    refine zs_aload_n hX dX13_namesOf_364 rfl rfl ?_
    refine zs_aload_n hX dX13_namesOf_365 rfl rfl ?_
    refine zg_x2 hX dX13_namesOf_366 ?_
    refine zs_iload_n hX dX13_namesOf_369 rfl rfl ?_
    obtain ⟨b90, h⟩ := zgd_e h
    refine zl_x2 hX dX13_namesOf_370 (zin_ok b90) ?_
    obtain ⟨s91, e92, h⟩ := zcv_e h
    refine zc_namesOfSum hX dX13_namesOf_371 (Nat.le_of_ble_eq_true rfl) (hc _ _ _ _ e92) (fun u9 h9 => ?_)
    cases h9
    refine zs_aload_n hX dX13_namesOf_374 rfl rfl ?_
    refine zs_aload_n hX dX13_namesOf_375 rfl rfl ?_
    refine zg_x3 hX dX13_namesOf_376 ?_
    refine zs_iload_n hX dX13_namesOf_379 rfl rfl ?_
    obtain ⟨b93, h⟩ := zgd_e h
    refine zl_x3 hX dX13_namesOf_380 (zin_ok b93) ?_
    obtain ⟨s94, e95, h⟩ := zcv_e h
    refine zc_namesOfSum hX dX13_namesOf_381 (Nat.le_of_ble_eq_true rfl) (hc _ _ _ _ e95) (fun u9 h9 => ?_)
    cases h9
    refine zs_goto (tgt := 596) hX dX13_namesOf_384 (by decide) ?_
    refine zs_weak hX (lw := [some (.ref h0), none, some (.int (σ.1 51)), none, none, none]) ⟨rfl, rfl, trivial⟩ ?_
    exact pj_namesOf_596 hX hc h
  rw [if_neg c89] at h
  by_cases c96 : (σ.2.2.1 6 (x1).toNatClampNeg) = 14
  · rw [if_pos c96] at h
    refine zs_tableIn (tgt := 387) (off := 376) hX dX13_namesOf_11 (by rw [c96]; decide) (by rw [c96]; decide) (by rw [c96]; rfl) (by decide) ?_
    refine zs_aload_n hX dX13_namesOf_387 rfl rfl ?_
    refine zs_aload_n hX dX13_namesOf_388 rfl rfl ?_
    refine zg_x1 hX dX13_namesOf_389 ?_
    refine zs_iload_n hX dX13_namesOf_392 rfl rfl ?_
    obtain ⟨b97, h⟩ := zgd_e h
    refine zl_x1 hX dX13_namesOf_393 (zin_ok b97) ?_
    obtain ⟨s98, e99, h⟩ := zcv_e h
    refine zc_uses hX dX13_namesOf_394 (Nat.le_of_ble_eq_true rfl) (hc _ _ _ _ e99) (fun u9 h9 => ?_)
    cases h9
    refine zs_aload_n hX dX13_namesOf_397 rfl rfl ?_
    refine zs_aload_n hX dX13_namesOf_398 rfl rfl ?_
    refine zg_x2 hX dX13_namesOf_399 ?_
    refine zs_iload_n hX dX13_namesOf_402 rfl rfl ?_
    obtain ⟨b100, h⟩ := zgd_e h
    refine zl_x2 hX dX13_namesOf_403 (zin_ok b100) ?_
    obtain ⟨s101, e102, h⟩ := zcv_e h
    refine zc_namesOfSum hX dX13_namesOf_404 (Nat.le_of_ble_eq_true rfl) (hc _ _ _ _ e102) (fun u9 h9 => ?_)
    cases h9
    refine zs_goto (tgt := 596) hX dX13_namesOf_407 (by decide) ?_
    refine zs_weak hX (lw := [some (.ref h0), none, some (.int (σ.1 51)), none, none, none]) ⟨rfl, rfl, trivial⟩ ?_
    exact pj_namesOf_596 hX hc h
  rw [if_neg c96] at h
  by_cases c103 : (σ.2.2.1 6 (x1).toNatClampNeg) = 15
  · rw [if_pos c103] at h
    refine zs_tableIn (tgt := 410) (off := 399) hX dX13_namesOf_11 (by rw [c103]; decide) (by rw [c103]; decide) (by rw [c103]; rfl) (by decide) ?_
    refine zs_aload_n hX dX13_namesOf_410 rfl rfl ?_
    refine zs_aload_n hX dX13_namesOf_411 rfl rfl ?_
    refine zg_x1 hX dX13_namesOf_412 ?_
    refine zs_iload_n hX dX13_namesOf_415 rfl rfl ?_
    obtain ⟨b104, h⟩ := zgd_e h
    refine zl_x1 hX dX13_namesOf_416 (zin_ok b104) ?_
    obtain ⟨s105, e106, h⟩ := zcv_e h
    refine zc_uses hX dX13_namesOf_417 (Nat.le_of_ble_eq_true rfl) (hc _ _ _ _ e106) (fun u9 h9 => ?_)
    cases h9
    refine zs_iconst (v := 0) hX dX13_namesOf_420 (by decide) ?_
    refine zs_istore_n hX dX13_namesOf_421 rfl (by decide) rfl ?_
    dsimp only [List.set]
    exact pl_namesOf_422 hX hc n _ _ _ _ h
  rw [if_neg c103] at h
  by_cases c107 : (σ.2.2.1 6 (x1).toNatClampNeg) = 16
  · rw [if_pos c107] at h
    refine zs_tableIn (tgt := 583) (off := 572) hX dX13_namesOf_11 (by rw [c107]; decide) (by rw [c107]; decide) (by rw [c107]; rfl) (by decide) ?_
    refine zs_aload_n hX dX13_namesOf_583 rfl rfl ?_
    refine zs_aload_n hX dX13_namesOf_584 rfl rfl ?_
    refine zg_x3 hX dX13_namesOf_585 ?_
    refine zs_iload_n hX dX13_namesOf_588 rfl rfl ?_
    obtain ⟨b108, h⟩ := zgd_e h
    refine zl_x3 hX dX13_namesOf_589 (zin_ok b108) ?_
    obtain ⟨s109, e110, h⟩ := zcv_e h
    refine zc_namesOf hX dX13_namesOf_590 (Nat.le_of_ble_eq_true rfl) (hc _ _ _ _ e110) (fun u9 h9 => ?_)
    cases h9
    refine zs_goto (tgt := 596) hX dX13_namesOf_593 (by decide) ?_
    refine zs_weak hX (lw := [some (.ref h0), none, some (.int (σ.1 51)), none, none, none]) ⟨rfl, rfl, trivial⟩ ?_
    exact pj_namesOf_596 hX hc h
  rw [if_neg c107] at h
  by_cases c111 : (σ.2.2.1 6 (x1).toNatClampNeg) = 17
  · rw [if_pos c111] at h
    refine zs_tableIn (tgt := 596) (off := 585) hX dX13_namesOf_11 (by rw [c111]; decide) (by rw [c111]; decide) (by rw [c111]; rfl) (by decide) ?_
    refine zs_weak hX (lw := [some (.ref h0), none, some (.int (σ.1 51)), none, none, none]) ⟨rfl, rfl, trivial⟩ ?_
    exact pj_namesOf_596 hX hc h
  rw [if_neg c111] at h
  by_cases c112 : (σ.2.2.1 6 (x1).toNatClampNeg) = 18
  · rw [if_pos c112] at h
    refine zs_tableIn (tgt := 497) (off := 486) hX dX13_namesOf_11 (by rw [c112]; decide) (by rw [c112]; decide) (by rw [c112]; rfl) (by decide) ?_
    refine zs_aload_n hX dX13_namesOf_497 rfl rfl ?_
    refine zs_aload_n hX dX13_namesOf_498 rfl rfl ?_
    refine zg_x2 hX dX13_namesOf_499 ?_
    refine zs_iload_n hX dX13_namesOf_502 rfl rfl ?_
    obtain ⟨b113, h⟩ := zgd_e h
    refine zl_x2 hX dX13_namesOf_503 (zin_ok b113) ?_
    obtain ⟨s114, e115, h⟩ := zcv_e h
    refine zc_namesOfSum hX dX13_namesOf_504 (Nat.le_of_ble_eq_true rfl) (hc _ _ _ _ e115) (fun u9 h9 => ?_)
    cases h9
    refine zs_aload_n hX dX13_namesOf_507 rfl rfl ?_
    refine zs_aload_n hX dX13_namesOf_508 rfl rfl ?_
    refine zg_x1 hX dX13_namesOf_509 ?_
    refine zs_iload_n hX dX13_namesOf_512 rfl rfl ?_
    obtain ⟨b116, h⟩ := zgd_e h
    refine zl_x1 hX dX13_namesOf_513 (zin_ok b116) ?_
    obtain ⟨s117, e118, h⟩ := zcv_e h
    refine zc_uses hX dX13_namesOf_514 (Nat.le_of_ble_eq_true rfl) (hc _ _ _ _ e118) (fun u9 h9 => ?_)
    cases h9
    refine zs_goto (tgt := 596) hX dX13_namesOf_517 (by decide) ?_
    refine zs_weak hX (lw := [some (.ref h0), none, some (.int (σ.1 51)), none, none, none]) ⟨rfl, rfl, trivial⟩ ?_
    exact pj_namesOf_596 hX hc h
  rw [if_neg c112] at h
  by_cases c119 : (σ.2.2.1 6 (x1).toNatClampNeg) = 19
  · rw [if_pos c119] at h
    refine zs_tableIn (tgt := 520) (off := 509) hX dX13_namesOf_11 (by rw [c119]; decide) (by rw [c119]; decide) (by rw [c119]; rfl) (by decide) ?_
    refine zs_aload_n hX dX13_namesOf_520 rfl rfl ?_
    refine zs_aload_n hX dX13_namesOf_521 rfl rfl ?_
    refine zg_x1 hX dX13_namesOf_522 ?_
    refine zs_iload_n hX dX13_namesOf_525 rfl rfl ?_
    obtain ⟨b120, h⟩ := zgd_e h
    refine zl_x1 hX dX13_namesOf_526 (zin_ok b120) ?_
    obtain ⟨s121, e122, h⟩ := zcv_e h
    refine zc_uses hX dX13_namesOf_527 (Nat.le_of_ble_eq_true rfl) (hc _ _ _ _ e122) (fun u9 h9 => ?_)
    cases h9
    refine zs_aload_n hX dX13_namesOf_530 rfl rfl ?_
    refine zs_aload_n hX dX13_namesOf_531 rfl rfl ?_
    refine zg_x3 hX dX13_namesOf_532 ?_
    refine zs_iload_n hX dX13_namesOf_535 rfl rfl ?_
    obtain ⟨b123, h⟩ := zgd_e h
    refine zl_x3 hX dX13_namesOf_536 (zin_ok b123) ?_
    obtain ⟨s124, e125, h⟩ := zcv_e h
    refine zc_namesOf hX dX13_namesOf_537 (Nat.le_of_ble_eq_true rfl) (hc _ _ _ _ e125) (fun u9 h9 => ?_)
    cases h9
    refine zs_aload_n hX dX13_namesOf_540 rfl rfl ?_
    refine zs_aload_n hX dX13_namesOf_541 rfl rfl ?_
    refine zs_aload_n hX dX13_namesOf_542 rfl rfl ?_
    refine zg_x2 hX dX13_namesOf_543 ?_
    refine zs_iload_n hX dX13_namesOf_546 rfl rfl ?_
    obtain ⟨b126, h⟩ := zgd_e h
    refine zl_x2 hX dX13_namesOf_547 (zin_ok b126) ?_
    obtain ⟨r129, s127, e128, h⟩ := zci_e h
    refine zc_tell hX dX13_namesOf_548 (Nat.le_of_ble_eq_true rfl) (hc _ _ _ _ e128) (fun r9 u9 h9 => ?_)
    cases h9
    obtain ⟨s130, e131, h⟩ := zcv_e h
    refine zc_counts hX dX13_namesOf_551 (Nat.le_of_ble_eq_true rfl) (hc _ _ _ _ e131) (fun u9 h9 => ?_)
    cases h9
    refine zs_aload_n hX dX13_namesOf_554 rfl rfl ?_
    refine zs_aload_n hX dX13_namesOf_555 rfl rfl ?_
    refine zs_aload_n hX dX13_namesOf_556 rfl rfl ?_
    refine zg_x2 hX dX13_namesOf_557 ?_
    refine zs_iload_n hX dX13_namesOf_560 rfl rfl ?_
    obtain ⟨b132, h⟩ := zgd_e h
    refine zl_x2 hX dX13_namesOf_561 (zin_ok b132) ?_
    refine zs_iconst (v := 1) hX dX13_namesOf_562 (by decide) ?_
    refine zs_iadd hX dX13_namesOf_563 ?_
    obtain ⟨r135, s133, e134, h⟩ := zci_e h
    refine zc_tell hX dX13_namesOf_564 (Nat.le_of_ble_eq_true rfl) (hc _ _ _ _ e134) (fun r9 u9 h9 => ?_)
    cases h9
    obtain ⟨s136, e137, h⟩ := zcv_e h
    refine zc_counts hX dX13_namesOf_567 (Nat.le_of_ble_eq_true rfl) (hc _ _ _ _ e137) (fun u9 h9 => ?_)
    cases h9
    refine zs_aload_n hX dX13_namesOf_570 rfl rfl ?_
    refine zs_aload_n hX dX13_namesOf_571 rfl rfl ?_
    refine zg_x4 hX dX13_namesOf_572 ?_
    refine zs_iload_n hX dX13_namesOf_575 rfl rfl ?_
    obtain ⟨b138, h⟩ := zgd_e h
    refine zl_x4 hX dX13_namesOf_576 (zin_ok b138) ?_
    obtain ⟨s139, e140, h⟩ := zcv_e h
    refine zc_namesOf hX dX13_namesOf_577 (Nat.le_of_ble_eq_true rfl) (hc _ _ _ _ e140) (fun u9 h9 => ?_)
    cases h9
    refine zs_goto (tgt := 596) hX dX13_namesOf_580 (by decide) ?_
    refine zs_weak hX (lw := [some (.ref h0), none, some (.int (σ.1 51)), none, none, none]) ⟨rfl, rfl, trivial⟩ ?_
    exact pj_namesOf_596 hX hc h
  rw [if_neg c119] at h
  refine zs_tableOut (tgt := 596) hX dX13_namesOf_11 (by have := z_ne c2 (k := 1) (by decide); have := z_ne c15 (k := 2) (by decide); have := z_ne c25 (k := 3) (by decide); have := z_ne c35 (k := 4) (by decide); have := z_ne c45 (k := 5) (by decide); have := z_ne c52 (k := 6) (by decide); have := z_ne c65 (k := 7) (by decide); have := z_ne c69 (k := 8) (by decide); have := z_ne c70 (k := 9) (by decide); have := z_ne c71 (k := 10) (by decide); have := z_ne c75 (k := 11) (by decide); have := z_ne c82 (k := 12) (by decide); have := z_ne c89 (k := 13) (by decide); have := z_ne c96 (k := 14) (by decide); have := z_ne c103 (k := 15) (by decide); have := z_ne c107 (k := 16) (by decide); have := z_ne c111 (k := 17) (by decide); have := z_ne c112 (k := 18) (by decide); have := z_ne c119 (k := 19) (by decide); omega) (by decide) ?_
  refine zs_weak hX (lw := [some (.ref h0), none, some (.int (σ.1 51)), none, none, none]) ⟨rfl, rfl, trivial⟩ ?_
  exact pj_namesOf_596 hX hc h
