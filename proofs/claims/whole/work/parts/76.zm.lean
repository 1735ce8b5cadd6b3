/-! the methods of the reference as plain functions (100 to 119) -/
def j_compares_197 (n : Nat) (call : zCl) (h0 : Nat) (qs : List Nat) (ks : Nat → Nat) (x4 : Int32) (σ : zSt) : zRs :=
  zlet (zI σ 152 x4) fun s1 =>
  some (none, s1)
def j_compares_193 (n : Nat) (call : zCl) (h0 : Nat) (qs : List Nat) (ks : Nat → Nat) (x4 : Int32) (σ : zSt) : zRs :=
  zcv (call 101 [.ref h0] σ) fun s1 =>
  j_compares_197 n call h0 qs ks x4 s1
def j_compares_190 (n : Nat) (call : zCl) (h0 : Nat) (qs : List Nat) (ks : Nat → Nat) (x4 : Int32) (t1 : Int32) (t2 : Int64) (σ : zSt) : zRs :=
  zcv (call 97 [.ref h0, .int t1, .long t2] σ) fun s1 =>
  j_compares_193 n call h0 qs ks x4 s1
def j_compares_178 (n : Nat) (call : zCl) (h0 : Nat) (qs : List Nat) (ks : Nat → Nat) (x3 : Int32) (x4 : Int32) (σ : zSt) : zRs :=
  if x3 = 3 then
    j_compares_190 n call h0 qs ks x4 (-1) 1 σ
  else
    j_compares_190 n call h0 qs ks x4 (-1) 0 σ
def j_compares_169 (n : Nat) (call : zCl) (h0 : Nat) (qs : List Nat) (ks : Nat → Nat) (x3 : Int32) (x4 : Int32) (σ : zSt) : zRs :=
  if x3 = 0 then
    j_compares_178 n call h0 qs ks x3 x4 σ
  else
    if x3 ≤ 2 then
      j_compares_193 n call h0 qs ks x4 σ
    else
      j_compares_178 n call h0 qs ks x3 x4 σ
def j_compares_166 (n : Nat) (call : zCl) (h0 : Nat) (qs : List Nat) (ks : Nat → Nat) (x3 : Int32) (x4 : Int32) (t1 : Int32) (t2 : Int64) (σ : zSt) : zRs :=
  zcv (call 97 [.ref h0, .int t1, .long t2] σ) fun s1 =>
  j_compares_169 n call h0 qs ks x3 x4 s1
def j_compares_57 (n : Nat) (call : zCl) (h0 : Nat) (qs : List Nat) (ks : Nat → Nat) (x1 : Int32) (x3 : Int32) (σ : zSt) : zRs :=
  zcv (call 53 [.ref h0] σ) fun s1 =>
  zgd (zin x1 2100) (
  zcv (call 55 [.ref h0, .int (s1.2.2.1 9 (x1).toNatClampNeg), .int 1] s1) fun s4 =>
  zgd (zin x1 2100) (
  zcv (call 55 [.ref h0, .int (s4.2.2.1 10 (x1).toNatClampNeg), .int (-1)] s4) fun s7 =>
  if x3 = 5 then
    zcv (call 97 [.ref h0, .int 1, .long 1] s7) fun s12 =>
    zcv (call 101 [.ref h0] s12) fun s14 =>
    zlet (zI s14 152 (s7.1 152)) fun s16 =>
    zcv (call 53 [.ref h0] s16) fun s18 =>
    zgd (zin x1 2100) (
    zcv (call 55 [.ref h0, .int (s18.2.2.1 9 (x1).toNatClampNeg), .int 1] s18) fun s21 =>
    zgd (zin x1 2100) (
    zcv (call 55 [.ref h0, .int (s21.2.2.1 10 (x1).toNatClampNeg), .int (-1)] s21) fun s24 =>
    zcv (call 97 [.ref h0, .int (-1), .long 1] s24) fun s26 =>
    zcv (call 101 [.ref h0] s26) fun s28 =>
    j_compares_197 n call h0 qs ks (s7.1 152) s28))
  else
    if 3 ≤ x3 then
      j_compares_169 n call h0 qs ks x3 (s7.1 152) s7
    else
      if x3 = 1 then
        j_compares_166 n call h0 qs ks x3 (s7.1 152) 1 1 s7
      else
        j_compares_166 n call h0 qs ks x3 (s7.1 152) 1 0 s7))
def j_compares_56 (n : Nat) (call : zCl) (h0 : Nat) (qs : List Nat) (ks : Nat → Nat) (x1 : Int32) (t0 : Int32) (σ : zSt) : zRs :=
  j_compares_57 n call h0 qs ks x1 t0 σ
def b_compares (n : Nat) (call : zCl) (h0 : Nat) (qs : List Nat) (ks : Nat → Nat) (x1 : Int32) (x2 : Int32) (σ : zSt) : zRs :=
  zgd (zin x1 2100) (
  if x2 = 0 then
    if (σ.2.2.1 11 (x1).toNatClampNeg) = 0 then
      j_compares_56 n call h0 qs ks x1 5 σ
    else
      if (σ.2.2.1 11 (x1).toNatClampNeg) = 5 then
        j_compares_56 n call h0 qs ks x1 0 σ
      else
        if (σ.2.2.1 11 (x1).toNatClampNeg) = 1 then
          j_compares_56 n call h0 qs ks x1 4 σ
        else
          if (σ.2.2.1 11 (x1).toNatClampNeg) = 4 then
            j_compares_56 n call h0 qs ks x1 1 σ
          else
            if (σ.2.2.1 11 (x1).toNatClampNeg) = 2 then
              j_compares_56 n call h0 qs ks x1 3 σ
            else
              j_compares_56 n call h0 qs ks x1 2 σ
  else
    j_compares_57 n call h0 qs ks x1 (σ.2.2.1 11 (x1).toNatClampNeg) σ)
set_option maxHeartbeats 4000000 in
theorem pj_compares_197 {h0 : Nat} {qs : List Nat} {ks : Nat → Nat} {n : Nat} {call : zCl} {kc : Nat → List Value → zSt → (Option Value → zSt → Prop) → Prop} {v : Option Value × zSt} {X : Nat → zLv → List Value → zSt → Prop} (hX : zSem cX13_compares 5 none h0 qs ks kc (fun r u => (r, u) = v) X) (hc : ∀ j av s w, call j av s = some w → kc j av s (fun r u => (r, u) = w)) {x4 : Int32} {σ : zSt} (h : j_compares_197 n call h0 qs ks x4 σ = some v) : X 197 [some (.ref h0), none, none, none, some (.int x4)] [] σ := by
  rw [j_compares_197] at h
  refine zs_aload_n hX dX13_compares_197 rfl rfl ?_
  refine zs_iload hX dX13_compares_198 rfl ?_
  obtain ⟨s1, e2, h⟩ := zlet_e h
  refine zp_ways hX dX13_compares_200 ?_
  rw [← e2]
  exact zs_vret hX dX13_compares_203 rfl (Option.some.inj h)
set_option maxHeartbeats 4000000 in
theorem pj_compares_193 {h0 : Nat} {qs : List Nat} {ks : Nat → Nat} {n : Nat} {call : zCl} {kc : Nat → List Value → zSt → (Option Value → zSt → Prop) → Prop} {v : Option Value × zSt} {X : Nat → zLv → List Value → zSt → Prop} (hX : zSem cX13_compares 5 none h0 qs ks kc (fun r u => (r, u) = v) X) (hc : ∀ j av s w, call j av s = some w → kc j av s (fun r u => (r, u) = w)) {x4 : Int32} {σ : zSt} (h : j_compares_193 n call h0 qs ks x4 σ = some v) : X 193 [some (.ref h0), none, none, none, some (.int x4)] [] σ := by
  rw [j_compares_193] at h
  refine zs_aload_n hX dX13_compares_193 rfl rfl ?_
  obtain ⟨s1, e2, h⟩ := zcv_e h
  refine zc_go hX dX13_compares_194 (Nat.le_of_ble_eq_true rfl) (hc _ _ _ _ e2) (fun u9 h9 => ?_)
  cases h9
  exact pj_compares_197 hX hc h
set_option maxHeartbeats 4000000 in
theorem pj_compares_190 {h0 : Nat} {qs : List Nat} {ks : Nat → Nat} {n : Nat} {call : zCl} {kc : Nat → List Value → zSt → (Option Value → zSt → Prop) → Prop} {v : Option Value × zSt} {X : Nat → zLv → List Value → zSt → Prop} (hX : zSem cX13_compares 5 none h0 qs ks kc (fun r u => (r, u) = v) X) (hc : ∀ j av s w, call j av s = some w → kc j av s (fun r u => (r, u) = w)) {x4 : Int32} {t1 : Int32} {t2 : Int64} {σ : zSt} (h : j_compares_190 n call h0 qs ks x4 t1 t2 σ = some v) : X 190 [some (.ref h0), none, none, none, some (.int x4)] [.long t2, .int t1, .ref h0] σ := by
  rw [j_compares_190] at h
  obtain ⟨s1, e2, h⟩ := zcv_e h
  refine zc_lineWay hX dX13_compares_190 (Nat.le_of_ble_eq_true rfl) (hc _ _ _ _ e2) (fun u9 h9 => ?_)
  cases h9
  exact pj_compares_193 hX hc h
set_option maxHeartbeats 4000000 in
theorem pj_compares_178 {h0 : Nat} {qs : List Nat} {ks : Nat → Nat} {n : Nat} {call : zCl} {kc : Nat → List Value → zSt → (Option Value → zSt → Prop) → Prop} {v : Option Value × zSt} {X : Nat → zLv → List Value → zSt → Prop} (hX : zSem cX13_compares 5 none h0 qs ks kc (fun r u => (r, u) = v) X) (hc : ∀ j av s w, call j av s = some w → kc j av s (fun r u => (r, u) = w)) {x3 : Int32} {x4 : Int32} {σ : zSt} (h : j_compares_178 n call h0 qs ks x3 x4 σ = some v) : X 178 [some (.ref h0), none, none, some (.int x3), some (.int x4)] [] σ := by
  rw [j_compares_178] at h
  refine zs_aload_n hX dX13_compares_178 rfl rfl ?_
  refine zs_iconst (v := (-1)) hX dX13_compares_179 (by decide) ?_
  refine zs_iload_n hX dX13_compares_180 rfl rfl ?_
  refine zs_iconst (v := 3) hX dX13_compares_181 (by decide) ?_
  refine zs_icmp_ne (tgt := 189) hX dX13_compares_182 (by decide) (fun c1 => ?_) (fun c1 => ?_)
  · rw [if_neg c1] at h
    refine zs_lconst (v := 0) hX dX13_compares_189 (by decide) ?_
    refine zs_weak hX (lw := [some (.ref h0), none, none, none, some (.int x4)]) ⟨rfl, rfl, trivial⟩ ?_
    exact pj_compares_190 hX hc h
  · rw [if_pos c1] at h
    refine zs_lconst (v := 1) hX dX13_compares_185 (by decide) ?_
    refine zs_goto (tgt := 190) hX dX13_compares_186 (by decide) ?_
    refine zs_weak hX (lw := [some (.ref h0), none, none, none, some (.int x4)]) ⟨rfl, rfl, trivial⟩ ?_
    exact pj_compares_190 hX hc h
set_option maxHeartbeats 4000000 in
theorem pj_compares_169 {h0 : Nat} {qs : List Nat} {ks : Nat → Nat} {n : Nat} {call : zCl} {kc : Nat → List Value → zSt → (Option Value → zSt → Prop) → Prop} {v : Option Value × zSt} {X : Nat → zLv → List Value → zSt → Prop} (hX : zSem cX13_compares 5 none h0 qs ks kc (fun r u => (r, u) = v) X) (hc : ∀ j av s w, call j av s = some w → kc j av s (fun r u => (r, u) = w)) {x3 : Int32} {x4 : Int32} {σ : zSt} (h : j_compares_169 n call h0 qs ks x3 x4 σ = some v) : X 169 [some (.ref h0), none, none, some (.int x3), some (.int x4)] [] σ := by
  rw [j_compares_169] at h
  refine zs_iload_n hX dX13_compares_169 rfl rfl ?_
  refine zs_if_eq (tgt := 178) hX dX13_compares_170 (by decide) (fun c1 => ?_) (fun c1 => ?_)
  · rw [if_pos c1] at h
    exact pj_compares_178 hX hc h
  · rw [if_neg c1] at h
    refine zs_iload_n hX dX13_compares_173 rfl rfl ?_
    refine zs_iconst (v := 2) hX dX13_compares_174 (by decide) ?_
    refine zs_icmp_le (tgt := 193) hX dX13_compares_175 (by decide) (fun c2 => ?_) (fun c2 => ?_)
    · rw [if_pos c2] at h
      refine zs_weak hX (lw := [some (.ref h0), none, none, none, some (.int x4)]) ⟨rfl, rfl, trivial⟩ ?_
      exact pj_compares_193 hX hc h
    · rw [if_neg c2] at h
      exact pj_compares_178 hX hc h
set_option maxHeartbeats 4000000 in
theorem pj_compares_166 {h0 : Nat} {qs : List Nat} {ks : Nat → Nat} {n : Nat} {call : zCl} {kc : Nat → List Value → zSt → (Option Value → zSt → Prop) → Prop} {v : Option Value × zSt} {X : Nat → zLv → List Value → zSt → Prop} (hX : zSem cX13_compares 5 none h0 qs ks kc (fun r u => (r, u) = v) X) (hc : ∀ j av s w, call j av s = some w → kc j av s (fun r u => (r, u) = w)) {x3 : Int32} {x4 : Int32} {t1 : Int32} {t2 : Int64} {σ : zSt} (h : j_compares_166 n call h0 qs ks x3 x4 t1 t2 σ = some v) : X 166 [some (.ref h0), none, none, some (.int x3), some (.int x4)] [.long t2, .int t1, .ref h0] σ := by
  rw [j_compares_166] at h
  obtain ⟨s1, e2, h⟩ := zcv_e h
  refine zc_lineWay hX dX13_compares_166 (Nat.le_of_ble_eq_true rfl) (hc _ _ _ _ e2) (fun u9 h9 => ?_)
  cases h9
  exact pj_compares_169 hX hc h
set_option maxHeartbeats 4000000 in
theorem pj_compares_57 {h0 : Nat} {qs : List Nat} {ks : Nat → Nat} {n : Nat} {call : zCl} {kc : Nat → List Value → zSt → (Option Value → zSt → Prop) → Prop} {v : Option Value × zSt} {X : Nat → zLv → List Value → zSt → Prop} (hX : zSem cX13_compares 5 none h0 qs ks kc (fun r u => (r, u) = v) X) (hc : ∀ j av s w, call j av s = some w → kc j av s (fun r u => (r, u) = w)) {x1 : Int32} {x3 : Int32} {σ : zSt} (h : j_compares_57 n call h0 qs ks x1 x3 σ = some v) : X 57 [some (.ref h0), some (.int x1), none, some (.int x3), none] [] σ := by
  rw [j_compares_57] at h
  refine zs_aload_n hX dX13_compares_57 rfl rfl ?_
  obtain ⟨s1, e2, h⟩ := zcv_e h
  refine zc_clearLine hX dX13_compares_58 (Nat.le_of_ble_eq_true rfl) (hc _ _ _ _ e2) (fun u9 h9 => ?_)
  cases h9
  refine zs_aload_n hX dX13_compares_61 rfl rfl ?_
  refine zs_aload_n hX dX13_compares_62 rfl rfl ?_
  refine zg_x1 hX dX13_compares_63 ?_
  refine zs_iload_n hX dX13_compares_66 rfl rfl ?_
  obtain ⟨b3, h⟩ := zgd_e h
  refine zl_x1 hX dX13_compares_67 (zin_ok b3) ?_
  refine zs_iconst (v := 1) hX dX13_compares_68 (by decide) ?_
  obtain ⟨s4, e5, h⟩ := zcv_e h
  refine zc_addSum hX dX13_compares_69 (Nat.le_of_ble_eq_true rfl) (hc _ _ _ _ e5) (fun u9 h9 => ?_)
  cases h9
  refine zs_aload_n hX dX13_compares_72 rfl rfl ?_
  refine zs_aload_n hX dX13_compares_73 rfl rfl ?_
  refine zg_x2 hX dX13_compares_74 ?_
  refine zs_iload_n hX dX13_compares_77 rfl rfl ?_
  obtain ⟨b6, h⟩ := zgd_e h
  refine zl_x2 hX dX13_compares_78 (zin_ok b6) ?_
  refine zs_iconst (v := (-1)) hX dX13_compares_79 (by decide) ?_
  obtain ⟨s7, e8, h⟩ := zcv_e h
  refine zc_addSum hX dX13_compares_80 (Nat.le_of_ble_eq_true rfl) (hc _ _ _ _ e8) (fun u9 h9 => ?_)
  cases h9
  refine zs_aload_n hX dX13_compares_83 rfl rfl ?_
  refine zg_ways hX dX13_compares_84 ?_
  refine zs_istore hX dX13_compares_87 (by decide) rfl ?_
  dsimp only [List.set]
  refine zs_iload_n hX dX13_compares_89 rfl rfl ?_
  refine zs_iconst (v := 5) hX dX13_compares_90 (by decide) ?_
  refine zs_icmp_ne (tgt := 149) hX dX13_compares_91 (by decide) (fun c9 => ?_) (fun c9 => ?_)
  · rw [if_neg c9] at h
    refine zs_iload_n hX dX13_compares_149 rfl rfl ?_
    refine zs_iconst (v := 3) hX dX13_compares_150 (by decide) ?_
    refine zs_icmp_ge (tgt := 169) hX dX13_compares_151 (by decide) (fun c10 => ?_) (fun c10 => ?_)
    · rw [if_pos c10] at h
      refine zs_weak hX (lw := [some (.ref h0), none, none, some (.int x3), some (.int (s7.1 152))]) ⟨rfl, rfl, rfl, trivial⟩ ?_
      exact pj_compares_169 hX hc h
    · rw [if_neg c10] at h
      refine zs_aload_n hX dX13_compares_154 rfl rfl ?_
      refine zs_iconst (v := 1) hX dX13_compares_155 (by decide) ?_
      refine zs_iload_n hX dX13_compares_156 rfl rfl ?_
      refine zs_iconst (v := 1) hX dX13_compares_157 (by decide) ?_
      refine zs_icmp_ne (tgt := 165) hX dX13_compares_158 (by decide) (fun c11 => ?_) (fun c11 => ?_)
      · rw [if_neg c11] at h
        refine zs_lconst (v := 0) hX dX13_compares_165 (by decide) ?_
        refine zs_weak hX (lw := [some (.ref h0), none, none, some (.int x3), some (.int (s7.1 152))]) ⟨rfl, rfl, rfl, trivial⟩ ?_
        exact pj_compares_166 hX hc h
      · rw [if_pos c11] at h
        refine zs_lconst (v := 1) hX dX13_compares_161 (by decide) ?_
        refine zs_goto (tgt := 166) hX dX13_compares_162 (by decide) ?_
        refine zs_weak hX (lw := [some (.ref h0), none, none, some (.int x3), some (.int (s7.1 152))]) ⟨rfl, rfl, rfl, trivial⟩ ?_
        exact pj_compares_166 hX hc h
  · rw [if_pos c9] at h
    refine zs_aload_n hX dX13_compares_94 rfl rfl ?_
    refine zs_iconst (v := 1) hX dX13_compares_95 (by decide) ?_
    refine zs_lconst (v := 1) hX dX13_compares_96 (by decide) ?_
    obtain ⟨s12, e13, h⟩ := zcv_e h
    refine zc_lineWay hX dX13_compares_97 (Nat.le_of_ble_eq_true rfl) (hc _ _ _ _ e13) (fun u9 h9 => ?_)
    cases h9
    refine zs_aload_n hX dX13_compares_100 rfl rfl ?_
    obtain ⟨s14, e15, h⟩ := zcv_e h
    refine zc_go hX dX13_compares_101 (Nat.le_of_ble_eq_true rfl) (hc _ _ _ _ e15) (fun u9 h9 => ?_)
    cases h9
    refine zs_aload_n hX dX13_compares_104 rfl rfl ?_
    refine zs_iload hX dX13_compares_105 rfl ?_
    obtain ⟨s16, e17, h⟩ := zlet_e h
    refine zp_ways hX dX13_compares_107 ?_
    rw [← e17]
    refine zs_aload_n hX dX13_compares_110 rfl rfl ?_
    obtain ⟨s18, e19, h⟩ := zcv_e h
    refine zc_clearLine hX dX13_compares_111 (Nat.le_of_ble_eq_true rfl) (hc _ _ _ _ e19) (fun u9 h9 => ?_)
    cases h9
    refine zs_aload_n hX dX13_compares_114 rfl rfl ?_
    refine zs_aload_n hX dX13_compares_115 rfl rfl ?_
    refine zg_x1 hX dX13_compares_116 ?_
    refine zs_iload_n hX dX13_compares_119 rfl rfl ?_
    obtain ⟨b20, h⟩ := zgd_e h
    refine zl_x1 hX dX13_compares_120 (zin_ok b20) ?_
    refine zs_iconst (v := 1) hX dX13_compares_121 (by decide) ?_
    obtain ⟨s21, e22, h⟩ := zcv_e h
    refine zc_addSum hX dX13_compares_122 (Nat.le_of_ble_eq_true rfl) (hc _ _ _ _ e22) (fun u9 h9 => ?_)
    cases h9
    refine zs_aload_n hX dX13_compares_125 rfl rfl ?_
    refine zs_aload_n hX dX13_compares_126 rfl rfl ?_
    refine zg_x2 hX dX13_compares_127 ?_
    refine zs_iload_n hX dX13_compares_130 rfl rfl ?_
    obtain ⟨b23, h⟩ := zgd_e h
    refine zl_x2 hX dX13_compares_131 (zin_ok b23) ?_
    refine zs_iconst (v := (-1)) hX dX13_compares_132 (by decide) ?_
    obtain ⟨s24, e25, h⟩ := zcv_e h
    refine zc_addSum hX dX13_compares_133 (Nat.le_of_ble_eq_true rfl) (hc _ _ _ _ e25) (fun u9 h9 => ?_)
    cases h9
    refine zs_aload_n hX dX13_compares_136 rfl rfl ?_
    refine zs_iconst (v := (-1)) hX dX13_compares_137 (by decide) ?_
    refine zs_lconst (v := 1) hX dX13_compares_138 (by decide) ?_
    obtain ⟨s26, e27, h⟩ := zcv_e h
    refine zc_lineWay hX dX13_compares_139 (Nat.le_of_ble_eq_true rfl) (hc _ _ _ _ e27) (fun u9 h9 => ?_)
    cases h9
    refine zs_aload_n hX dX13_compares_142 rfl rfl ?_
    obtain ⟨s28, e29, h⟩ := zcv_e h
    refine zc_go hX dX13_compares_143 (Nat.le_of_ble_eq_true rfl) (hc _ _ _ _ e29) (fun u9 h9 => ?_)
    cases h9
    refine zs_goto (tgt := 197) hX dX13_compares_146 (by decide) ?_
    refine zs_weak hX (lw := [some (.ref h0), none, none, none, some (.int (s7.1 152))]) ⟨rfl, rfl, trivial⟩ ?_
    exact pj_compares_197 hX hc h
set_option maxHeartbeats 4000000 in
theorem pj_compares_56 {h0 : Nat} {qs : List Nat} {ks : Nat → Nat} {n : Nat} {call : zCl} {kc : Nat → List Value → zSt → (Option Value → zSt → Prop) → Prop} {v : Option Value × zSt} {X : Nat → zLv → List Value → zSt → Prop} (hX : zSem cX13_compares 5 none h0 qs ks kc (fun r u => (r, u) = v) X) (hc : ∀ j av s w, call j av s = some w → kc j av s (fun r u => (r, u) = w)) {x1 : Int32} {t0 : Int32} {σ : zSt} (h : j_compares_56 n call h0 qs ks x1 t0 σ = some v) : X 56 [some (.ref h0), some (.int x1), none, none, none] [.int t0] σ := by
  rw [j_compares_56] at h
  refine zs_istore_n hX dX13_compares_56 rfl (by decide) rfl ?_
  dsimp only [List.set]
  exact pj_compares_57 hX hc h
set_option maxHeartbeats 4000000 in
theorem pb_compares {h0 : Nat} {qs : List Nat} {ks : Nat → Nat} {n : Nat} {call : zCl} {kc : Nat → List Value → zSt → (Option Value → zSt → Prop) → Prop} {v : Option Value × zSt} {X : Nat → zLv → List Value → zSt → Prop} (hX : zSem cX13_compares 5 none h0 qs ks kc (fun r u => (r, u) = v) X) (hc : ∀ j av s w, call j av s = some w → kc j av s (fun r u => (r, u) = w)) {x1 : Int32} {x2 : Int32} {σ : zSt} (h : b_compares n call h0 qs ks x1 x2 σ = some v) : X 0 [some (.ref h0), some (.int x1), some (.int x2), none, none] [] σ := by
  rw [b_compares] at h
  refine zs_aload_n hX dX13_compares_0 rfl rfl ?_
  refine zg_x3 hX dX13_compares_1 ?_
  refine zs_iload_n hX dX13_compares_4 rfl rfl ?_
  obtain ⟨b1, h⟩ := zgd_e h
  refine zl_x3 hX dX13_compares_5 (zin_ok b1) ?_
  refine zs_istore_n hX dX13_compares_6 rfl (by decide) rfl ?_
  dsimp only [List.set]
  refine zs_iload_n hX dX13_compares_7 rfl rfl ?_
  refine zs_if_ne (tgt := 57) hX dX13_compares_8 (by decide) (fun c2 => ?_) (fun c2 => ?_)
  · rw [if_neg c2] at h
    refine zs_weak hX (lw := [some (.ref h0), some (.int x1), none, some (.int (σ.2.2.1 11 (x1).toNatClampNeg)), none]) ⟨rfl, rfl, rfl, trivial⟩ ?_
    exact pj_compares_57 hX hc h
  · rw [if_pos c2] at h
    refine zs_iload_n hX dX13_compares_11 rfl rfl ?_
    refine zs_if_ne (tgt := 19) hX dX13_compares_12 (by decide) (fun c3 => ?_) (fun c3 => ?_)
    · rw [if_neg c3] at h
      refine zs_iload_n hX dX13_compares_19 rfl rfl ?_
      refine zs_iconst (v := 5) hX dX13_compares_20 (by decide) ?_
      refine zs_icmp_ne (tgt := 28) hX dX13_compares_21 (by decide) (fun c4 => ?_) (fun c4 => ?_)
      · rw [if_neg c4] at h
        refine zs_iload_n hX dX13_compares_28 rfl rfl ?_
        refine zs_iconst (v := 1) hX dX13_compares_29 (by decide) ?_
        refine zs_icmp_ne (tgt := 37) hX dX13_compares_30 (by decide) (fun c5 => ?_) (fun c5 => ?_)
        · rw [if_neg c5] at h
          refine zs_iload_n hX dX13_compares_37 rfl rfl ?_
          refine zs_iconst (v := 4) hX dX13_compares_38 (by decide) ?_
          refine zs_icmp_ne (tgt := 46) hX dX13_compares_39 (by decide) (fun c6 => ?_) (fun c6 => ?_)
          · rw [if_neg c6] at h
            refine zs_iload_n hX dX13_compares_46 rfl rfl ?_
            refine zs_iconst (v := 2) hX dX13_compares_47 (by decide) ?_
            refine zs_icmp_ne (tgt := 55) hX dX13_compares_48 (by decide) (fun c7 => ?_) (fun c7 => ?_)
            · rw [if_neg c7] at h
              refine zs_iconst (v := 2) hX dX13_compares_55 (by decide) ?_
              refine zs_weak hX (lw := [some (.ref h0), some (.int x1), none, none, none]) ⟨rfl, rfl, trivial⟩ ?_
              exact pj_compares_56 hX hc h
            · rw [if_pos c7] at h
              refine zs_iconst (v := 3) hX dX13_compares_51 (by decide) ?_
              refine zs_goto (tgt := 56) hX dX13_compares_52 (by decide) ?_
              refine zs_weak hX (lw := [some (.ref h0), some (.int x1), none, none, none]) ⟨rfl, rfl, trivial⟩ ?_
              exact pj_compares_56 hX hc h
          · rw [if_pos c6] at h
            refine zs_iconst (v := 1) hX dX13_compares_42 (by decide) ?_
            refine zs_goto (tgt := 56) hX dX13_compares_43 (by decide) ?_
            refine zs_weak hX (lw := [some (.ref h0), some (.int x1), none, none, none]) ⟨rfl, rfl, trivial⟩ ?_
            exact pj_compares_56 hX hc h
        · rw [if_pos c5] at h
          refine zs_iconst (v := 4) hX dX13_compares_33 (by decide) ?_
          refine zs_goto (tgt := 56) hX dX13_compares_34 (by decide) ?_
          refine zs_weak hX (lw := [some (.ref h0), some (.int x1), none, none, none]) ⟨rfl, rfl, trivial⟩ ?_
          exact pj_compares_56 hX hc h
      · rw [if_pos c4] at h
        refine zs_iconst (v := 0) hX dX13_compares_24 (by decide) ?_
        refine zs_goto (tgt := 56) hX dX13_compares_25 (by decide) ?_
        refine zs_weak hX (lw := [some (.ref h0), some (.int x1), none, none, none]) ⟨rfl, rfl, trivial⟩ ?_
        exact pj_compares_56 hX hc h
    · rw [if_pos c3] at h
      refine zs_iconst (v := 5) hX dX13_compares_15 (by decide) ?_
      refine zs_goto (tgt := 56) hX dX13_compares_16 (by decide) ?_
      refine zs_weak hX (lw := [some (.ref h0), some (.int x1), none, none, none]) ⟨rfl, rfl, trivial⟩ ?_
      exact pj_compares_56 hX hc h
def j_go_370 (n : Nat) (call : zCl) (h0 : Nat) (qs : List Nat) (ks : Nat → Nat) (t1 : Int32) (t2 : Int32) (σ : zSt) : zRs :=
  zgd (zin t1 300) (zlet (zA σ 92 (upd (σ.2.2.1 92) (t1).toNatClampNeg t2)) fun s2 =>
  zlet (zI s2 144 ((s2.1 144) + 1)) fun s4 =>
  some (none, s4))
def j_go_343 (n : Nat) (call : zCl) (h0 : Nat) (qs : List Nat) (ks : Nat → Nat) (x1 : Int32) (x2 : Int32) (σ : zSt) : zRs :=
  zgd (zin (σ.1 144) 300) (zlet (zA σ 91 (upd (σ.2.2.1 91) ((σ.1 144)).toNatClampNeg x1)) fun s2 =>
  if x2 = 0 then
    j_go_370 n call h0 qs ks (s2.1 144) 0 s2
  else
    j_go_370 n call h0 qs ks (s2.1 144) 1 s2)
def j_go_307 (n : Nat) (call : zCl) (h0 : Nat) (qs : List Nat) (ks : Nat → Nat) (x1 : Int32) (x2 : Int32) (t0 : Int32) (σ : zSt) : zRs :=
  if t0 = x2 then
    zcv (call 101 [.ref h0] σ) fun s2 =>
    j_go_343 n call h0 qs ks x1 x2 s2
  else
    j_go_343 n call h0 qs ks x1 x2 σ
def j_go_272 (n : Nat) (call : zCl) (h0 : Nat) (qs : List Nat) (ks : Nat → Nat) (x1 : Int32) (x2 : Int32) (t1 : Int32) (t2 : Int32) (σ : zSt) : zRs :=
  zcv (call 99 [.ref h0, .int t1, .int t2] σ) fun s1 =>
  zcv (call 101 [.ref h0] s1) fun s3 =>
  zlet (zI s3 144 ((s3.1 144) - 1)) fun s5 =>
  j_go_343 n call h0 qs ks x1 x2 s5
def j_go_160 (n : Nat) (call : zCl) (h0 : Nat) (qs : List Nat) (ks : Nat → Nat) (x1 : Int32) (x2 : Int32) (t0 : Int32) (σ : zSt) : zRs :=
  if t0 = x2 then
    zgd (zin x1 2100) (
    zcv (call 99 [.ref h0, .int (σ.2.2.1 9 (x1).toNatClampNeg), .int x2] σ) fun s17 =>
    zgd (zin x1 2100) (
    zcv (call 99 [.ref h0, .int (s17.2.2.1 10 (x1).toNatClampNeg), .int x2] s17) fun s20 =>
    zcv (call 101 [.ref h0] s20) fun s22 =>
    zlet (zI s22 144 ((s22.1 144) - 2)) fun s24 =>
    j_go_343 n call h0 qs ks x1 x2 s24))
  else
    zgd (zin x1 2100) (
    zcv (call 99 [.ref h0, .int (σ.2.2.1 9 (x1).toNatClampNeg), .int x2] σ) fun s3 =>
    zcv (call 101 [.ref h0] s3) fun s5 =>
    zlet (zI s5 144 ((s5.1 144) - 1)) fun s7 =>
    zgd (zin x1 2100) (
    zcv (call 99 [.ref h0, .int (s7.2.2.1 10 (x1).toNatClampNeg), .int x2] s7) fun s10 =>
    zcv (call 101 [.ref h0] s10) fun s12 =>
    zlet (zI s12 144 ((s12.1 144) - 1)) fun s14 =>
    j_go_343 n call h0 qs ks x1 x2 s14))
def j_go_91 (n : Nat) (call : zCl) (h0 : Nat) (qs : List Nat) (ks : Nat → Nat) (t1 : Int32) (t2 : Int32) (σ : zSt) : zRs :=
  zgd (zin t1 300) (zlet (zA σ 92 (upd (σ.2.2.1 92) (t1).toNatClampNeg t2)) fun s2 =>
  zlet (zI s2 144 ((s2.1 144) + 1)) fun s4 =>
  some (none, s4))
def j_go_50 (n : Nat) (call : zCl) (h0 : Nat) (qs : List Nat) (ks : Nat → Nat) (x1 : Int32) (t0 : Int32) (σ : zSt) : zRs :=
  if 0 ≤ x1 then
    zgd (zin x1 2100) (
    if (σ.2.2.1 6 (x1).toNatClampNeg) = 20 then
      zgd (zin x1 2100) (
      if (σ.2.2.1 6 (x1).toNatClampNeg) = 21 then
        j_go_160 n call h0 qs ks x1 t0 1 σ
      else
        j_go_160 n call h0 qs ks x1 t0 0 σ)
    else
    if (σ.2.2.1 6 (x1).toNatClampNeg) = 21 then
      zgd (zin x1 2100) (
      if (σ.2.2.1 6 (x1).toNatClampNeg) = 21 then
        j_go_160 n call h0 qs ks x1 t0 1 σ
      else
        j_go_160 n call h0 qs ks x1 t0 0 σ)
    else
    if (σ.2.2.1 6 (x1).toNatClampNeg) = 22 then
      zgd (zin x1 2100) (
      if t0 = 0 then
        j_go_272 n call h0 qs ks x1 t0 (σ.2.2.1 9 (x1).toNatClampNeg) 1 σ
      else
        j_go_272 n call h0 qs ks x1 t0 (σ.2.2.1 9 (x1).toNatClampNeg) 0 σ)
    else
    if (σ.2.2.1 6 (x1).toNatClampNeg) = 23 then
      zgd (zin x1 2100) (
      if (σ.2.2.1 9 (x1).toNatClampNeg) = 1 then
        j_go_307 n call h0 qs ks x1 t0 1 σ
      else
        j_go_307 n call h0 qs ks x1 t0 0 σ)
    else
    if (σ.2.2.1 6 (x1).toNatClampNeg) = 24 then
      zgd (zin x1 2100) (
      zgd (zin (σ.2.2.1 9 (x1).toNatClampNeg) 2010) (
      zcv (call 103 [.ref h0, .int (σ.2.2.1 32 ((σ.2.2.1 9 (x1).toNatClampNeg)).toNatClampNeg), .int t0] σ) fun s18 =>
      j_go_343 n call h0 qs ks x1 t0 s18))
    else
    zcv (call 100 [.ref h0, .int x1, .int t0] σ) fun s20 =>
    j_go_343 n call h0 qs ks x1 t0 s20)
  else
    zcv (call 102 [.ref h0, .int ((-2) - x1), .int t0] σ) fun s22 =>
    zgd (zin (s22.1 144) 300) (zlet (zA s22 91 (upd (s22.2.2.1 91) ((s22.1 144)).toNatClampNeg x1)) fun s25 =>
    if t0 = 0 then
      j_go_91 n call h0 qs ks (s25.1 144) 0 s25
    else
      j_go_91 n call h0 qs ks (s25.1 144) 1 s25)
def b_go (n : Nat) (call : zCl) (h0 : Nat) (qs : List Nat) (ks : Nat → Nat) (σ : zSt) : zRs :=
  if (σ.1 144) = 0 then
    zcv (call 98 [.ref h0] σ) fun s7 =>
    some (none, s7)
  else
    zlet (zI σ 144 ((σ.1 144) - 1)) fun s2 =>
    zgd (zin (s2.1 144) 300) (
    zgd (zin (s2.1 144) 300) (
    if (s2.2.2.1 92 ((s2.1 144)).toNatClampNeg) = 1 then
      j_go_50 n call h0 qs ks (s2.2.2.1 91 ((s2.1 144)).toNatClampNeg) 1 s2
    else
      j_go_50 n call h0 qs ks (s2.2.2.1 91 ((s2.1 144)).toNatClampNeg) 0 s2))
set_option maxHeartbeats 4000000 in
theorem pj_go_370 {h0 : Nat} {qs : List Nat} {ks : Nat → Nat} {n : Nat} {call : zCl} {kc : Nat → List Value → zSt → (Option Value → zSt → Prop) → Prop} {v : Option Value × zSt} {X : Nat → zLv → List Value → zSt → Prop} (hX : zSem cX13_go 3 none h0 qs ks kc (fun r u => (r, u) = v) X) (hc : ∀ j av s w, call j av s = some w → kc j av s (fun r u => (r, u) = w)) {t1 : Int32} {t2 : Int32} {σ : zSt} (h : j_go_370 n call h0 qs ks t1 t2 σ = some v) : X 370 [some (.ref h0), none, none] [.int t2, .int t1, .ref (qs.getD 92 0)] σ := by
  rw [j_go_370] at h
  obtain ⟨b1, h⟩ := zgd_e h
  obtain ⟨s2, e3, h⟩ := zlet_e h
  refine zt_openIs hX dX13_go_370 (zin_ok b1) ?_
  rw [← e3]
  refine zs_aload_n hX dX13_go_371 rfl rfl ?_
  refine zs_dup hX dX13_go_372 rfl ?_
  refine zg_opens hX dX13_go_373 ?_
  refine zs_iconst (v := 1) hX dX13_go_376 (by decide) ?_
  refine zs_iadd hX dX13_go_377 ?_
  obtain ⟨s4, e5, h⟩ := zlet_e h
  refine zp_opens hX dX13_go_378 ?_
  rw [← e5]
  exact zs_vret hX dX13_go_381 rfl (Option.some.inj h)
set_option maxHeartbeats 4000000 in
theorem pj_go_343 {h0 : Nat} {qs : List Nat} {ks : Nat → Nat} {n : Nat} {call : zCl} {kc : Nat → List Value → zSt → (Option Value → zSt → Prop) → Prop} {v : Option Value × zSt} {X : Nat → zLv → List Value → zSt → Prop} (hX : zSem cX13_go 3 none h0 qs ks kc (fun r u => (r, u) = v) X) (hc : ∀ j av s w, call j av s = some w → kc j av s (fun r u => (r, u) = w)) {x1 : Int32} {x2 : Int32} {σ : zSt} (h : j_go_343 n call h0 qs ks x1 x2 σ = some v) : X 343 [some (.ref h0), some (.int x1), some (.int x2)] [] σ := by
  rw [j_go_343] at h
  refine zs_aload_n hX dX13_go_343 rfl rfl ?_
  refine zg_openNode hX dX13_go_344 ?_
  refine zs_aload_n hX dX13_go_347 rfl rfl ?_
  refine zg_opens hX dX13_go_348 ?_
  refine zs_iload_n hX dX13_go_351 rfl rfl ?_
  obtain ⟨b1, h⟩ := zgd_e h
  obtain ⟨s2, e3, h⟩ := zlet_e h
  refine zt_openNode hX dX13_go_352 (zin_ok b1) ?_
  rw [← e3]
  refine zs_aload_n hX dX13_go_353 rfl rfl ?_
  refine zg_openIs hX dX13_go_354 ?_
  refine zs_aload_n hX dX13_go_357 rfl rfl ?_
  refine zg_opens hX dX13_go_358 ?_
  refine zs_iload_n hX dX13_go_361 rfl rfl ?_
  refine zs_if_eq (tgt := 369) hX dX13_go_362 (by decide) (fun c4 => ?_) (fun c4 => ?_)
  · rw [if_pos c4] at h
    refine zs_iconst (v := 0) hX dX13_go_369 (by decide) ?_
    refine zs_weak hX (lw := [some (.ref h0), none, none]) ⟨rfl, trivial⟩ ?_
    exact pj_go_370 hX hc h
  · rw [if_neg c4] at h
    refine zs_iconst (v := 1) hX dX13_go_365 (by decide) ?_
    refine zs_goto (tgt := 370) hX dX13_go_366 (by decide) ?_
    refine zs_weak hX (lw := [some (.ref h0), none, none]) ⟨rfl, trivial⟩ ?_
    exact pj_go_370 hX hc h
set_option maxHeartbeats 4000000 in
theorem pj_go_307 {h0 : Nat} {qs : List Nat} {ks : Nat → Nat} {n : Nat} {call : zCl} {kc : Nat → List Value → zSt → (Option Value → zSt → Prop) → Prop} {v : Option Value × zSt} {X : Nat → zLv → List Value → zSt → Prop} (hX : zSem cX13_go 3 none h0 qs ks kc (fun r u => (r, u) = v) X) (hc : ∀ j av s w, call j av s = some w → kc j av s (fun r u => (r, u) = w)) {x1 : Int32} {x2 : Int32} {t0 : Int32} {σ : zSt} (h : j_go_307 n call h0 qs ks x1 x2 t0 σ = some v) : X 307 [some (.ref h0), some (.int x1), some (.int x2)] [.int t0] σ := by
  rw [j_go_307] at h
  refine zs_iload_n hX dX13_go_307 rfl rfl ?_
  refine zs_icmp_ne (tgt := 343) hX dX13_go_308 (by decide) (fun c1 => ?_) (fun c1 => ?_)
  · rw [if_neg c1] at h
    exact pj_go_343 hX hc h
  · rw [if_pos c1] at h
    refine zs_aload_n hX dX13_go_311 rfl rfl ?_
    obtain ⟨s2, e3, h⟩ := zcv_e h
    refine zc_go hX dX13_go_312 (Nat.le_of_ble_eq_true rfl) (hc _ _ _ _ e3) (fun u9 h9 => ?_)
    cases h9
    refine zs_goto (tgt := 343) hX dX13_go_315 (by decide) ?_
    exact pj_go_343 hX hc h
set_option maxHeartbeats 4000000 in
theorem pj_go_272 {h0 : Nat} {qs : List Nat} {ks : Nat → Nat} {n : Nat} {call : zCl} {kc : Nat → List Value → zSt → (Option Value → zSt → Prop) → Prop} {v : Option Value × zSt} {X : Nat → zLv → List Value → zSt → Prop} (hX : zSem cX13_go 3 none h0 qs ks kc (fun r u => (r, u) = v) X) (hc : ∀ j av s w, call j av s = some w → kc j av s (fun r u => (r, u) = w)) {x1 : Int32} {x2 : Int32} {t1 : Int32} {t2 : Int32} {σ : zSt} (h : j_go_272 n call h0 qs ks x1 x2 t1 t2 σ = some v) : X 272 [some (.ref h0), some (.int x1), some (.int x2)] [.int t2, .int t1, .ref h0] σ := by
  rw [j_go_272] at h
  obtain ⟨s1, e2, h⟩ := zcv_e h
  refine zc_open hX dX13_go_272 (Nat.le_of_ble_eq_true rfl) (hc _ _ _ _ e2) (fun u9 h9 => ?_)
  cases h9
  refine zs_aload_n hX dX13_go_275 rfl rfl ?_
  obtain ⟨s3, e4, h⟩ := zcv_e h
  refine zc_go hX dX13_go_276 (Nat.le_of_ble_eq_true rfl) (hc _ _ _ _ e4) (fun u9 h9 => ?_)
  cases h9
  refine zs_aload_n hX dX13_go_279 rfl rfl ?_
  refine zs_dup hX dX13_go_280 rfl ?_
  refine zg_opens hX dX13_go_281 ?_
  refine zs_iconst (v := 1) hX dX13_go_284 (by decide) ?_
  refine zs_isub hX dX13_go_285 ?_
  obtain ⟨s5, e6, h⟩ := zlet_e h
  refine zp_opens hX dX13_go_286 ?_
  rw [← e6]
  refine zs_goto (tgt := 343) hX dX13_go_289 (by decide) ?_
  exact pj_go_343 hX hc h
set_option maxHeartbeats 4000000 in
theorem pj_go_160 {h0 : Nat} {qs : List Nat} {ks : Nat → Nat} {n : Nat} {call : zCl} {kc : Nat → List Value → zSt → (Option Value → zSt → Prop) → Prop} {v : Option Value × zSt} {X : Nat → zLv → List Value → zSt → Prop} (hX : zSem cX13_go 3 none h0 qs ks kc (fun r u => (r, u) = v) X) (hc : ∀ j av s w, call j av s = some w → kc j av s (fun r u => (r, u) = w)) {x1 : Int32} {x2 : Int32} {t0 : Int32} {σ : zSt} (h : j_go_160 n call h0 qs ks x1 x2 t0 σ = some v) : X 160 [some (.ref h0), some (.int x1), some (.int x2)] [.int t0] σ := by
  rw [j_go_160] at h
  refine zs_iload_n hX dX13_go_160 rfl rfl ?_
  refine zs_icmp_ne (tgt := 203) hX dX13_go_161 (by decide) (fun c1 => ?_) (fun c1 => ?_)
  · rw [if_neg c1] at h
    refine zs_aload_n hX dX13_go_203 rfl rfl ?_
    refine zs_aload_n hX dX13_go_204 rfl rfl ?_
    refine zg_x1 hX dX13_go_205 ?_
    refine zs_iload_n hX dX13_go_208 rfl rfl ?_
    obtain ⟨b2, h⟩ := zgd_e h
    refine zl_x1 hX dX13_go_209 (zin_ok b2) ?_
    refine zs_iload_n hX dX13_go_210 rfl rfl ?_
    obtain ⟨s3, e4, h⟩ := zcv_e h
    refine zc_open hX dX13_go_211 (Nat.le_of_ble_eq_true rfl) (hc _ _ _ _ e4) (fun u9 h9 => ?_)
    cases h9
    refine zs_aload_n hX dX13_go_214 rfl rfl ?_
    obtain ⟨s5, e6, h⟩ := zcv_e h
    refine zc_go hX dX13_go_215 (Nat.le_of_ble_eq_true rfl) (hc _ _ _ _ e6) (fun u9 h9 => ?_)
    cases h9
    refine zs_aload_n hX dX13_go_218 rfl rfl ?_
    refine zs_dup hX dX13_go_219 rfl ?_
    refine zg_opens hX dX13_go_220 ?_
    refine zs_iconst (v := 1) hX dX13_go_223 (by decide) ?_
    refine zs_isub hX dX13_go_224 ?_
    obtain ⟨s7, e8, h⟩ := zlet_e h
    refine zp_opens hX dX13_go_225 ?_
    rw [← e8]
    refine zs_aload_n hX dX13_go_228 rfl rfl ?_
    refine zs_aload_n hX dX13_go_229 rfl rfl ?_
    refine zg_x2 hX dX13_go_230 ?_
    refine zs_iload_n hX dX13_go_233 rfl rfl ?_
    obtain ⟨b9, h⟩ := zgd_e h
    refine zl_x2 hX dX13_go_234 (zin_ok b9) ?_
    refine zs_iload_n hX dX13_go_235 rfl rfl ?_
    obtain ⟨s10, e11, h⟩ := zcv_e h
    refine zc_open hX dX13_go_236 (Nat.le_of_ble_eq_true rfl) (hc _ _ _ _ e11) (fun u9 h9 => ?_)
    cases h9
    refine zs_aload_n hX dX13_go_239 rfl rfl ?_
    obtain ⟨s12, e13, h⟩ := zcv_e h
    refine zc_go hX dX13_go_240 (Nat.le_of_ble_eq_true rfl) (hc _ _ _ _ e13) (fun u9 h9 => ?_)
    cases h9
    refine zs_aload_n hX dX13_go_243 rfl rfl ?_
    refine zs_dup hX dX13_go_244 rfl ?_
    refine zg_opens hX dX13_go_245 ?_
    refine zs_iconst (v := 1) hX dX13_go_248 (by decide) ?_
    refine zs_isub hX dX13_go_249 ?_
    obtain ⟨s14, e15, h⟩ := zlet_e h
    refine zp_opens hX dX13_go_250 ?_
    rw [← e15]
    refine zs_goto (tgt := 343) hX dX13_go_253 (by decide) ?_
    exact pj_go_343 hX hc h
  · rw [if_pos c1] at h
    refine zs_aload_n hX dX13_go_164 rfl rfl ?_
    refine zs_aload_n hX dX13_go_165 rfl rfl ?_
    refine zg_x1 hX dX13_go_166 ?_
    refine zs_iload_n hX dX13_go_169 rfl rfl ?_
    obtain ⟨b16, h⟩ := zgd_e h
    refine zl_x1 hX dX13_go_170 (zin_ok b16) ?_
    refine zs_iload_n hX dX13_go_171 rfl rfl ?_
    obtain ⟨s17, e18, h⟩ := zcv_e h
    refine zc_open hX dX13_go_172 (Nat.le_of_ble_eq_true rfl) (hc _ _ _ _ e18) (fun u9 h9 => ?_)
    cases h9
    refine zs_aload_n hX dX13_go_175 rfl rfl ?_
    refine zs_aload_n hX dX13_go_176 rfl rfl ?_
    refine zg_x2 hX dX13_go_177 ?_
    refine zs_iload_n hX dX13_go_180 rfl rfl ?_
    obtain ⟨b19, h⟩ := zgd_e h
    refine zl_x2 hX dX13_go_181 (zin_ok b19) ?_
    refine zs_iload_n hX dX13_go_182 rfl rfl ?_
    obtain ⟨s20, e21, h⟩ := zcv_e h
    refine zc_open hX dX13_go_183 (Nat.le_of_ble_eq_true rfl) (hc _ _ _ _ e21) (fun u9 h9 => ?_)
    cases h9
    refine zs_aload_n hX dX13_go_186 rfl rfl ?_
    obtain ⟨s22, e23, h⟩ := zcv_e h
    refine zc_go hX dX13_go_187 (Nat.le_of_ble_eq_true rfl) (hc _ _ _ _ e23) (fun u9 h9 => ?_)
    cases h9
    refine zs_aload_n hX dX13_go_190 rfl rfl ?_
    refine zs_dup hX dX13_go_191 rfl ?_
    refine zg_opens hX dX13_go_192 ?_
    refine zs_iconst (v := 2) hX dX13_go_195 (by decide) ?_
    refine zs_isub hX dX13_go_196 ?_
    obtain ⟨s24, e25, h⟩ := zlet_e h
    refine zp_opens hX dX13_go_197 ?_
    rw [← e25]
    refine zs_goto (tgt := 343) hX dX13_go_200 (by decide) ?_
    exact pj_go_343 hX hc h
set_option maxHeartbeats 4000000 in
theorem pj_go_91 {h0 : Nat} {qs : List Nat} {ks : Nat → Nat} {n : Nat} {call : zCl} {kc : Nat → List Value → zSt → (Option Value → zSt → Prop) → Prop} {v : Option Value × zSt} {X : Nat → zLv → List Value → zSt → Prop} (hX : zSem cX13_go 3 none h0 qs ks kc (fun r u => (r, u) = v) X) (hc : ∀ j av s w, call j av s = some w → kc j av s (fun r u => (r, u) = w)) {t1 : Int32} {t2 : Int32} {σ : zSt} (h : j_go_91 n call h0 qs ks t1 t2 σ = some v) : X 91 [some (.ref h0), none, none] [.int t2, .int t1, .ref (qs.getD 92 0)] σ := by
  rw [j_go_91] at h
  obtain ⟨b1, h⟩ := zgd_e h
  obtain ⟨s2, e3, h⟩ := zlet_e h
  refine zt_openIs hX dX13_go_91 (zin_ok b1) ?_
  rw [← e3]
  refine zs_aload_n hX dX13_go_92 rfl rfl ?_
  refine zs_dup hX dX13_go_93 rfl ?_
  refine zg_opens hX dX13_go_94 ?_
  refine zs_iconst (v := 1) hX dX13_go_97 (by decide) ?_
  refine zs_iadd hX dX13_go_98 ?_
  obtain ⟨s4, e5, h⟩ := zlet_e h
  refine zp_opens hX dX13_go_99 ?_
  rw [← e5]
  exact zs_vret hX dX13_go_102 rfl (Option.some.inj h)
set_option maxHeartbeats 4000000 in
theorem pj_go_50 {h0 : Nat} {qs : List Nat} {ks : Nat → Nat} {n : Nat} {call : zCl} {kc : Nat → List Value → zSt → (Option Value → zSt → Prop) → Prop} {v : Option Value × zSt} {X : Nat → zLv → List Value → zSt → Prop} (hX : zSem cX13_go 3 none h0 qs ks kc (fun r u => (r, u) = v) X) (hc : ∀ j av s w, call j av s = some w → kc j av s (fun r u => (r, u) = w)) {x1 : Int32} {t0 : Int32} {σ : zSt} (h : j_go_50 n call h0 qs ks x1 t0 σ = some v) : X 50 [some (.ref h0), some (.int x1), none] [.int t0] σ := by
  rw [j_go_50] at h
  refine zs_istore_n hX dX13_go_50 rfl (by decide) rfl ?_
  dsimp only [List.set]
  refine zs_iload_n hX dX13_go_51 rfl rfl ?_
  refine zs_if_ge (tgt := 103) hX dX13_go_52 (by decide) (fun c1 => ?_) (fun c1 => ?_)
  · rw [if_pos c1] at h
    refine zs_aload_n hX dX13_go_103 rfl rfl ?_
    refine zg_kind hX dX13_go_104 ?_
    refine zs_iload_n hX dX13_go_107 rfl rfl ?_
    obtain ⟨b2, h⟩ := zgd_e h
    refine zl_kind hX dX13_go_108 (zin_ok b2) ?_
    by_cases c3 : (σ.2.2.1 6 (x1).toNatClampNeg) = 20
    · rw [if_pos c3] at h
      refine zs_tableIn (tgt := 144) (off := 35) hX dX13_go_109 (by rw [c3]; decide) (by rw [c3]; decide) (by rw [c3]; rfl) (by decide) ?_
      refine zs_aload_n hX dX13_go_144 rfl rfl ?_
      refine zg_kind hX dX13_go_145 ?_
      refine zs_iload_n hX dX13_go_148 rfl rfl ?_
      obtain ⟨b4, h⟩ := zgd_e h
      refine zl_kind hX dX13_go_149 (zin_ok b4) ?_
      refine zs_bipush (v := 21) hX dX13_go_150 (by decide) ?_
      refine zs_icmp_ne (tgt := 159) hX dX13_go_152 (by decide) (fun c5 => ?_) (fun c5 => ?_)
      · rw [if_neg c5] at h
        refine zs_iconst (v := 0) hX dX13_go_159 (by decide) ?_
        exact pj_go_160 hX hc h
      · rw [if_pos c5] at h
        refine zs_iconst (v := 1) hX dX13_go_155 (by decide) ?_
        refine zs_goto (tgt := 160) hX dX13_go_156 (by decide) ?_
        exact pj_go_160 hX hc h
    rw [if_neg c3] at h
    by_cases c6 : (σ.2.2.1 6 (x1).toNatClampNeg) = 21
    · rw [if_pos c6] at h
      refine zs_tableIn (tgt := 144) (off := 35) hX dX13_go_109 (by rw [c6]; decide) (by rw [c6]; decide) (by rw [c6]; rfl) (by decide) ?_
      refine zs_aload_n hX dX13_go_144 rfl rfl ?_
      refine zg_kind hX dX13_go_145 ?_
      refine zs_iload_n hX dX13_go_148 rfl rfl ?_
      obtain ⟨b7, h⟩ := zgd_e h
      refine zl_kind hX dX13_go_149 (zin_ok b7) ?_
      refine zs_bipush (v := 21) hX dX13_go_150 (by decide) ?_
      refine zs_icmp_ne (tgt := 159) hX dX13_go_152 (by decide) (fun c8 => ?_) (fun c8 => ?_)
      · rw [if_neg c8] at h
        refine zs_iconst (v := 0) hX dX13_go_159 (by decide) ?_
        exact pj_go_160 hX hc h
      · rw [if_pos c8] at h
        refine zs_iconst (v := 1) hX dX13_go_155 (by decide) ?_
        refine zs_goto (tgt := 160) hX dX13_go_156 (by decide) ?_
        exact pj_go_160 hX hc h
    rw [if_neg c6] at h
    by_cases c9 : (σ.2.2.1 6 (x1).toNatClampNeg) = 22
    · rw [if_pos c9] at h
      refine zs_tableIn (tgt := 256) (off := 147) hX dX13_go_109 (by rw [c9]; decide) (by rw [c9]; decide) (by rw [c9]; rfl) (by decide) ?_
      refine zs_aload_n hX dX13_go_256 rfl rfl ?_
      refine zs_aload_n hX dX13_go_257 rfl rfl ?_
      refine zg_x1 hX dX13_go_258 ?_
      refine zs_iload_n hX dX13_go_261 rfl rfl ?_
      obtain ⟨b10, h⟩ := zgd_e h
      refine zl_x1 hX dX13_go_262 (zin_ok b10) ?_
      refine zs_iload_n hX dX13_go_263 rfl rfl ?_
      refine zs_if_ne (tgt := 271) hX dX13_go_264 (by decide) (fun c11 => ?_) (fun c11 => ?_)
      · rw [if_neg c11] at h
        refine zs_iconst (v := 0) hX dX13_go_271 (by decide) ?_
        exact pj_go_272 hX hc h
      · rw [if_pos c11] at h
        refine zs_iconst (v := 1) hX dX13_go_267 (by decide) ?_
        refine zs_goto (tgt := 272) hX dX13_go_268 (by decide) ?_
        exact pj_go_272 hX hc h
    rw [if_neg c9] at h
    by_cases c12 : (σ.2.2.1 6 (x1).toNatClampNeg) = 23
    · rw [if_pos c12] at h
      refine zs_tableIn (tgt := 292) (off := 183) hX dX13_go_109 (by rw [c12]; decide) (by rw [c12]; decide) (by rw [c12]; rfl) (by decide) ?_
      refine zs_aload_n hX dX13_go_292 rfl rfl ?_
      refine zg_x1 hX dX13_go_293 ?_
      refine zs_iload_n hX dX13_go_296 rfl rfl ?_
      obtain ⟨b13, h⟩ := zgd_e h
      refine zl_x1 hX dX13_go_297 (zin_ok b13) ?_
      refine zs_iconst (v := 1) hX dX13_go_298 (by decide) ?_
      refine zs_icmp_ne (tgt := 306) hX dX13_go_299 (by decide) (fun c14 => ?_) (fun c14 => ?_)
      · rw [if_neg c14] at h
        refine zs_iconst (v := 0) hX dX13_go_306 (by decide) ?_
        exact pj_go_307 hX hc h
      · rw [if_pos c14] at h
        refine zs_iconst (v := 1) hX dX13_go_302 (by decide) ?_
        refine zs_goto (tgt := 307) hX dX13_go_303 (by decide) ?_
        exact pj_go_307 hX hc h
    rw [if_neg c12] at h
    by_cases c15 : (σ.2.2.1 6 (x1).toNatClampNeg) = 24
    · rw [if_pos c15] at h
      refine zs_tableIn (tgt := 318) (off := 209) hX dX13_go_109 (by rw [c15]; decide) (by rw [c15]; decide) (by rw [c15]; rfl) (by decide) ?_
      refine zs_aload_n hX dX13_go_318 rfl rfl ?_
      refine zs_aload_n hX dX13_go_319 rfl rfl ?_
      refine zg_whose hX dX13_go_320 ?_
      refine zs_aload_n hX dX13_go_323 rfl rfl ?_
      refine zg_x1 hX dX13_go_324 ?_
      refine zs_iload_n hX dX13_go_327 rfl rfl ?_
      obtain ⟨b16, h⟩ := zgd_e h
      refine zl_x1 hX dX13_go_328 (zin_ok b16) ?_
      obtain ⟨b17, h⟩ := zgd_e h
      refine zl_whose hX dX13_go_329 (zin_ok b17) ?_
      refine zs_iload_n hX dX13_go_330 rfl rfl ?_
      obtain ⟨s18, e19, h⟩ := zcv_e h
      refine zc_truth hX dX13_go_331 (Nat.le_of_ble_eq_true rfl) (hc _ _ _ _ e19) (fun u9 h9 => ?_)
      cases h9
      refine zs_goto (tgt := 343) hX dX13_go_334 (by decide) ?_
      exact pj_go_343 hX hc h
    rw [if_neg c15] at h
    refine zs_tableOut (tgt := 337) hX dX13_go_109 (by have := z_ne c3 (k := 20) (by decide); have := z_ne c6 (k := 21) (by decide); have := z_ne c9 (k := 22) (by decide); have := z_ne c12 (k := 23) (by decide); have := z_ne c15 (k := 24) (by decide); omega) (by decide) ?_
    refine zs_aload_n hX dX13_go_337 rfl rfl ?_
    refine zs_iload_n hX dX13_go_338 rfl rfl ?_
    refine zs_iload_n hX dX13_go_339 rfl rfl ?_
    obtain ⟨s20, e21, h⟩ := zcv_e h
    refine zc_compares hX dX13_go_340 (Nat.le_of_ble_eq_true rfl) (hc _ _ _ _ e21) (fun u9 h9 => ?_)
    cases h9
    exact pj_go_343 hX hc h
  · rw [if_neg c1] at h
    refine zs_aload_n hX dX13_go_55 rfl rfl ?_
    refine zs_bipush (v := (-2)) hX dX13_go_56 (by decide) ?_
    refine zs_iload_n hX dX13_go_58 rfl rfl ?_
    refine zs_isub hX dX13_go_59 ?_
    refine zs_iload_n hX dX13_go_60 rfl rfl ?_
    obtain ⟨s22, e23, h⟩ := zcv_e h
    refine zc_sized hX dX13_go_61 (Nat.le_of_ble_eq_true rfl) (hc _ _ _ _ e23) (fun u9 h9 => ?_)
    cases h9
    refine zs_aload_n hX dX13_go_64 rfl rfl ?_
    refine zg_openNode hX dX13_go_65 ?_
    refine zs_aload_n hX dX13_go_68 rfl rfl ?_
    refine zg_opens hX dX13_go_69 ?_
    refine zs_iload_n hX dX13_go_72 rfl rfl ?_
    obtain ⟨b24, h⟩ := zgd_e h
    obtain ⟨s25, e26, h⟩ := zlet_e h
    refine zt_openNode hX dX13_go_73 (zin_ok b24) ?_
    rw [← e26]
    refine zs_aload_n hX dX13_go_74 rfl rfl ?_
    refine zg_openIs hX dX13_go_75 ?_
    refine zs_aload_n hX dX13_go_78 rfl rfl ?_
    refine zg_opens hX dX13_go_79 ?_
    refine zs_iload_n hX dX13_go_82 rfl rfl ?_
    refine zs_if_eq (tgt := 90) hX dX13_go_83 (by decide) (fun c27 => ?_) (fun c27 => ?_)
    · rw [if_pos c27] at h
      refine zs_iconst (v := 0) hX dX13_go_90 (by decide) ?_
      refine zs_weak hX (lw := [some (.ref h0), none, none]) ⟨rfl, trivial⟩ ?_
      exact pj_go_91 hX hc h
    · rw [if_neg c27] at h
      refine zs_iconst (v := 1) hX dX13_go_86 (by decide) ?_
      refine zs_goto (tgt := 91) hX dX13_go_87 (by decide) ?_
      refine zs_weak hX (lw := [some (.ref h0), none, none]) ⟨rfl, trivial⟩ ?_
      exact pj_go_91 hX hc h
set_option maxHeartbeats 4000000 in
theorem pb_go {h0 : Nat} {qs : List Nat} {ks : Nat → Nat} {n : Nat} {call : zCl} {kc : Nat → List Value → zSt → (Option Value → zSt → Prop) → Prop} {v : Option Value × zSt} {X : Nat → zLv → List Value → zSt → Prop} (hX : zSem cX13_go 3 none h0 qs ks kc (fun r u => (r, u) = v) X) (hc : ∀ j av s w, call j av s = some w → kc j av s (fun r u => (r, u) = w)) {σ : zSt} (h : b_go n call h0 qs ks σ = some v) : X 0 [some (.ref h0), none, none] [] σ := by
  rw [b_go] at h
  refine zs_aload_n hX dX13_go_0 rfl rfl ?_
  refine zg_opens hX dX13_go_1 ?_
  refine zs_if_ne (tgt := 12) hX dX13_go_4 (by decide) (fun c1 => ?_) (fun c1 => ?_)
  · rw [if_neg c1] at h
    refine zs_aload_n hX dX13_go_12 rfl rfl ?_
    refine zs_dup hX dX13_go_13 rfl ?_
    refine zg_opens hX dX13_go_14 ?_
    refine zs_iconst (v := 1) hX dX13_go_17 (by decide) ?_
    refine zs_isub hX dX13_go_18 ?_
    obtain ⟨s2, e3, h⟩ := zlet_e h
    refine zp_opens hX dX13_go_19 ?_
    rw [← e3]
    refine zs_aload_n hX dX13_go_22 rfl rfl ?_
    refine zg_openNode hX dX13_go_23 ?_
    refine zs_aload_n hX dX13_go_26 rfl rfl ?_
    refine zg_opens hX dX13_go_27 ?_
    obtain ⟨b4, h⟩ := zgd_e h
    refine zl_openNode hX dX13_go_30 (zin_ok b4) ?_
    refine zs_istore_n hX dX13_go_31 rfl (by decide) rfl ?_
    dsimp only [List.set]
    refine zs_aload_n hX dX13_go_32 rfl rfl ?_
    refine zg_openIs hX dX13_go_33 ?_
    refine zs_aload_n hX dX13_go_36 rfl rfl ?_
    refine zg_opens hX dX13_go_37 ?_
    obtain ⟨b5, h⟩ := zgd_e h
    refine zl_openIs hX dX13_go_40 (zin_ok b5) ?_
    refine zs_iconst (v := 1) hX dX13_go_41 (by decide) ?_
    refine zs_icmp_ne (tgt := 49) hX dX13_go_42 (by decide) (fun c6 => ?_) (fun c6 => ?_)
    · rw [if_neg c6] at h
      refine zs_iconst (v := 0) hX dX13_go_49 (by decide) ?_
      exact pj_go_50 hX hc h
    · rw [if_pos c6] at h
      refine zs_iconst (v := 1) hX dX13_go_45 (by decide) ?_
      refine zs_goto (tgt := 50) hX dX13_go_46 (by decide) ?_
      exact pj_go_50 hX hc h
  · rw [if_pos c1] at h
    refine zs_aload_n hX dX13_go_7 rfl rfl ?_
    obtain ⟨s7, e8, h⟩ := zcv_e h
    refine zc_leaf hX dX13_go_8 (Nat.le_of_ble_eq_true rfl) (hc _ _ _ _ e8) (fun u9 h9 => ?_)
    cases h9
    exact zs_vret hX dX13_go_11 rfl (Option.some.inj h)
def j_sized_39 (n : Nat) (call : zCl) (h0 : Nat) (qs : List Nat) (ks : Nat → Nat) (x3 : Int32) (σ : zSt) : zRs :=
  zcv (call 101 [.ref h0] σ) fun s1 =>
  zlet (zI s1 152 x3) fun s3 =>
  some (none, s3)
def b_sized (n : Nat) (call : zCl) (h0 : Nat) (qs : List Nat) (ks : Nat → Nat) (x1 : Int32) (x2 : Int32) (σ : zSt) : zRs :=
  zci (call 85 [.ref h0, .int x1] σ) fun r3 s1 =>
  if x2 = 0 then
    zcv (call 96 [.ref h0, .int r3, .int (-1), .int 0, .int 0, .long 1] s1) fun s5 =>
    j_sized_39 n call h0 qs ks (σ.1 152) s5
  else
    zcv (call 96 [.ref h0, .int r3, .int 1, .int 0, .int 0, .long 0] s1) fun s7 =>
    j_sized_39 n call h0 qs ks (σ.1 152) s7
set_option maxHeartbeats 4000000 in
theorem pj_sized_39 {h0 : Nat} {qs : List Nat} {ks : Nat → Nat} {n : Nat} {call : zCl} {kc : Nat → List Value → zSt → (Option Value → zSt → Prop) → Prop} {v : Option Value × zSt} {X : Nat → zLv → List Value → zSt → Prop} (hX : zSem cX13_sized 5 none h0 qs ks kc (fun r u => (r, u) = v) X) (hc : ∀ j av s w, call j av s = some w → kc j av s (fun r u => (r, u) = w)) {x3 : Int32} {σ : zSt} (h : j_sized_39 n call h0 qs ks x3 σ = some v) : X 39 [some (.ref h0), none, none, some (.int x3), none] [] σ := by
  rw [j_sized_39] at h
  refine zs_aload_n hX dX13_sized_39 rfl rfl ?_
  obtain ⟨s1, e2, h⟩ := zcv_e h
  refine zc_go hX dX13_sized_40 (Nat.le_of_ble_eq_true rfl) (hc _ _ _ _ e2) (fun u9 h9 => ?_)
  cases h9
  refine zs_aload_n hX dX13_sized_43 rfl rfl ?_
  refine zs_iload_n hX dX13_sized_44 rfl rfl ?_
  obtain ⟨s3, e4, h⟩ := zlet_e h
  refine zp_ways hX dX13_sized_45 ?_
  rw [← e4]
  exact zs_vret hX dX13_sized_48 rfl (Option.some.inj h)
set_option maxHeartbeats 4000000 in
theorem pb_sized {h0 : Nat} {qs : List Nat} {ks : Nat → Nat} {n : Nat} {call : zCl} {kc : Nat → List Value → zSt → (Option Value → zSt → Prop) → Prop} {v : Option Value × zSt} {X : Nat → zLv → List Value → zSt → Prop} (hX : zSem cX13_sized 5 none h0 qs ks kc (fun r u => (r, u) = v) X) (hc : ∀ j av s w, call j av s = some w → kc j av s (fun r u => (r, u) = w)) {x1 : Int32} {x2 : Int32} {σ : zSt} (h : b_sized n call h0 qs ks x1 x2 σ = some v) : X 0 [some (.ref h0), some (.int x1), some (.int x2), none, none] [] σ := by
  rw [b_sized] at h
  refine zs_aload_n hX dX13_sized_0 rfl rfl ?_
  refine zg_ways hX dX13_sized_1 ?_
  refine zs_istore_n hX dX13_sized_4 rfl (by decide) rfl ?_
  dsimp only [List.set]
  refine zs_aload_n hX dX13_sized_5 rfl rfl ?_
  refine zs_iload_n hX dX13_sized_6 rfl rfl ?_
  obtain ⟨r3, s1, e2, h⟩ := zci_e h
  refine zc_columnOf hX dX13_sized_7 (Nat.le_of_ble_eq_true rfl) (hc _ _ _ _ e2) (fun r9 u9 h9 => ?_)
  cases h9
  refine zs_istore hX dX13_sized_10 (by decide) rfl ?_
  dsimp only [List.set]
  refine zs_iload_n hX dX13_sized_12 rfl rfl ?_
  refine zs_if_eq (tgt := 29) hX dX13_sized_13 (by decide) (fun c4 => ?_) (fun c4 => ?_)
  · rw [if_pos c4] at h
    refine zs_aload_n hX dX13_sized_29 rfl rfl ?_
    refine zs_iload hX dX13_sized_30 rfl ?_
    refine zs_iconst (v := (-1)) hX dX13_sized_32 (by decide) ?_
    refine zs_iconst (v := 0) hX dX13_sized_33 (by decide) ?_
    refine zs_iconst (v := 0) hX dX13_sized_34 (by decide) ?_
    refine zs_lconst (v := 1) hX dX13_sized_35 (by decide) ?_
    obtain ⟨s5, e6, h⟩ := zcv_e h
    refine zc_way hX dX13_sized_36 (Nat.le_of_ble_eq_true rfl) (hc _ _ _ _ e6) (fun u9 h9 => ?_)
    cases h9
    refine zs_weak hX (lw := [some (.ref h0), none, none, some (.int (σ.1 152)), none]) ⟨rfl, rfl, trivial⟩ ?_
    exact pj_sized_39 hX hc h
  · rw [if_neg c4] at h
    refine zs_aload_n hX dX13_sized_16 rfl rfl ?_
    refine zs_iload hX dX13_sized_17 rfl ?_
    refine zs_iconst (v := 1) hX dX13_sized_19 (by decide) ?_
    refine zs_iconst (v := 0) hX dX13_sized_20 (by decide) ?_
    refine zs_iconst (v := 0) hX dX13_sized_21 (by decide) ?_
    refine zs_lconst (v := 0) hX dX13_sized_22 (by decide) ?_
    obtain ⟨s7, e8, h⟩ := zcv_e h
    refine zc_way hX dX13_sized_23 (Nat.le_of_ble_eq_true rfl) (hc _ _ _ _ e8) (fun u9 h9 => ?_)
    cases h9
    refine zs_goto (tgt := 39) hX dX13_sized_26 (by decide) ?_
    refine zs_weak hX (lw := [some (.ref h0), none, none, some (.int (σ.1 152)), none]) ⟨rfl, rfl, trivial⟩ ?_
    exact pj_sized_39 hX hc h
def j_truth_80 (n : Nat) (call : zCl) (h0 : Nat) (qs : List Nat) (ks : Nat → Nat) (t1 : Int32) (t2 : Int32) (σ : zSt) : zRs :=
  zgd (zin t1 60) (zlet (zA σ 98 (upd (σ.2.2.1 98) (t1).toNatClampNeg t2)) fun s2 =>
  zlet (zI s2 153 ((s2.1 153) + 1)) fun s4 =>
  zcv (call 101 [.ref h0] s4) fun s6 =>
  zlet (zI s6 153 ((s6.1 153) - 1)) fun s8 =>
  some (none, s8))
def j_truth_38 (n : Nat) (call : zCl) (h0 : Nat) (qs : List Nat) (ks : Nat → Nat) (k2 : Int32 → Int32 → Int32 → zSt → zRs) (x2 : Int32) (t0 : Int32) (σ : zSt) : zRs :=
  if t0 = x2 then
    zcv (call 101 [.ref h0] σ) fun s2 =>
    some (none, s2)
  else
    some (none, σ)
def l_truth_2 (n : Nat) (call : zCl) (h0 : Nat) (qs : List Nat) (ks : Nat → Nat) : Nat → Int32 → Int32 → Int32 → zSt → zRs
  | 0, _, _, _, _ => none
  | f + 1, x1, x2, x3, σ =>
    if (σ.1 153) ≤ x3 then
      zgd (zin (σ.1 153) 60) (zlet (zA σ 97 (upd (σ.2.2.1 97) ((σ.1 153)).toNatClampNeg x1)) fun s3 =>
      if x2 = 0 then
        j_truth_80 n call h0 qs ks (s3.1 153) 0 s3
      else
        j_truth_80 n call h0 qs ks (s3.1 153) 1 s3)
    else
      zgd (zin x3 60) (
      if (σ.2.2.1 97 (x3).toNatClampNeg) = x1 then
        zgd (zin x3 60) (
        if (σ.2.2.1 98 (x3).toNatClampNeg) = 1 then
          j_truth_38 n call h0 qs ks (l_truth_2 n call h0 qs ks f) x2 1 σ
        else
          j_truth_38 n call h0 qs ks (l_truth_2 n call h0 qs ks f) x2 0 σ)
      else
        l_truth_2 n call h0 qs ks f x1 x2 (x3 + 1) σ)
def b_truth (n : Nat) (call : zCl) (h0 : Nat) (qs : List Nat) (ks : Nat → Nat) (x1 : Int32) (x2 : Int32) (σ : zSt) : zRs :=
  l_truth_2 n call h0 qs ks n x1 x2 0 σ
set_option maxHeartbeats 4000000 in
theorem pj_truth_80 {h0 : Nat} {qs : List Nat} {ks : Nat → Nat} {n : Nat} {call : zCl} {kc : Nat → List Value → zSt → (Option Value → zSt → Prop) → Prop} {v : Option Value × zSt} {X : Nat → zLv → List Value → zSt → Prop} (hX : zSem cX13_truth 4 none h0 qs ks kc (fun r u => (r, u) = v) X) (hc : ∀ j av s w, call j av s = some w → kc j av s (fun r u => (r, u) = w)) {t1 : Int32} {t2 : Int32} {σ : zSt} (h : j_truth_80 n call h0 qs ks t1 t2 σ = some v) : X 80 [some (.ref h0), none, none, none] [.int t2, .int t1, .ref (qs.getD 98 0)] σ := by
  rw [j_truth_80] at h
  obtain ⟨b1, h⟩ := zgd_e h
  obtain ⟨s2, e3, h⟩ := zlet_e h
  refine zt_truthIs hX dX13_truth_80 (zin_ok b1) ?_
  rw [← e3]
  refine zs_aload_n hX dX13_truth_81 rfl rfl ?_
  refine zs_dup hX dX13_truth_82 rfl ?_
  refine zg_truths hX dX13_truth_83 ?_
  refine zs_iconst (v := 1) hX dX13_truth_86 (by decide) ?_
  refine zs_iadd hX dX13_truth_87 ?_
  obtain ⟨s4, e5, h⟩ := zlet_e h
  refine zp_truths hX dX13_truth_88 ?_
  rw [← e5]
  refine zs_aload_n hX dX13_truth_91 rfl rfl ?_
  obtain ⟨s6, e7, h⟩ := zcv_e h
  refine zc_go hX dX13_truth_92 (Nat.le_of_ble_eq_true rfl) (hc _ _ _ _ e7) (fun u9 h9 => ?_)
  cases h9
  refine zs_aload_n hX dX13_truth_95 rfl rfl ?_
  refine zs_dup hX dX13_truth_96 rfl ?_
  refine zg_truths hX dX13_truth_97 ?_
  refine zs_iconst (v := 1) hX dX13_truth_100 (by decide) ?_
  refine zs_isub hX dX13_truth_101 ?_
  obtain ⟨s8, e9, h⟩ := zlet_e h
  refine zp_truths hX dX13_truth_102 ?_
  rw [← e9]
  exact zs_vret hX dX13_truth_105 rfl (Option.some.inj h)
set_option maxHeartbeats 4000000 in
theorem pj_truth_38 {h0 : Nat} {qs : List Nat} {ks : Nat → Nat} {n : Nat} {call : zCl} {kc : Nat → List Value → zSt → (Option Value → zSt → Prop) → Prop} {v : Option Value × zSt} {X : Nat → zLv → List Value → zSt → Prop} (hX : zSem cX13_truth 4 none h0 qs ks kc (fun r u => (r, u) = v) X) (hc : ∀ j av s w, call j av s = some w → kc j av s (fun r u => (r, u) = w)) {k2 : Int32 → Int32 → Int32 → zSt → zRs} (hk2 : ∀ (x1 : Int32) (x2 : Int32) (x3 : Int32) (s : zSt), k2 x1 x2 x3 s = some v → X 2 [some (.ref h0), some (.int x1), some (.int x2), some (.int x3)] [] s) {x2 : Int32} {t0 : Int32} {σ : zSt} (h : j_truth_38 n call h0 qs ks k2 x2 t0 σ = some v) : X 38 [some (.ref h0), none, some (.int x2), none] [.int t0] σ := by
  rw [j_truth_38] at h
  refine zs_iload_n hX dX13_truth_38 rfl rfl ?_
  refine zs_icmp_ne (tgt := 46) hX dX13_truth_39 (by decide) (fun c1 => ?_) (fun c1 => ?_)
  · rw [if_neg c1] at h
    exact zs_vret hX dX13_truth_46 rfl (Option.some.inj h)
  · rw [if_pos c1] at h
    refine zs_aload_n hX dX13_truth_42 rfl rfl ?_
    obtain ⟨s2, e3, h⟩ := zcv_e h
    refine zc_go hX dX13_truth_43 (Nat.le_of_ble_eq_true rfl) (hc _ _ _ _ e3) (fun u9 h9 => ?_)
    cases h9
    exact zs_vret hX dX13_truth_46 rfl (Option.some.inj h)
set_option maxHeartbeats 4000000 in
theorem pl_truth_2 {h0 : Nat} {qs : List Nat} {ks : Nat → Nat} {n : Nat} {call : zCl} {kc : Nat → List Value → zSt → (Option Value → zSt → Prop) → Prop} {v : Option Value × zSt} {X : Nat → zLv → List Value → zSt → Prop} (hX : zSem cX13_truth 4 none h0 qs ks kc (fun r u => (r, u) = v) X) (hc : ∀ j av s w, call j av s = some w → kc j av s (fun r u => (r, u) = w)) : ∀ (f : Nat) (x1 : Int32) (x2 : Int32) (x3 : Int32) (σ : zSt), l_truth_2 n call h0 qs ks f x1 x2 x3 σ = some v → X 2 [some (.ref h0), some (.int x1), some (.int x2), some (.int x3)] [] σ := by
  intro f
  induction f with
  | zero => intro x1 x2 x3 σ h; cases h
  | succ f hk2 =>
    intro x1 x2 x3 σ h
    rw [l_truth_2] at h
    refine zs_iload_n hX dX13_truth_2 rfl rfl ?_
    refine zs_aload_n hX dX13_truth_3 rfl rfl ?_
    refine zg_truths hX dX13_truth_4 ?_
    refine zs_icmp_ge (tgt := 53) hX dX13_truth_7 (by decide) (fun c1 => ?_) (fun c1 => ?_)
    · rw [if_pos c1] at h
      refine zs_aload_n hX dX13_truth_53 rfl rfl ?_
      refine zg_truthName hX dX13_truth_54 ?_
      refine zs_aload_n hX dX13_truth_57 rfl rfl ?_
      refine zg_truths hX dX13_truth_58 ?_
      refine zs_iload_n hX dX13_truth_61 rfl rfl ?_
      obtain ⟨b2, h⟩ := zgd_e h
      obtain ⟨s3, e4, h⟩ := zlet_e h
      refine zt_truthName hX dX13_truth_62 (zin_ok b2) ?_
      rw [← e4]
      refine zs_aload_n hX dX13_truth_63 rfl rfl ?_
      refine zg_truthIs hX dX13_truth_64 ?_
      refine zs_aload_n hX dX13_truth_67 rfl rfl ?_
      refine zg_truths hX dX13_truth_68 ?_
      refine zs_iload_n hX dX13_truth_71 rfl rfl ?_
      refine zs_if_eq (tgt := 79) hX dX13_truth_72 (by decide) (fun c5 => ?_) (fun c5 => ?_)
      · rw [if_pos c5] at h
        refine zs_iconst (v := 0) hX dX13_truth_79 (by decide) ?_
        refine zs_weak hX (lw := [some (.ref h0), none, none, none]) ⟨rfl, trivial⟩ ?_
        exact pj_truth_80 hX hc h
      · rw [if_neg c5] at h
        refine zs_iconst (v := 1) hX dX13_truth_75 (by decide) ?_
        refine zs_goto (tgt := 80) hX dX13_truth_76 (by decide) ?_
        refine zs_weak hX (lw := [some (.ref h0), none, none, none]) ⟨rfl, trivial⟩ ?_
        exact pj_truth_80 hX hc h
    · rw [if_neg c1] at h
      refine zs_aload_n hX dX13_truth_10 rfl rfl ?_
      refine zg_truthName hX dX13_truth_11 ?_
      refine zs_iload_n hX dX13_truth_14 rfl rfl ?_
      obtain ⟨b6, h⟩ := zgd_e h
      refine zl_truthName hX dX13_truth_15 (zin_ok b6) ?_
      refine zs_iload_n hX dX13_truth_16 rfl rfl ?_
      refine zs_icmp_eq (tgt := 23) hX dX13_truth_17 (by decide) (fun c7 => ?_) (fun c7 => ?_)
      · rw [if_pos c7] at h
        refine zs_aload_n hX dX13_truth_23 rfl rfl ?_
        refine zg_truthIs hX dX13_truth_24 ?_
        refine zs_iload_n hX dX13_truth_27 rfl rfl ?_
        obtain ⟨b8, h⟩ := zgd_e h
        refine zl_truthIs hX dX13_truth_28 (zin_ok b8) ?_
        refine zs_iconst (v := 1) hX dX13_truth_29 (by decide) ?_
        refine zs_icmp_ne (tgt := 37) hX dX13_truth_30 (by decide) (fun c9 => ?_) (fun c9 => ?_)
        · rw [if_neg c9] at h
          refine zs_iconst (v := 0) hX dX13_truth_37 (by decide) ?_
          refine zs_weak hX (lw := [some (.ref h0), none, some (.int x2), none]) ⟨rfl, rfl, trivial⟩ ?_
          exact pj_truth_38 hX hc hk2 h
        · rw [if_pos c9] at h
          refine zs_iconst (v := 1) hX dX13_truth_33 (by decide) ?_
          refine zs_goto (tgt := 38) hX dX13_truth_34 (by decide) ?_
          refine zs_weak hX (lw := [some (.ref h0), none, some (.int x2), none]) ⟨rfl, rfl, trivial⟩ ?_
          exact pj_truth_38 hX hc hk2 h
      · rw [if_neg c7] at h
        refine zs_goto (tgt := 47) hX dX13_truth_20 (by decide) ?_
        refine zs_iinc (v := x3 + 1) hX dX13_truth_47 rfl rfl (by decide) rfl ?_
        dsimp only [List.set]
        refine zs_goto (tgt := 2) hX dX13_truth_50 (by decide) ?_
        exact hk2 _ _ _ _ h
set_option maxHeartbeats 4000000 in
theorem pb_truth {h0 : Nat} {qs : List Nat} {ks : Nat → Nat} {n : Nat} {call : zCl} {kc : Nat → List Value → zSt → (Option Value → zSt → Prop) → Prop} {v : Option Value × zSt} {X : Nat → zLv → List Value → zSt → Prop} (hX : zSem cX13_truth 4 none h0 qs ks kc (fun r u => (r, u) = v) X) (hc : ∀ j av s w, call j av s = some w → kc j av s (fun r u => (r, u) = w)) {x1 : Int32} {x2 : Int32} {σ : zSt} (h : b_truth n call h0 qs ks x1 x2 σ = some v) : X 0 [some (.ref h0), some (.int x1), some (.int x2), none] [] σ := by
  rw [b_truth] at h
  refine zs_iconst (v := 0) hX dX13_truth_0 (by decide) ?_
  refine zs_istore_n hX dX13_truth_1 rfl (by decide) rfl ?_
  dsimp only [List.set]
  exact pl_truth_2 hX hc n _ _ _ _ h
def j_namesSaid_140 (n : Nat) (call : zCl) (h0 : Nat) (qs : List Nat) (ks : Nat → Nat) (k87 : Int32 → Int32 → Int32 → zSt → zRs) (x1 : Int32) (x2 : Int32) (x3 : Int32) (σ : zSt) : zRs :=
  k87 x1 x2 (x3 + 1) σ
def l_namesSaid_87 (n : Nat) (call : zCl) (h0 : Nat) (qs : List Nat) (ks : Nat → Nat) : Nat → Int32 → Int32 → Int32 → zSt → zRs
  | 0, _, _, _, _ => none
  | f + 1, x1, x2, x3, σ =>
    if x2 < 0 then
      some (none, σ)
    else
      zgd (zin x2 64) (
      if (σ.2.2.1 62 (x2).toNatClampNeg) ≤ x3 then
        some (none, σ)
      else
        zgd (zin x3 8000) (
        if (σ.2.2.1 65 (x3).toNatClampNeg) = 0 then
          j_namesSaid_140 n call h0 qs ks (l_namesSaid_87 n call h0 qs ks f) x1 x2 x3 σ
        else
          zgd (zin x1 24000) (
          zcv (call 93 [.ref h0, .int x3, .int (σ.2.2.1 49 (x1).toNatClampNeg)] σ) fun s7 =>
          if (s7.1 139) = 0 then
            j_namesSaid_140 n call h0 qs ks (l_namesSaid_87 n call h0 qs ks f) x1 x2 x3 s7
          else
            zci (call 85 [.ref h0, .int (s7.1 138)] s7) fun r12 s10 =>
            j_namesSaid_140 n call h0 qs ks (l_namesSaid_87 n call h0 qs ks f) x1 x2 x3 s10)))
def j_namesSaid_86 (n : Nat) (call : zCl) (h0 : Nat) (qs : List Nat) (ks : Nat → Nat) (x1 : Int32) (x2 : Int32) (t0 : Int32) (σ : zSt) : zRs :=
  l_namesSaid_87 n call h0 qs ks n x1 x2 t0 σ
def j_namesSaid_55 (n : Nat) (call : zCl) (h0 : Nat) (qs : List Nat) (ks : Nat → Nat) (k7 : Int32 → Int32 → zSt → zRs) (x1 : Int32) (x2 : Int32) (σ : zSt) : zRs :=
  zgd (zin x2 12000) (
  k7 x1 (σ.2.2.1 53 (x2).toNatClampNeg) σ)
def l_namesSaid_7 (n : Nat) (call : zCl) (h0 : Nat) (qs : List Nat) (ks : Nat → Nat) : Nat → Int32 → Int32 → zSt → zRs
  | 0, _, _, _ => none
  | f + 1, x1, x2, σ =>
    if x2 < 0 then
      zgd (zin x1 24000) (
      if 0 ≤ (σ.2.2.1 47 (x1).toNatClampNeg) then
        zgd (zin (σ.2.2.1 47 (x1).toNatClampNeg) 64) (
        j_namesSaid_86 n call h0 qs ks x1 (σ.2.2.1 47 (x1).toNatClampNeg) (σ.2.2.1 61 ((σ.2.2.1 47 (x1).toNatClampNeg)).toNatClampNeg) σ)
      else
        j_namesSaid_86 n call h0 qs ks x1 (σ.2.2.1 47 (x1).toNatClampNeg) 0 σ)
    else
      zgd (zin x2 12000) (
      zgd (zin x2 12000) (
      zgd (zin x2 12000) (
      zgd (zin x1 24000) (
      zcv (call 92 [.ref h0, .int (σ.2.2.1 51 (x2).toNatClampNeg), .int (σ.2.2.1 52 (x2).toNatClampNeg), .long (σ.2.2.2 54 (x2).toNatClampNeg), .int (σ.2.2.1 49 (x1).toNatClampNeg)] σ) fun s9 =>
      if (s9.1 139) = 0 then
        j_namesSaid_55 n call h0 qs ks (l_namesSaid_7 n call h0 qs ks f) x1 x2 s9
      else
        zci (call 85 [.ref h0, .int (s9.1 138)] s9) fun r14 s12 =>
        j_namesSaid_55 n call h0 qs ks (l_namesSaid_7 n call h0 qs ks f) x1 x2 s12))))
def b_namesSaid (n : Nat) (call : zCl) (h0 : Nat) (qs : List Nat) (ks : Nat → Nat) (x1 : Int32) (σ : zSt) : zRs :=
  zgd (zin x1 24000) (
  l_namesSaid_7 n call h0 qs ks n x1 (σ.2.2.1 48 (x1).toNatClampNeg) σ)
set_option maxHeartbeats 4000000 in
theorem pj_namesSaid_140 {h0 : Nat} {qs : List Nat} {ks : Nat → Nat} {n : Nat} {call : zCl} {kc : Nat → List Value → zSt → (Option Value → zSt → Prop) → Prop} {v : Option Value × zSt} {X : Nat → zLv → List Value → zSt → Prop} (hX : zSem cX13_namesSaid 4 none h0 qs ks kc (fun r u => (r, u) = v) X) (hc : ∀ j av s w, call j av s = some w → kc j av s (fun r u => (r, u) = w)) {k87 : Int32 → Int32 → Int32 → zSt → zRs} (hk87 : ∀ (x1 : Int32) (x2 : Int32) (x3 : Int32) (s : zSt), k87 x1 x2 x3 s = some v → X 87 [some (.ref h0), some (.int x1), some (.int x2), some (.int x3)] [] s) {x1 : Int32} {x2 : Int32} {x3 : Int32} {σ : zSt} (h : j_namesSaid_140 n call h0 qs ks k87 x1 x2 x3 σ = some v) : X 140 [some (.ref h0), some (.int x1), some (.int x2), some (.int x3)] [] σ := by
  rw [j_namesSaid_140] at h
  refine zs_iinc (v := x3 + 1) hX dX13_namesSaid_140 rfl rfl (by decide) rfl ?_
  dsimp only [List.set]
  refine zs_goto (tgt := 87) hX dX13_namesSaid_143 (by decide) ?_
  exact hk87 _ _ _ _ h
set_option maxHeartbeats 4000000 in
theorem pl_namesSaid_87 {h0 : Nat} {qs : List Nat} {ks : Nat → Nat} {n : Nat} {call : zCl} {kc : Nat → List Value → zSt → (Option Value → zSt → Prop) → Prop} {v : Option Value × zSt} {X : Nat → zLv → List Value → zSt → Prop} (hX : zSem cX13_namesSaid 4 none h0 qs ks kc (fun r u => (r, u) = v) X) (hc : ∀ j av s w, call j av s = some w → kc j av s (fun r u => (r, u) = w)) : ∀ (f : Nat) (x1 : Int32) (x2 : Int32) (x3 : Int32) (σ : zSt), l_namesSaid_87 n call h0 qs ks f x1 x2 x3 σ = some v → X 87 [some (.ref h0), some (.int x1), some (.int x2), some (.int x3)] [] σ := by
  intro f
  induction f with
  | zero => intro x1 x2 x3 σ h; cases h
  | succ f hk87 =>
    intro x1 x2 x3 σ h
    rw [l_namesSaid_87] at h
    refine zs_iload_n hX dX13_namesSaid_87 rfl rfl ?_
    refine zs_if_lt (tgt := 146) hX dX13_namesSaid_88 (by decide) (fun c1 => ?_) (fun c1 => ?_)
    · rw [if_pos c1] at h
      exact zs_vret hX dX13_namesSaid_146 rfl (Option.some.inj h)
    · rw [if_neg c1] at h
      refine zs_iload_n hX dX13_namesSaid_91 rfl rfl ?_
      refine zs_aload_n hX dX13_namesSaid_92 rfl rfl ?_
      refine zg_caseTo hX dX13_namesSaid_93 ?_
      refine zs_iload_n hX dX13_namesSaid_96 rfl rfl ?_
      obtain ⟨b2, h⟩ := zgd_e h
      refine zl_caseTo hX dX13_namesSaid_97 (zin_ok b2) ?_
      refine zs_icmp_ge (tgt := 146) hX dX13_namesSaid_98 (by decide) (fun c3 => ?_) (fun c3 => ?_)
      · rw [if_pos c3] at h
        exact zs_vret hX dX13_namesSaid_146 rfl (Option.some.inj h)
      · rw [if_neg c3] at h
        refine zs_aload_n hX dX13_namesSaid_101 rfl rfl ?_
        refine zg_alive hX dX13_namesSaid_102 ?_
        refine zs_iload_n hX dX13_namesSaid_105 rfl rfl ?_
        obtain ⟨b4, h⟩ := zgd_e h
        refine zl_alive hX dX13_namesSaid_106 (zin_ok b4) ?_
        refine zs_if_ne (tgt := 113) hX dX13_namesSaid_107 (by decide) (fun c5 => ?_) (fun c5 => ?_)
        · rw [if_neg c5] at h
          refine zs_aload_n hX dX13_namesSaid_113 rfl rfl ?_
          refine zs_iload_n hX dX13_namesSaid_114 rfl rfl ?_
          refine zs_aload_n hX dX13_namesSaid_115 rfl rfl ?_
          refine zg_saidPut hX dX13_namesSaid_116 ?_
          refine zs_iload_n hX dX13_namesSaid_119 rfl rfl ?_
          obtain ⟨b6, h⟩ := zgd_e h
          refine zl_saidPut hX dX13_namesSaid_120 (zin_ok b6) ?_
          obtain ⟨s7, e8, h⟩ := zcv_e h
          refine zc_instanceTerm hX dX13_namesSaid_121 (Nat.le_of_ble_eq_true rfl) (hc _ _ _ _ e8) (fun u9 h9 => ?_)
          cases h9
          refine zs_aload_n hX dX13_namesSaid_124 rfl rfl ?_
          refine zg_uTimes hX dX13_namesSaid_125 ?_
          refine zs_if_eq (tgt := 140) hX dX13_namesSaid_128 (by decide) (fun c9 => ?_) (fun c9 => ?_)
          · rw [if_pos c9] at h
            exact pj_namesSaid_140 hX hc hk87 h
          · rw [if_neg c9] at h
            refine zs_aload_n hX dX13_namesSaid_131 rfl rfl ?_
            refine zs_aload_n hX dX13_namesSaid_132 rfl rfl ?_
            refine zg_uName hX dX13_namesSaid_133 ?_
            obtain ⟨r12, s10, e11, h⟩ := zci_e h
            refine zc_columnOf hX dX13_namesSaid_136 (Nat.le_of_ble_eq_true rfl) (hc _ _ _ _ e11) (fun r9 u9 h9 => ?_)
            cases h9
            refine zs_pop hX dX13_namesSaid_139 rfl ?_
            exact pj_namesSaid_140 hX hc hk87 h
        · rw [if_pos c5] at h
          refine zs_goto (tgt := 140) hX dX13_namesSaid_110 (by decide) ?_
          exact pj_namesSaid_140 hX hc hk87 h
set_option maxHeartbeats 4000000 in
theorem pj_namesSaid_86 {h0 : Nat} {qs : List Nat} {ks : Nat → Nat} {n : Nat} {call : zCl} {kc : Nat → List Value → zSt → (Option Value → zSt → Prop) → Prop} {v : Option Value × zSt} {X : Nat → zLv → List Value → zSt → Prop} (hX : zSem cX13_namesSaid 4 none h0 qs ks kc (fun r u => (r, u) = v) X) (hc : ∀ j av s w, call j av s = some w → kc j av s (fun r u => (r, u) = w)) {x1 : Int32} {x2 : Int32} {t0 : Int32} {σ : zSt} (h : j_namesSaid_86 n call h0 qs ks x1 x2 t0 σ = some v) : X 86 [some (.ref h0), some (.int x1), some (.int x2), none] [.int t0] σ := by
  rw [j_namesSaid_86] at h
  refine zs_istore_n hX dX13_namesSaid_86 rfl (by decide) rfl ?_
  dsimp only [List.set]
  exact pl_namesSaid_87 hX hc n _ _ _ _ h
set_option maxHeartbeats 4000000 in
theorem pj_namesSaid_55 {h0 : Nat} {qs : List Nat} {ks : Nat → Nat} {n : Nat} {call : zCl} {kc : Nat → List Value → zSt → (Option Value → zSt → Prop) → Prop} {v : Option Value × zSt} {X : Nat → zLv → List Value → zSt → Prop} (hX : zSem cX13_namesSaid 4 none h0 qs ks kc (fun r u => (r, u) = v) X) (hc : ∀ j av s w, call j av s = some w → kc j av s (fun r u => (r, u) = w)) {k7 : Int32 → Int32 → zSt → zRs} (hk7 : ∀ (x1 : Int32) (x2 : Int32) (s : zSt), k7 x1 x2 s = some v → X 7 [some (.ref h0), some (.int x1), some (.int x2), none] [] s) {x1 : Int32} {x2 : Int32} {σ : zSt} (h : j_namesSaid_55 n call h0 qs ks k7 x1 x2 σ = some v) : X 55 [some (.ref h0), some (.int x1), some (.int x2), none] [] σ := by
  rw [j_namesSaid_55] at h
  refine zs_aload_n hX dX13_namesSaid_55 rfl rfl ?_
  refine zg_factNext hX dX13_namesSaid_56 ?_
  refine zs_iload_n hX dX13_namesSaid_59 rfl rfl ?_
  obtain ⟨b1, h⟩ := zgd_e h
  refine zl_factNext hX dX13_namesSaid_60 (zin_ok b1) ?_
  refine zs_istore_n hX dX13_namesSaid_61 rfl (by decide) rfl ?_
  dsimp only [List.set]
  refine zs_goto (tgt := 7) hX dX13_namesSaid_62 (by decide) ?_
  exact hk7 _ _ _ h
set_option maxHeartbeats 4000000 in
theorem pl_namesSaid_7 {h0 : Nat} {qs : List Nat} {ks : Nat → Nat} {n : Nat} {call : zCl} {kc : Nat → List Value → zSt → (Option Value → zSt → Prop) → Prop} {v : Option Value × zSt} {X : Nat → zLv → List Value → zSt → Prop} (hX : zSem cX13_namesSaid 4 none h0 qs ks kc (fun r u => (r, u) = v) X) (hc : ∀ j av s w, call j av s = some w → kc j av s (fun r u => (r, u) = w)) : ∀ (f : Nat) (x1 : Int32) (x2 : Int32) (σ : zSt), l_namesSaid_7 n call h0 qs ks f x1 x2 σ = some v → X 7 [some (.ref h0), some (.int x1), some (.int x2), none] [] σ := by
  intro f
  induction f with
  | zero => intro x1 x2 σ h; cases h
  | succ f hk7 =>
    intro x1 x2 σ h
    rw [l_namesSaid_7] at h
    refine zs_iload_n hX dX13_namesSaid_7 rfl rfl ?_
    refine zs_if_lt (tgt := 65) hX dX13_namesSaid_8 (by decide) (fun c1 => ?_) (fun c1 => ?_)
    · rw [if_pos c1] at h
      refine zs_aload_n hX dX13_namesSaid_65 rfl rfl ?_
      refine zg_saidCase hX dX13_namesSaid_66 ?_
      refine zs_iload_n hX dX13_namesSaid_69 rfl rfl ?_
      obtain ⟨b2, h⟩ := zgd_e h
      refine zl_saidCase hX dX13_namesSaid_70 (zin_ok b2) ?_
      refine zs_istore_n hX dX13_namesSaid_71 rfl (by decide) rfl ?_
      dsimp only [List.set]
      refine zs_iload_n hX dX13_namesSaid_72 rfl rfl ?_
      refine zs_if_ge (tgt := 80) hX dX13_namesSaid_73 (by decide) (fun c3 => ?_) (fun c3 => ?_)
      · rw [if_pos c3] at h
        refine zs_aload_n hX dX13_namesSaid_80 rfl rfl ?_
        refine zg_caseFrom hX dX13_namesSaid_81 ?_
        refine zs_iload_n hX dX13_namesSaid_84 rfl rfl ?_
        obtain ⟨b4, h⟩ := zgd_e h
        refine zl_caseFrom hX dX13_namesSaid_85 (zin_ok b4) ?_
        exact pj_namesSaid_86 hX hc h
      · rw [if_neg c3] at h
        refine zs_iconst (v := 0) hX dX13_namesSaid_76 (by decide) ?_
        refine zs_goto (tgt := 86) hX dX13_namesSaid_77 (by decide) ?_
        exact pj_namesSaid_86 hX hc h
    · rw [if_neg c1] at h
      refine zs_aload_n hX dX13_namesSaid_11 rfl rfl ?_
      refine zs_aload_n hX dX13_namesSaid_12 rfl rfl ?_
      refine zg_factName hX dX13_namesSaid_13 ?_
      refine zs_iload_n hX dX13_namesSaid_16 rfl rfl ?_
      obtain ⟨b5, h⟩ := zgd_e h
      refine zl_factName hX dX13_namesSaid_17 (zin_ok b5) ?_
      refine zs_aload_n hX dX13_namesSaid_18 rfl rfl ?_
      refine zg_factTimes hX dX13_namesSaid_19 ?_
      refine zs_iload_n hX dX13_namesSaid_22 rfl rfl ?_
      obtain ⟨b6, h⟩ := zgd_e h
      refine zl_factTimes hX dX13_namesSaid_23 (zin_ok b6) ?_
      refine zs_aload_n hX dX13_namesSaid_24 rfl rfl ?_
      refine zg_factNumber hX dX13_namesSaid_25 ?_
      refine zs_iload_n hX dX13_namesSaid_28 rfl rfl ?_
      obtain ⟨b7, h⟩ := zgd_e h
      refine zl_factNumber hX dX13_namesSaid_29 (zin_ok b7) ?_
      refine zs_aload_n hX dX13_namesSaid_30 rfl rfl ?_
      refine zg_saidPut hX dX13_namesSaid_31 ?_
      refine zs_iload_n hX dX13_namesSaid_34 rfl rfl ?_
      obtain ⟨b8, h⟩ := zgd_e h
      refine zl_saidPut hX dX13_namesSaid_35 (zin_ok b8) ?_
      obtain ⟨s9, e10, h⟩ := zcv_e h
      refine zc_termOf hX dX13_namesSaid_36 (Nat.le_of_ble_eq_true rfl) (hc _ _ _ _ e10) (fun u9 h9 => ?_)
      cases h9
      refine zs_aload_n hX dX13_namesSaid_39 rfl rfl ?_
      refine zg_uTimes hX dX13_namesSaid_40 ?_
      refine zs_if_eq (tgt := 55) hX dX13_namesSaid_43 (by decide) (fun c11 => ?_) (fun c11 => ?_)
      · rw [if_pos c11] at h
        exact pj_namesSaid_55 hX hc hk7 h
      · rw [if_neg c11] at h
        refine zs_aload_n hX dX13_namesSaid_46 rfl rfl ?_
        refine zs_aload_n hX dX13_namesSaid_47 rfl rfl ?_
        refine zg_uName hX dX13_namesSaid_48 ?_
        obtain ⟨r14, s12, e13, h⟩ := zci_e h
        refine zc_columnOf hX dX13_namesSaid_51 (Nat.le_of_ble_eq_true rfl) (hc _ _ _ _ e13) (fun r9 u9 h9 => ?_)
        cases h9
        refine zs_pop hX dX13_namesSaid_54 rfl ?_
        exact pj_namesSaid_55 hX hc hk7 h
set_option maxHeartbeats 4000000 in
theorem pb_namesSaid {h0 : Nat} {qs : List Nat} {ks : Nat → Nat} {n : Nat} {call : zCl} {kc : Nat → List Value → zSt → (Option Value → zSt → Prop) → Prop} {v : Option Value × zSt} {X : Nat → zLv → List Value → zSt → Prop} (hX : zSem cX13_namesSaid 4 none h0 qs ks kc (fun r u => (r, u) = v) X) (hc : ∀ j av s w, call j av s = some w → kc j av s (fun r u => (r, u) = w)) {x1 : Int32} {σ : zSt} (h : b_namesSaid n call h0 qs ks x1 σ = some v) : X 0 [some (.ref h0), some (.int x1), none, none] [] σ := by
  rw [b_namesSaid] at h
  refine zs_aload_n hX dX13_namesSaid_0 rfl rfl ?_
  refine zg_saidFact hX dX13_namesSaid_1 ?_
  refine zs_iload_n hX dX13_namesSaid_4 rfl rfl ?_
  obtain ⟨b1, h⟩ := zgd_e h
  refine zl_saidFact hX dX13_namesSaid_5 (zin_ok b1) ?_
  refine zs_istore_n hX dX13_namesSaid_6 rfl (by decide) rfl ?_
  dsimp only [List.set]
  exact pl_namesSaid_7 hX hc n _ _ _ h
def b_namesIn (n : Nat) (call : zCl) (h0 : Nat) (qs : List Nat) (ks : Nat → Nat) (x1 : Int32) (σ : zSt) : zRs :=
  if x1 < 0 then
    some (none, σ)
  else
    zgd (zin x1 40000) (
    zci (call 71 [.int (σ.2.2.1 42 (x1).toNatClampNeg)] σ) fun r5 s3 =>
    if r5 = 0 then
      some (none, s3)
    else
      zgd (zin x1 40000) (
      zcv (call 104 [.ref h0, .int (s3.2.2.1 43 (x1).toNatClampNeg)] s3) fun s8 =>
      some (none, s8)))
set_option maxHeartbeats 4000000 in
theorem pb_namesIn {h0 : Nat} {qs : List Nat} {ks : Nat → Nat} {n : Nat} {call : zCl} {kc : Nat → List Value → zSt → (Option Value → zSt → Prop) → Prop} {v : Option Value × zSt} {X : Nat → zLv → List Value → zSt → Prop} (hX : zSem cX13_namesIn 2 none h0 qs ks kc (fun r u => (r, u) = v) X) (hc : ∀ j av s w, call j av s = some w → kc j av s (fun r u => (r, u) = w)) {x1 : Int32} {σ : zSt} (h : b_namesIn n call h0 qs ks x1 σ = some v) : X 0 [some (.ref h0), some (.int x1)] [] σ := by
  rw [b_namesIn] at h
  refine zs_iload_n hX dX13_namesIn_0 rfl rfl ?_
  refine zs_if_lt (tgt := 26) hX dX13_namesIn_1 (by decide) (fun c1 => ?_) (fun c1 => ?_)
  · rw [if_pos c1] at h
    exact zs_vret hX dX13_namesIn_26 rfl (Option.some.inj h)
  · rw [if_neg c1] at h
    refine zs_aload_n hX dX13_namesIn_4 rfl rfl ?_
    refine zg_rKind hX dX13_namesIn_5 ?_
    refine zs_iload_n hX dX13_namesIn_8 rfl rfl ?_
    obtain ⟨b2, h⟩ := zgd_e h
    refine zl_rKind hX dX13_namesIn_9 (zin_ok b2) ?_
    obtain ⟨r5, s3, e4, h⟩ := zci_e h
    refine zc_isSaid hX dX13_namesIn_10 (Nat.le_of_ble_eq_true rfl) (hc _ _ _ _ e4) (fun r9 u9 h9 => ?_)
    cases h9
    refine zs_if_eq (tgt := 26) hX dX13_namesIn_13 (by decide) (fun c6 => ?_) (fun c6 => ?_)
    · rw [if_pos c6] at h
      exact zs_vret hX dX13_namesIn_26 rfl (Option.some.inj h)
    · rw [if_neg c6] at h
      refine zs_aload_n hX dX13_namesIn_16 rfl rfl ?_
      refine zs_aload_n hX dX13_namesIn_17 rfl rfl ?_
      refine zg_rSaid hX dX13_namesIn_18 ?_
      refine zs_iload_n hX dX13_namesIn_21 rfl rfl ?_
      obtain ⟨b7, h⟩ := zgd_e h
      refine zl_rSaid hX dX13_namesIn_22 (zin_ok b7) ?_
      obtain ⟨s8, e9, h⟩ := zcv_e h
      refine zc_namesSaid hX dX13_namesIn_23 (Nat.le_of_ble_eq_true rfl) (hc _ _ _ _ e9) (fun u9 h9 => ?_)
      cases h9
      exact zs_vret hX dX13_namesIn_26 rfl (Option.some.inj h)
def l_namesOfGone_124 (n : Nat) (call : zCl) (h0 : Nat) (qs : List Nat) (ks : Nat → Nat) : Nat → Int32 → zSt → zRs
  | 0, _, _ => none
  | f + 1, x2, σ =>
    if (σ.1 63) ≤ x2 then
      some (none, σ)
    else
      zgd (zin x2 40) (
      zci (call 85 [.ref h0, .int (σ.2.2.1 40 (x2).toNatClampNeg)] σ) fun r5 s3 =>
      l_namesOfGone_124 n call h0 qs ks f (x2 + 1) s3)
def j_namesOfGone_38 (n : Nat) (call : zCl) (h0 : Nat) (qs : List Nat) (ks : Nat → Nat) (x1 : Int32) (σ : zSt) : zRs :=
  zgd (zin x1 2100) (
  zcv (call 106 [.ref h0, .int (σ.2.2.1 9 (x1).toNatClampNeg)] σ) fun s2 =>
  zgd (zin x1 2100) (
  zcv (call 106 [.ref h0, .int (s2.2.2.1 10 (x1).toNatClampNeg)] s2) fun s5 =>
  some (none, s5)))
def b_namesOfGone (n : Nat) (call : zCl) (h0 : Nat) (qs : List Nat) (ks : Nat → Nat) (x1 : Int32) (σ : zSt) : zRs :=
  if 0 ≤ x1 then
    zgd (zin x1 2100) (
    if (σ.2.2.1 6 (x1).toNatClampNeg) = 20 then
      j_namesOfGone_38 n call h0 qs ks x1 σ
    else
      zgd (zin x1 2100) (
      if (σ.2.2.1 6 (x1).toNatClampNeg) = 21 then
        j_namesOfGone_38 n call h0 qs ks x1 σ
      else
        zgd (zin x1 2100) (
        if (σ.2.2.1 6 (x1).toNatClampNeg) = 22 then
          zgd (zin x1 2100) (
          zcv (call 106 [.ref h0, .int (σ.2.2.1 9 (x1).toNatClampNeg)] σ) fun s19 =>
          some (none, s19))
        else
          zgd (zin x1 2100) (
          if (σ.2.2.1 6 (x1).toNatClampNeg) = 25 then
            zcv (call 53 [.ref h0] σ) fun s10 =>
            zgd (zin x1 2100) (
            zcv (call 55 [.ref h0, .int (s10.2.2.1 9 (x1).toNatClampNeg), .int 1] s10) fun s13 =>
            zgd (zin x1 2100) (
            zcv (call 55 [.ref h0, .int (s13.2.2.1 10 (x1).toNatClampNeg), .int (-1)] s13) fun s16 =>
            l_namesOfGone_124 n call h0 qs ks n 0 s16))
          else
            some (none, σ)))))
  else
    zci (call 85 [.ref h0, .int ((-2) - x1)] σ) fun r23 s21 =>
    some (none, s21)
set_option maxHeartbeats 4000000 in
theorem pl_namesOfGone_124 {h0 : Nat} {qs : List Nat} {ks : Nat → Nat} {n : Nat} {call : zCl} {kc : Nat → List Value → zSt → (Option Value → zSt → Prop) → Prop} {v : Option Value × zSt} {X : Nat → zLv → List Value → zSt → Prop} (hX : zSem cX13_namesOfGone 3 none h0 qs ks kc (fun r u => (r, u) = v) X) (hc : ∀ j av s w, call j av s = some w → kc j av s (fun r u => (r, u) = w)) : ∀ (f : Nat) (x2 : Int32) (σ : zSt), l_namesOfGone_124 n call h0 qs ks f x2 σ = some v → X 124 [some (.ref h0), none, some (.int x2)] [] σ := by
  intro f
  induction f with
  | zero => intro x2 σ h; cases h
  | succ f hk124 =>
    intro x2 σ h
    rw [l_namesOfGone_124] at h
    refine zs_iload_n hX dX13_namesOfGone_124 rfl rfl ?_
    refine zs_aload_n hX dX13_namesOfGone_125 rfl rfl ?_
    refine zg_lMany hX dX13_namesOfGone_126 ?_
    refine zs_icmp_ge (tgt := 149) hX dX13_namesOfGone_129 (by decide) (fun c1 => ?_) (fun c1 => ?_)
    · rw [if_pos c1] at h
      exact zs_vret hX dX13_namesOfGone_149 rfl (Option.some.inj h)
    · rw [if_neg c1] at h
      refine zs_aload_n hX dX13_namesOfGone_132 rfl rfl ?_
      refine zs_aload_n hX dX13_namesOfGone_133 rfl rfl ?_
      refine zg_lName hX dX13_namesOfGone_134 ?_
      refine zs_iload_n hX dX13_namesOfGone_137 rfl rfl ?_
      obtain ⟨b2, h⟩ := zgd_e h
      refine zl_lName hX dX13_namesOfGone_138 (zin_ok b2) ?_
      obtain ⟨r5, s3, e4, h⟩ := zci_e h
      refine zc_columnOf hX dX13_namesOfGone_139 (Nat.le_of_ble_eq_true rfl) (hc _ _ _ _ e4) (fun r9 u9 h9 => ?_)
      cases h9
      refine zs_pop hX dX13_namesOfGone_142 rfl ?_
      refine zs_iinc (v := x2 + 1) hX dX13_namesOfGone_143 rfl rfl (by decide) rfl ?_
      dsimp only [List.set]
      refine zs_goto (tgt := 124) hX dX13_namesOfGone_146 (by decide) ?_
      exact hk124 _ _ h
set_option maxHeartbeats 4000000 in
theorem pj_namesOfGone_38 {h0 : Nat} {qs : List Nat} {ks : Nat → Nat} {n : Nat} {call : zCl} {kc : Nat → List Value → zSt → (Option Value → zSt → Prop) → Prop} {v : Option Value × zSt} {X : Nat → zLv → List Value → zSt → Prop} (hX : zSem cX13_namesOfGone 3 none h0 qs ks kc (fun r u => (r, u) = v) X) (hc : ∀ j av s w, call j av s = some w → kc j av s (fun r u => (r, u) = w)) {x1 : Int32} {σ : zSt} (h : j_namesOfGone_38 n call h0 qs ks x1 σ = some v) : X 38 [some (.ref h0), some (.int x1), none] [] σ := by
  rw [j_namesOfGone_38] at h
  refine zs_aload_n hX dX13_namesOfGone_38 rfl rfl ?_
  refine zs_aload_n hX dX13_namesOfGone_39 rfl rfl ?_
  refine zg_x1 hX dX13_namesOfGone_40 ?_
  refine zs_iload_n hX dX13_namesOfGone_43 rfl rfl ?_
  obtain ⟨b1, h⟩ := zgd_e h
  refine zl_x1 hX dX13_namesOfGone_44 (zin_ok b1) ?_
  obtain ⟨s2, e3, h⟩ := zcv_e h
  refine zc_namesOfGone hX dX13_namesOfGone_45 (Nat.le_of_ble_eq_true rfl) (hc _ _ _ _ e3) (fun u9 h9 => ?_)
  cases h9
  refine zs_aload_n hX dX13_namesOfGone_48 rfl rfl ?_
  refine zs_aload_n hX dX13_namesOfGone_49 rfl rfl ?_
  refine zg_x2 hX dX13_namesOfGone_50 ?_
  refine zs_iload_n hX dX13_namesOfGone_53 rfl rfl ?_
  obtain ⟨b4, h⟩ := zgd_e h
  refine zl_x2 hX dX13_namesOfGone_54 (zin_ok b4) ?_
  obtain ⟨s5, e6, h⟩ := zcv_e h
  refine zc_namesOfGone hX dX13_namesOfGone_55 (Nat.le_of_ble_eq_true rfl) (hc _ _ _ _ e6) (fun u9 h9 => ?_)
  cases h9
  refine zs_goto (tgt := 149) hX dX13_namesOfGone_58 (by decide) ?_
  exact zs_vret hX dX13_namesOfGone_149 rfl (Option.some.inj h)
set_option maxHeartbeats 4000000 in
theorem pb_namesOfGone {h0 : Nat} {qs : List Nat} {ks : Nat → Nat} {n : Nat} {call : zCl} {kc : Nat → List Value → zSt → (Option Value → zSt → Prop) → Prop} {v : Option Value × zSt} {X : Nat → zLv → List Value → zSt → Prop} (hX : zSem cX13_namesOfGone 3 none h0 qs ks kc (fun r u => (r, u) = v) X) (hc : ∀ j av s w, call j av s = some w → kc j av s (fun r u => (r, u) = w)) {x1 : Int32} {σ : zSt} (h : b_namesOfGone n call h0 qs ks x1 σ = some v) : X 0 [some (.ref h0), some (.int x1), none] [] σ := by
  rw [b_namesOfGone] at h
  refine zs_iload_n hX dX13_namesOfGone_0 rfl rfl ?_
  refine zs_if_ge (tgt := 16) hX dX13_namesOfGone_1 (by decide) (fun c1 => ?_) (fun c1 => ?_)
  · rw [if_pos c1] at h
    refine zs_aload_n hX dX13_namesOfGone_16 rfl rfl ?_
    refine zg_kind hX dX13_namesOfGone_17 ?_
    refine zs_iload_n hX dX13_namesOfGone_20 rfl rfl ?_
    obtain ⟨b2, h⟩ := zgd_e h
    refine zl_kind hX dX13_namesOfGone_21 (zin_ok b2) ?_
    refine zs_bipush (v := 20) hX dX13_namesOfGone_22 (by decide) ?_
    refine zs_icmp_eq (tgt := 38) hX dX13_namesOfGone_24 (by decide) (fun c3 => ?_) (fun c3 => ?_)
    · rw [if_pos c3] at h
      exact pj_namesOfGone_38 hX hc h
    · rw [if_neg c3] at h
      refine zs_aload_n hX dX13_namesOfGone_27 rfl rfl ?_
      refine zg_kind hX dX13_namesOfGone_28 ?_
      refine zs_iload_n hX dX13_namesOfGone_31 rfl rfl ?_
      obtain ⟨b4, h⟩ := zgd_e h
      refine zl_kind hX dX13_namesOfGone_32 (zin_ok b4) ?_
      refine zs_bipush (v := 21) hX dX13_namesOfGone_33 (by decide) ?_
      refine zs_icmp_ne (tgt := 61) hX dX13_namesOfGone_35 (by decide) (fun c5 => ?_) (fun c5 => ?_)
      · rw [if_neg c5] at h
        refine zs_aload_n hX dX13_namesOfGone_61 rfl rfl ?_
        refine zg_kind hX dX13_namesOfGone_62 ?_
        refine zs_iload_n hX dX13_namesOfGone_65 rfl rfl ?_
        obtain ⟨b6, h⟩ := zgd_e h
        refine zl_kind hX dX13_namesOfGone_66 (zin_ok b6) ?_
        refine zs_bipush (v := 22) hX dX13_namesOfGone_67 (by decide) ?_
        refine zs_icmp_ne (tgt := 85) hX dX13_namesOfGone_69 (by decide) (fun c7 => ?_) (fun c7 => ?_)
        · rw [if_neg c7] at h
          refine zs_aload_n hX dX13_namesOfGone_85 rfl rfl ?_
          refine zg_kind hX dX13_namesOfGone_86 ?_
          refine zs_iload_n hX dX13_namesOfGone_89 rfl rfl ?_
          obtain ⟨b8, h⟩ := zgd_e h
          refine zl_kind hX dX13_namesOfGone_90 (zin_ok b8) ?_
          refine zs_bipush (v := 25) hX dX13_namesOfGone_91 (by decide) ?_
          refine zs_icmp_ne (tgt := 149) hX dX13_namesOfGone_93 (by decide) (fun c9 => ?_) (fun c9 => ?_)
          · rw [if_neg c9] at h
            exact zs_vret hX dX13_namesOfGone_149 rfl (Option.some.inj h)
          · rw [if_pos c9] at h
            refine zs_aload_n hX dX13_namesOfGone_96 rfl rfl ?_
            obtain ⟨s10, e11, h⟩ := zcv_e h
            refine zc_clearLine hX dX13_namesOfGone_97 (Nat.le_of_ble_eq_true rfl) (hc _ _ _ _ e11) (fun u9 h9 => ?_)
            cases h9
            refine zs_aload_n hX dX13_namesOfGone_100 rfl rfl ?_
            refine zs_aload_n hX dX13_namesOfGone_101 rfl rfl ?_
            refine zg_x1 hX dX13_namesOfGone_102 ?_
            refine zs_iload_n hX dX13_namesOfGone_105 rfl rfl ?_
            obtain ⟨b12, h⟩ := zgd_e h
            refine zl_x1 hX dX13_namesOfGone_106 (zin_ok b12) ?_
            refine zs_iconst (v := 1) hX dX13_namesOfGone_107 (by decide) ?_
            obtain ⟨s13, e14, h⟩ := zcv_e h
            refine zc_addSum hX dX13_namesOfGone_108 (Nat.le_of_ble_eq_true rfl) (hc _ _ _ _ e14) (fun u9 h9 => ?_)
            cases h9
            refine zs_aload_n hX dX13_namesOfGone_111 rfl rfl ?_
            refine zs_aload_n hX dX13_namesOfGone_112 rfl rfl ?_
            refine zg_x2 hX dX13_namesOfGone_113 ?_
            refine zs_iload_n hX dX13_namesOfGone_116 rfl rfl ?_
            obtain ⟨b15, h⟩ := zgd_e h
            refine zl_x2 hX dX13_namesOfGone_117 (zin_ok b15) ?_
            refine zs_iconst (v := (-1)) hX dX13_namesOfGone_118 (by decide) ?_
            obtain ⟨s16, e17, h⟩ := zcv_e h
            refine zc_addSum hX dX13_namesOfGone_119 (Nat.le_of_ble_eq_true rfl) (hc _ _ _ _ e17) (fun u9 h9 => ?_)
            cases h9
            refine zs_iconst (v := 0) hX dX13_namesOfGone_122 (by decide) ?_
            refine zs_istore_n hX dX13_namesOfGone_123 rfl (by decide) rfl ?_
            dsimp only [List.set]
            refine zs_weak hX (lw := [some (.ref h0), none, some (.int 0)]) ⟨rfl, rfl, trivial⟩ ?_
            exact pl_namesOfGone_124 hX hc n _ _ h
        · rw [if_pos c7] at h
          refine zs_aload_n hX dX13_namesOfGone_72 rfl rfl ?_
          refine zs_aload_n hX dX13_namesOfGone_73 rfl rfl ?_
          refine zg_x1 hX dX13_namesOfGone_74 ?_
          refine zs_iload_n hX dX13_namesOfGone_77 rfl rfl ?_
          obtain ⟨b18, h⟩ := zgd_e h
          refine zl_x1 hX dX13_namesOfGone_78 (zin_ok b18) ?_
          obtain ⟨s19, e20, h⟩ := zcv_e h
          refine zc_namesOfGone hX dX13_namesOfGone_79 (Nat.le_of_ble_eq_true rfl) (hc _ _ _ _ e20) (fun u9 h9 => ?_)
          cases h9
          refine zs_goto (tgt := 149) hX dX13_namesOfGone_82 (by decide) ?_
          exact zs_vret hX dX13_namesOfGone_149 rfl (Option.some.inj h)
      · rw [if_pos c5] at h
        exact pj_namesOfGone_38 hX hc h
  · rw [if_neg c1] at h
    refine zs_aload_n hX dX13_namesOfGone_4 rfl rfl ?_
    refine zs_bipush (v := (-2)) hX dX13_namesOfGone_5 (by decide) ?_
    refine zs_iload_n hX dX13_namesOfGone_7 rfl rfl ?_
    refine zs_isub hX dX13_namesOfGone_8 ?_
    obtain ⟨r23, s21, e22, h⟩ := zci_e h
    refine zc_columnOf hX dX13_namesOfGone_9 (Nat.le_of_ble_eq_true rfl) (hc _ _ _ _ e22) (fun r9 u9 h9 => ?_)
    cases h9
    refine zs_pop hX dX13_namesOfGone_12 rfl ?_
    refine zs_goto (tgt := 149) hX dX13_namesOfGone_13 (by decide) ?_
    exact zs_vret hX dX13_namesOfGone_149 rfl (Option.some.inj h)
def j_under_467 (n : Nat) (call : zCl) (h0 : Nat) (qs : List Nat) (ks : Nat → Nat) (k438 : Int32 → Int32 → zSt → zRs) (x5 : Int32) (x6 : Int32) (t1 : Int32) (t2 : Int32) (σ : zSt) : zRs :=
  zcv (call 99 [.ref h0, .int t1, .int t2] σ) fun s1 =>
  zgd (zin x6 12000) (
  k438 x5 (s1.2.2.1 73 (x6).toNatClampNeg) s1)
def l_under_438 (n : Nat) (call : zCl) (h0 : Nat) (qs : List Nat) (ks : Nat → Nat) : Nat → Int32 → Int32 → zSt → zRs
  | 0, _, _, _ => none
  | f + 1, x5, x6, σ =>
    if x6 < 0 then
      zgd (zbo x5) (some (some (.int x5), σ))
    else
      zgd (zin x6 12000) (
      zgd (zin x6 12000) (
      if (σ.2.2.1 72 (x6).toNatClampNeg) = 1 then
        j_under_467 n call h0 qs ks (l_under_438 n call h0 qs ks f) x5 x6 (σ.2.2.1 71 (x6).toNatClampNeg) 1 σ
      else
        j_under_467 n call h0 qs ks (l_under_438 n call h0 qs ks f) x5 x6 (σ.2.2.1 71 (x6).toNatClampNeg) 0 σ))
def j_under_403 (n : Nat) (call : zCl) (h0 : Nat) (qs : List Nat) (ks : Nat → Nat) (k342 : Int32 → Int32 → Int32 → zSt → zRs) (x2 : Int32) (x5 : Int32) (x6 : Int32) (σ : zSt) : zRs :=
  zgd (zin x6 12000) (
  k342 x2 x5 (σ.2.2.1 70 (x6).toNatClampNeg) σ)
def j_under_401 (n : Nat) (call : zCl) (h0 : Nat) (qs : List Nat) (ks : Nat → Nat) (k342 : Int32 → Int32 → Int32 → zSt → zRs) (x2 : Int32) (x6 : Int32) (t0 : Int32) (σ : zSt) : zRs :=
  j_under_403 n call h0 qs ks k342 x2 t0 x6 σ
def j_under_400 (n : Nat) (call : zCl) (h0 : Nat) (qs : List Nat) (ks : Nat → Nat) (k342 : Int32 → Int32 → Int32 → zSt → zRs) (x2 : Int32) (x6 : Int32) (σ : zSt) : zRs :=
  j_under_401 n call h0 qs ks k342 x2 x6 0 σ
def l_under_342 (n : Nat) (call : zCl) (h0 : Nat) (qs : List Nat) (ks : Nat → Nat) : Nat → Int32 → Int32 → Int32 → zSt → zRs
  | 0, _, _, _, _ => none
  | f + 1, x2, x5, x6, σ =>
    if x6 < 0 then
      zlet (zI σ 144 0) fun s2 =>
      zlet (zI s2 152 0) fun s4 =>
      zlet (zI s4 153 0) fun s6 =>
      zlet (zI s6 154 0) fun s8 =>
      l_under_438 n call h0 qs ks n x5 x2 s8
    else
      zgd (zin x6 12000) (
      zgd (zin (σ.2.2.1 69 (x6).toNatClampNeg) 40000) (
      zci (call 71 [.int (σ.2.2.1 42 ((σ.2.2.1 69 (x6).toNatClampNeg)).toNatClampNeg)] σ) fun r14 s12 =>
      if r14 = 0 then
        j_under_403 n call h0 qs ks (l_under_342 n call h0 qs ks f) x2 x5 x6 s12
      else
        zgd (zin x6 12000) (
        zgd (zin (s12.2.2.1 69 (x6).toNatClampNeg) 40000) (
        zgd (zin x6 12000) (
        zci (call 95 [.ref h0, .int (s12.2.2.1 43 ((s12.2.2.1 69 (x6).toNatClampNeg)).toNatClampNeg), .int (s12.2.2.1 68 (x6).toNatClampNeg)] s12) fun r21 s19 =>
        if r21 = 0 then
          j_under_400 n call h0 qs ks (l_under_342 n call h0 qs ks f) x2 x6 s19
        else
          if x5 = 0 then
            j_under_400 n call h0 qs ks (l_under_342 n call h0 qs ks f) x2 x6 s19
          else
            j_under_401 n call h0 qs ks (l_under_342 n call h0 qs ks f) x2 x6 1 s19)))))
def j_under_339 (n : Nat) (call : zCl) (h0 : Nat) (qs : List Nat) (ks : Nat → Nat) (x1 : Int32) (x2 : Int32) (x5 : Int32) (σ : zSt) : zRs :=
  l_under_342 n call h0 qs ks n x2 x5 x1 σ
def j_under_337 (n : Nat) (call : zCl) (h0 : Nat) (qs : List Nat) (ks : Nat → Nat) (x1 : Int32) (x2 : Int32) (t0 : Int32) (σ : zSt) : zRs :=
  j_under_339 n call h0 qs ks x1 x2 t0 σ
def j_under_336 (n : Nat) (call : zCl) (h0 : Nat) (qs : List Nat) (ks : Nat → Nat) (x1 : Int32) (x2 : Int32) (σ : zSt) : zRs :=
  j_under_337 n call h0 qs ks x1 x2 0 σ
def j_under_311 (n : Nat) (call : zCl) (h0 : Nat) (qs : List Nat) (ks : Nat → Nat) (x1 : Int32) (x2 : Int32) (x3 : Int32) (x5 : Int32) (σ : zSt) : zRs :=
  zgd (zin x3 40000) (
  zci (call 95 [.ref h0, .int (σ.2.2.1 43 (x3).toNatClampNeg), .int 1500] σ) fun r4 s2 =>
  if r4 = 0 then
    j_under_336 n call h0 qs ks x1 x2 s2
  else
    if x5 = 0 then
      j_under_336 n call h0 qs ks x1 x2 s2
    else
      j_under_337 n call h0 qs ks x1 x2 1 s2)
def j_under_271 (n : Nat) (call : zCl) (h0 : Nat) (qs : List Nat) (ks : Nat → Nat) (k218 : Int32 → Int32 → Int32 → Int32 → Int32 → zSt → zRs) (x1 : Int32) (x2 : Int32) (x3 : Int32) (x5 : Int32) (x6 : Int32) (σ : zSt) : zRs :=
  k218 x1 x2 x3 x5 (x6 + 1) σ
def j_under_269 (n : Nat) (call : zCl) (h0 : Nat) (qs : List Nat) (ks : Nat → Nat) (k218 : Int32 → Int32 → Int32 → Int32 → Int32 → zSt → zRs) (x1 : Int32) (x2 : Int32) (x3 : Int32) (x6 : Int32) (t0 : Int32) (σ : zSt) : zRs :=
  j_under_271 n call h0 qs ks k218 x1 x2 x3 t0 x6 σ
def j_under_268 (n : Nat) (call : zCl) (h0 : Nat) (qs : List Nat) (ks : Nat → Nat) (k218 : Int32 → Int32 → Int32 → Int32 → Int32 → zSt → zRs) (x1 : Int32) (x2 : Int32) (x3 : Int32) (x6 : Int32) (σ : zSt) : zRs :=
  j_under_269 n call h0 qs ks k218 x1 x2 x3 x6 0 σ
def l_under_218 (n : Nat) (call : zCl) (h0 : Nat) (qs : List Nat) (ks : Nat → Nat) : Nat → Int32 → Int32 → Int32 → Int32 → Int32 → zSt → zRs
  | 0, _, _, _, _, _, _ => none
  | f + 1, x1, x2, x3, x5, x6, σ =>
    if (σ.1 131) ≤ x6 then
      if x3 < 0 then
        j_under_339 n call h0 qs ks x1 x2 x5 σ
      else
        zgd (zin x3 40000) (
        if (σ.2.2.1 42 (x3).toNatClampNeg) = 1 then
          j_under_311 n call h0 qs ks x1 x2 x3 x5 σ
        else
          zci (call 85 [.ref h0, .int 1500] σ) fun r7 s5 =>
          zci (call 88 [.ref h0, .ref (qs.getD 87 0), .int r7, .int (-1), .int 0, .int 0, .long 0] s5) fun r10 s8 =>
          j_under_311 n call h0 qs ks x1 x2 x3 x5 s8)
    else
      zgd (zin x6 100) (
      zgd (zin (σ.2.2.1 90 (x6).toNatClampNeg) 1501) (
      if (σ.2.2.1 66 ((σ.2.2.1 90 (x6).toNatClampNeg)).toNatClampNeg) = 0 then
        j_under_271 n call h0 qs ks (l_under_218 n call h0 qs ks f) x1 x2 x3 x5 x6 σ
      else
        zci (call 88 [.ref h0, .ref (qs.getD 87 0), .int x6, .int (-1), .int 0, .int 0, .long 0] σ) fun r16 s14 =>
        if r16 = 0 then
          j_under_268 n call h0 qs ks (l_under_218 n call h0 qs ks f) x1 x2 x3 x6 s14
        else
          if x5 = 0 then
            j_under_268 n call h0 qs ks (l_under_218 n call h0 qs ks f) x1 x2 x3 x6 s14
          else
            j_under_269 n call h0 qs ks (l_under_218 n call h0 qs ks f) x1 x2 x3 x6 1 s14))
def j_under_199 (n : Nat) (call : zCl) (h0 : Nat) (qs : List Nat) (ks : Nat → Nat) (k155 : Int32 → Int32 → Int32 → Int32 → Int32 → zSt → zRs) (k165 : Int32 → Int32 → Int32 → Int32 → Int32 → Int32 → zSt → zRs) (x1 : Int32) (x2 : Int32) (x3 : Int32) (x4 : Int32) (x5 : Int32) (x6 : Int32) (t1 : Int32) (t2 : Int64) (σ : zSt) : zRs :=
  zgd (zin t1 25600) (zlet (zG σ 87 (vp_updL (σ.2.2.2 87) (t1).toNatClampNeg t2)) fun s2 =>
  k165 x1 x2 x3 x4 x5 (x6 + 1) s2)
def l_under_165 (n : Nat) (call : zCl) (h0 : Nat) (qs : List Nat) (ks : Nat → Nat) (k155 : Int32 → Int32 → Int32 → Int32 → Int32 → zSt → zRs) : Nat → Int32 → Int32 → Int32 → Int32 → Int32 → Int32 → zSt → zRs
  | 0, _, _, _, _, _, _, _ => none
  | f + 1, x1, x2, x3, x4, x5, x6, σ =>
    if x4 ≤ x6 then
      k155 x1 x2 x3 x4 (x5 + 1) σ
    else
      if x5 = x6 then
        j_under_199 n call h0 qs ks k155 (l_under_165 n call h0 qs ks k155 f) x1 x2 x3 x4 x5 x6 ((160 * x5) + x6) 0 σ
      else
        j_under_199 n call h0 qs ks k155 (l_under_165 n call h0 qs ks k155 f) x1 x2 x3 x4 x5 x6 ((160 * x5) + x6) 1125899906842624 σ
def l_under_155 (n : Nat) (call : zCl) (h0 : Nat) (qs : List Nat) (ks : Nat → Nat) : Nat → Int32 → Int32 → Int32 → Int32 → Int32 → zSt → zRs
  | 0, _, _, _, _, _, _ => none
  | f + 1, x1, x2, x3, x4, x5, σ =>
    if x4 ≤ x5 then
      l_under_218 n call h0 qs ks n x1 x2 x3 1 0 σ
    else
      l_under_165 n call h0 qs ks (l_under_155 n call h0 qs ks f) n x1 x2 x3 x4 x5 0 σ
def j_under_144 (n : Nat) (call : zCl) (h0 : Nat) (qs : List Nat) (ks : Nat → Nat) (x1 : Int32) (x2 : Int32) (x3 : Int32) (σ : zSt) : zRs :=
  l_under_155 n call h0 qs ks n x1 x2 x3 (2 * (σ.1 131)) 0 σ
def l_under_101 (n : Nat) (call : zCl) (h0 : Nat) (qs : List Nat) (ks : Nat → Nat) : Nat → Int32 → Int32 → Int32 → Int32 → zSt → zRs
  | 0, _, _, _, _, _ => none
  | f + 1, x1, x2, x3, x4, σ =>
    if x4 < 0 then
      if (σ.1 155) < 0 then
        j_under_144 n call h0 qs ks x1 x2 x3 σ
      else
        zcv (call 104 [.ref h0, .int (σ.1 155)] σ) fun s3 =>
        j_under_144 n call h0 qs ks x1 x2 x3 s3
    else
      zgd (zin x4 12000) (
      zcv (call 106 [.ref h0, .int (σ.2.2.1 71 (x4).toNatClampNeg)] σ) fun s6 =>
      zgd (zin x4 12000) (
      l_under_101 n call h0 qs ks f x1 x2 x3 (s6.2.2.1 73 (x4).toNatClampNeg) s6))
def l_under_70 (n : Nat) (call : zCl) (h0 : Nat) (qs : List Nat) (ks : Nat → Nat) : Nat → Int32 → Int32 → Int32 → Int32 → zSt → zRs
  | 0, _, _, _, _, _ => none
  | f + 1, x1, x2, x3, x4, σ =>
    if x4 < 0 then
      l_under_101 n call h0 qs ks n x1 x2 x3 x2 σ
    else
      zgd (zin x4 12000) (
      zcv (call 105 [.ref h0, .int (σ.2.2.1 69 (x4).toNatClampNeg)] σ) fun s3 =>
      zgd (zin x4 12000) (
      l_under_70 n call h0 qs ks f x1 x2 x3 (s3.2.2.1 70 (x4).toNatClampNeg) s3))
def j_under_50 (n : Nat) (call : zCl) (h0 : Nat) (qs : List Nat) (ks : Nat → Nat) (k15 : Int32 → Int32 → Int32 → Int32 → zSt → zRs) (x1 : Int32) (x2 : Int32) (x3 : Int32) (x4 : Int32) (σ : zSt) : zRs :=
  zgd (zin x4 12000) (
  k15 x1 x2 x3 (σ.2.2.1 70 (x4).toNatClampNeg) σ)
def l_under_15 (n : Nat) (call : zCl) (h0 : Nat) (qs : List Nat) (ks : Nat → Nat) : Nat → Int32 → Int32 → Int32 → Int32 → zSt → zRs
  | 0, _, _, _, _, _ => none
  | f + 1, x1, x2, x3, x4, σ =>
    if x4 < 0 then
      zcv (call 105 [.ref h0, .int x3] σ) fun s2 =>
      l_under_70 n call h0 qs ks n x1 x2 x3 x1 s2
    else
      zgd (zin x4 12000) (
      zgd (zin (σ.2.2.1 69 (x4).toNatClampNeg) 40000) (
      zci (call 71 [.int (σ.2.2.1 42 ((σ.2.2.1 69 (x4).toNatClampNeg)).toNatClampNeg)] σ) fun r8 s6 =>
      if r8 = 0 then
        j_under_50 n call h0 qs ks (l_under_15 n call h0 qs ks f) x1 x2 x3 x4 s6
      else
        zgd (zin x4 12000) (
        zci (call 85 [.ref h0, .int (s6.2.2.1 68 (x4).toNatClampNeg)] s6) fun r13 s11 =>
        j_under_50 n call h0 qs ks (l_under_15 n call h0 qs ks f) x1 x2 x3 x4 s11)))
def b_under (n : Nat) (call : zCl) (h0 : Nat) (qs : List Nat) (ks : Nat → Nat) (x1 : Int32) (x2 : Int32) (x3 : Int32) (σ : zSt) : zRs :=
  zcv (call 84 [.ref h0] σ) fun s1 =>
  zci (call 85 [.ref h0, .int 1500] s1) fun r5 s3 =>
  l_under_15 n call h0 qs ks n x1 x2 x3 x1 s3
set_option maxHeartbeats 4000000 in
theorem pj_under_467 {h0 : Nat} {qs : List Nat} {ks : Nat → Nat} {n : Nat} {call : zCl} {kc : Nat → List Value → zSt → (Option Value → zSt → Prop) → Prop} {v : Option Value × zSt} {X : Nat → zLv → List Value → zSt → Prop} (hX : zSem cX13_under 7 (some .boolean) h0 qs ks kc (fun r u => (r, u) = v) X) (hc : ∀ j av s w, call j av s = some w → kc j av s (fun r u => (r, u) = w)) {k438 : Int32 → Int32 → zSt → zRs} (hk438 : ∀ (x5 : Int32) (x6 : Int32) (s : zSt), k438 x5 x6 s = some v → X 438 [some (.ref h0), none, none, none, none, some (.int x5), some (.int x6)] [] s) {x5 : Int32} {x6 : Int32} {t1 : Int32} {t2 : Int32} {σ : zSt} (h : j_under_467 n call h0 qs ks k438 x5 x6 t1 t2 σ = some v) : X 467 [some (.ref h0), none, none, none, none, some (.int x5), some (.int x6)] [.int t2, .int t1, .ref h0] σ := by
  rw [j_under_467] at h
  obtain ⟨s1, e2, h⟩ := zcv_e h
  refine zc_open hX dX13_under_467 (Nat.le_of_ble_eq_true rfl) (hc _ _ _ _ e2) (fun u9 h9 => ?_)
  cases h9
  refine zs_aload_n hX dX13_under_470 rfl rfl ?_
  refine zg_goneBefore hX dX13_under_471 ?_
  refine zs_iload hX dX13_under_474 rfl ?_
  obtain ⟨b3, h⟩ := zgd_e h
  refine zl_goneBefore hX dX13_under_476 (zin_ok b3) ?_
  refine zs_istore hX dX13_under_477 (by decide) rfl ?_
  dsimp only [List.set]
  refine zs_goto (tgt := 438) hX dX13_under_479 (by decide) ?_
  exact hk438 _ _ _ h
set_option maxHeartbeats 4000000 in
theorem pl_under_438 {h0 : Nat} {qs : List Nat} {ks : Nat → Nat} {n : Nat} {call : zCl} {kc : Nat → List Value → zSt → (Option Value → zSt → Prop) → Prop} {v : Option Value × zSt} {X : Nat → zLv → List Value → zSt → Prop} (hX : zSem cX13_under 7 (some .boolean) h0 qs ks kc (fun r u => (r, u) = v) X) (hc : ∀ j av s w, call j av s = some w → kc j av s (fun r u => (r, u) = w)) : ∀ (f : Nat) (x5 : Int32) (x6 : Int32) (σ : zSt), l_under_438 n call h0 qs ks f x5 x6 σ = some v → X 438 [some (.ref h0), none, none, none, none, some (.int x5), some (.int x6)] [] σ := by
  intro f
  induction f with
  | zero => intro x5 x6 σ h; cases h
  | succ f hk438 =>
    intro x5 x6 σ h
    rw [l_under_438] at h
    refine zs_iload hX dX13_under_438 rfl ?_
    refine zs_if_lt (tgt := 482) hX dX13_under_440 (by decide) (fun c1 => ?_) (fun c1 => ?_)
    · rw [if_pos c1] at h
      refine zs_iload hX dX13_under_482 rfl ?_
      obtain ⟨b2, h⟩ := zgd_e h
      exact zs_zret hX dX13_under_484 rfl (zbo_n b2) (Option.some.inj h)
    · rw [if_neg c1] at h
      refine zs_aload_n hX dX13_under_443 rfl rfl ?_
      refine zs_aload_n hX dX13_under_444 rfl rfl ?_
      refine zg_goneNode hX dX13_under_445 ?_
      refine zs_iload hX dX13_under_448 rfl ?_
      obtain ⟨b3, h⟩ := zgd_e h
      refine zl_goneNode hX dX13_under_450 (zin_ok b3) ?_
      refine zs_aload_n hX dX13_under_451 rfl rfl ?_
      refine zg_goneIs hX dX13_under_452 ?_
      refine zs_iload hX dX13_under_455 rfl ?_
      obtain ⟨b4, h⟩ := zgd_e h
      refine zl_goneIs hX dX13_under_457 (zin_ok b4) ?_
      refine zs_iconst (v := 1) hX dX13_under_458 (by decide) ?_
      refine zs_icmp_ne (tgt := 466) hX dX13_under_459 (by decide) (fun c5 => ?_) (fun c5 => ?_)
      · rw [if_neg c5] at h
        refine zs_iconst (v := 0) hX dX13_under_466 (by decide) ?_
        exact pj_under_467 hX hc hk438 h
      · rw [if_pos c5] at h
        refine zs_iconst (v := 1) hX dX13_under_462 (by decide) ?_
        refine zs_goto (tgt := 467) hX dX13_under_463 (by decide) ?_
        exact pj_under_467 hX hc hk438 h
set_option maxHeartbeats 4000000 in
theorem pj_under_403 {h0 : Nat} {qs : List Nat} {ks : Nat → Nat} {n : Nat} {call : zCl} {kc : Nat → List Value → zSt → (Option Value → zSt → Prop) → Prop} {v : Option Value × zSt} {X : Nat → zLv → List Value → zSt → Prop} (hX : zSem cX13_under 7 (some .boolean) h0 qs ks kc (fun r u => (r, u) = v) X) (hc : ∀ j av s w, call j av s = some w → kc j av s (fun r u => (r, u) = w)) {k342 : Int32 → Int32 → Int32 → zSt → zRs} (hk342 : ∀ (x2 : Int32) (x5 : Int32) (x6 : Int32) (s : zSt), k342 x2 x5 x6 s = some v → X 342 [some (.ref h0), none, some (.int x2), none, none, some (.int x5), some (.int x6)] [] s) {x2 : Int32} {x5 : Int32} {x6 : Int32} {σ : zSt} (h : j_under_403 n call h0 qs ks k342 x2 x5 x6 σ = some v) : X 403 [some (.ref h0), none, some (.int x2), none, none, some (.int x5), some (.int x6)] [] σ := by
  rw [j_under_403] at h
  refine zs_aload_n hX dX13_under_403 rfl rfl ?_
  refine zg_envBefore hX dX13_under_404 ?_
  refine zs_iload hX dX13_under_407 rfl ?_
  obtain ⟨b1, h⟩ := zgd_e h
  refine zl_envBefore hX dX13_under_409 (zin_ok b1) ?_
  refine zs_istore hX dX13_under_410 (by decide) rfl ?_
  dsimp only [List.set]
  refine zs_goto (tgt := 342) hX dX13_under_412 (by decide) ?_
  exact hk342 _ _ _ _ h
set_option maxHeartbeats 4000000 in
theorem pj_under_401 {h0 : Nat} {qs : List Nat} {ks : Nat → Nat} {n : Nat} {call : zCl} {kc : Nat → List Value → zSt → (Option Value → zSt → Prop) → Prop} {v : Option Value × zSt} {X : Nat → zLv → List Value → zSt → Prop} (hX : zSem cX13_under 7 (some .boolean) h0 qs ks kc (fun r u => (r, u) = v) X) (hc : ∀ j av s w, call j av s = some w → kc j av s (fun r u => (r, u) = w)) {k342 : Int32 → Int32 → Int32 → zSt → zRs} (hk342 : ∀ (x2 : Int32) (x5 : Int32) (x6 : Int32) (s : zSt), k342 x2 x5 x6 s = some v → X 342 [some (.ref h0), none, some (.int x2), none, none, some (.int x5), some (.int x6)] [] s) {x2 : Int32} {x6 : Int32} {t0 : Int32} {σ : zSt} (h : j_under_401 n call h0 qs ks k342 x2 x6 t0 σ = some v) : X 401 [some (.ref h0), none, some (.int x2), none, none, none, some (.int x6)] [.int t0] σ := by
  rw [j_under_401] at h
  refine zs_istore hX dX13_under_401 (by decide) rfl ?_
  dsimp only [List.set]
  exact pj_under_403 hX hc hk342 h
set_option maxHeartbeats 4000000 in
theorem pj_under_400 {h0 : Nat} {qs : List Nat} {ks : Nat → Nat} {n : Nat} {call : zCl} {kc : Nat → List Value → zSt → (Option Value → zSt → Prop) → Prop} {v : Option Value × zSt} {X : Nat → zLv → List Value → zSt → Prop} (hX : zSem cX13_under 7 (some .boolean) h0 qs ks kc (fun r u => (r, u) = v) X) (hc : ∀ j av s w, call j av s = some w → kc j av s (fun r u => (r, u) = w)) {k342 : Int32 → Int32 → Int32 → zSt → zRs} (hk342 : ∀ (x2 : Int32) (x5 : Int32) (x6 : Int32) (s : zSt), k342 x2 x5 x6 s = some v → X 342 [some (.ref h0), none, some (.int x2), none, none, some (.int x5), some (.int x6)] [] s) {x2 : Int32} {x6 : Int32} {σ : zSt} (h : j_under_400 n call h0 qs ks k342 x2 x6 σ = some v) : X 400 [some (.ref h0), none, some (.int x2), none, none, none, some (.int x6)] [] σ := by
  rw [j_under_400] at h
  refine zs_iconst (v := 0) hX dX13_under_400 (by decide) ?_
  exact pj_under_401 hX hc hk342 h
set_option maxHeartbeats 4000000 in
theorem pl_under_342 {h0 : Nat} {qs : List Nat} {ks : Nat → Nat} {n : Nat} {call : zCl} {kc : Nat → List Value → zSt → (Option Value → zSt → Prop) → Prop} {v : Option Value × zSt} {X : Nat → zLv → List Value → zSt → Prop} (hX : zSem cX13_under 7 (some .boolean) h0 qs ks kc (fun r u => (r, u) = v) X) (hc : ∀ j av s w, call j av s = some w → kc j av s (fun r u => (r, u) = w)) : ∀ (f : Nat) (x2 : Int32) (x5 : Int32) (x6 : Int32) (σ : zSt), l_under_342 n call h0 qs ks f x2 x5 x6 σ = some v → X 342 [some (.ref h0), none, some (.int x2), none, none, some (.int x5), some (.int x6)] [] σ := by
  intro f
  induction f with
  | zero => intro x2 x5 x6 σ h; cases h
  | succ f hk342 =>
    intro x2 x5 x6 σ h
    rw [l_under_342] at h
    refine zs_iload hX dX13_under_342 rfl ?_
    refine zs_if_lt (tgt := 415) hX dX13_under_344 (by decide) (fun c1 => ?_) (fun c1 => ?_)
    · rw [if_pos c1] at h
      refine zs_aload_n hX dX13_under_415 rfl rfl ?_
      refine zs_iconst (v := 0) hX dX13_under_416 (by decide) ?_
      obtain ⟨s2, e3, h⟩ := zlet_e h
      refine zp_opens hX dX13_under_417 ?_
      rw [← e3]
      refine zs_aload_n hX dX13_under_420 rfl rfl ?_
      refine zs_iconst (v := 0) hX dX13_under_421 (by decide) ?_
      obtain ⟨s4, e5, h⟩ := zlet_e h
      refine zp_ways hX dX13_under_422 ?_
      rw [← e5]
      refine zs_aload_n hX dX13_under_425 rfl rfl ?_
      refine zs_iconst (v := 0) hX dX13_under_426 (by decide) ?_
      obtain ⟨s6, e7, h⟩ := zlet_e h
      refine zp_truths hX dX13_under_427 ?_
      rw [← e7]
      refine zs_aload_n hX dX13_under_430 rfl rfl ?_
      refine zs_iconst (v := 0) hX dX13_under_431 (by decide) ?_
      obtain ⟨s8, e9, h⟩ := zlet_e h
      refine zp_found hX dX13_under_432 (by decide) (by decide) ?_
      rw [← e9]
      refine zs_iload_n hX dX13_under_435 rfl rfl ?_
      refine zs_istore hX dX13_under_436 (by decide) rfl ?_
      dsimp only [List.set]
      refine zs_weak hX (lw := [some (.ref h0), none, none, none, none, some (.int x5), some (.int x2)]) ⟨rfl, rfl, rfl, trivial⟩ ?_
      exact pl_under_438 hX hc n _ _ _ h
    · rw [if_neg c1] at h
      refine zs_aload_n hX dX13_under_347 rfl rfl ?_
      refine zg_rKind hX dX13_under_348 ?_
      refine zs_aload_n hX dX13_under_351 rfl rfl ?_
      refine zg_envType hX dX13_under_352 ?_
      refine zs_iload hX dX13_under_355 rfl ?_
      obtain ⟨b10, h⟩ := zgd_e h
      refine zl_envType hX dX13_under_357 (zin_ok b10) ?_
      obtain ⟨b11, h⟩ := zgd_e h
      refine zl_rKind hX dX13_under_358 (zin_ok b11) ?_
      obtain ⟨r14, s12, e13, h⟩ := zci_e h
      refine zc_isSaid hX dX13_under_359 (Nat.le_of_ble_eq_true rfl) (hc _ _ _ _ e13) (fun r9 u9 h9 => ?_)
      cases h9
      refine zs_if_eq (tgt := 403) hX dX13_under_362 (by decide) (fun c15 => ?_) (fun c15 => ?_)
      · rw [if_pos c15] at h
        exact pj_under_403 hX hc hk342 h
      · rw [if_neg c15] at h
        refine zs_aload_n hX dX13_under_365 rfl rfl ?_
        refine zs_aload_n hX dX13_under_366 rfl rfl ?_
        refine zg_rSaid hX dX13_under_367 ?_
        refine zs_aload_n hX dX13_under_370 rfl rfl ?_
        refine zg_envType hX dX13_under_371 ?_
        refine zs_iload hX dX13_under_374 rfl ?_
        obtain ⟨b16, h⟩ := zgd_e h
        refine zl_envType hX dX13_under_376 (zin_ok b16) ?_
        obtain ⟨b17, h⟩ := zgd_e h
        refine zl_rSaid hX dX13_under_377 (zin_ok b17) ?_
        refine zs_aload_n hX dX13_under_378 rfl rfl ?_
        refine zg_envName hX dX13_under_379 ?_
        refine zs_iload hX dX13_under_382 rfl ?_
        obtain ⟨b18, h⟩ := zgd_e h
        refine zl_envName hX dX13_under_384 (zin_ok b18) ?_
        obtain ⟨r21, s19, e20, h⟩ := zci_e h
        refine zc_saysOf hX dX13_under_385 (Nat.le_of_ble_eq_true rfl) (hc _ _ _ _ e20) (fun r9 u9 h9 => ?_)
        cases h9
        refine zs_if_eq (tgt := 400) hX dX13_under_388 (by decide) (fun c22 => ?_) (fun c22 => ?_)
        · rw [if_pos c22] at h
          refine zs_weak hX (lw := [some (.ref h0), none, some (.int x2), none, none, none, some (.int x6)]) ⟨rfl, rfl, rfl, trivial⟩ ?_
          exact pj_under_400 hX hc hk342 h
        · rw [if_neg c22] at h
          refine zs_iload hX dX13_under_391 rfl ?_
          refine zs_if_eq (tgt := 400) hX dX13_under_393 (by decide) (fun c23 => ?_) (fun c23 => ?_)
          · rw [if_pos c23] at h
            refine zs_weak hX (lw := [some (.ref h0), none, some (.int x2), none, none, none, some (.int x6)]) ⟨rfl, rfl, rfl, trivial⟩ ?_
            exact pj_under_400 hX hc hk342 h
          · rw [if_neg c23] at h
            refine zs_iconst (v := 1) hX dX13_under_396 (by decide) ?_
            refine zs_goto (tgt := 401) hX dX13_under_397 (by decide) ?_
            refine zs_weak hX (lw := [some (.ref h0), none, some (.int x2), none, none, none, some (.int x6)]) ⟨rfl, rfl, rfl, trivial⟩ ?_
            exact pj_under_401 hX hc hk342 h
set_option maxHeartbeats 4000000 in
theorem pj_under_339 {h0 : Nat} {qs : List Nat} {ks : Nat → Nat} {n : Nat} {call : zCl} {kc : Nat → List Value → zSt → (Option Value → zSt → Prop) → Prop} {v : Option Value × zSt} {X : Nat → zLv → List Value → zSt → Prop} (hX : zSem cX13_under 7 (some .boolean) h0 qs ks kc (fun r u => (r, u) = v) X) (hc : ∀ j av s w, call j av s = some w → kc j av s (fun r u => (r, u) = w)) {x1 : Int32} {x2 : Int32} {x5 : Int32} {σ : zSt} (h : j_under_339 n call h0 qs ks x1 x2 x5 σ = some v) : X 339 [some (.ref h0), some (.int x1), some (.int x2), none, none, some (.int x5), none] [] σ := by
  rw [j_under_339] at h
  refine zs_iload_n hX dX13_under_339 rfl rfl ?_
  refine zs_istore hX dX13_under_340 (by decide) rfl ?_
  dsimp only [List.set]
  refine zs_weak hX (lw := [some (.ref h0), none, some (.int x2), none, none, some (.int x5), some (.int x1)]) ⟨rfl, rfl, rfl, rfl, trivial⟩ ?_
  exact pl_under_342 hX hc n _ _ _ _ h
set_option maxHeartbeats 4000000 in
theorem pj_under_337 {h0 : Nat} {qs : List Nat} {ks : Nat → Nat} {n : Nat} {call : zCl} {kc : Nat → List Value → zSt → (Option Value → zSt → Prop) → Prop} {v : Option Value × zSt} {X : Nat → zLv → List Value → zSt → Prop} (hX : zSem cX13_under 7 (some .boolean) h0 qs ks kc (fun r u => (r, u) = v) X) (hc : ∀ j av s w, call j av s = some w → kc j av s (fun r u => (r, u) = w)) {x1 : Int32} {x2 : Int32} {t0 : Int32} {σ : zSt} (h : j_under_337 n call h0 qs ks x1 x2 t0 σ = some v) : X 337 [some (.ref h0), some (.int x1), some (.int x2), none, none, none, none] [.int t0] σ := by
  rw [j_under_337] at h
  refine zs_istore hX dX13_under_337 (by decide) rfl ?_
  dsimp only [List.set]
  exact pj_under_339 hX hc h
set_option maxHeartbeats 4000000 in
theorem pj_under_336 {h0 : Nat} {qs : List Nat} {ks : Nat → Nat} {n : Nat} {call : zCl} {kc : Nat → List Value → zSt → (Option Value → zSt → Prop) → Prop} {v : Option Value × zSt} {X : Nat → zLv → List Value → zSt → Prop} (hX : zSem cX13_under 7 (some .boolean) h0 qs ks kc (fun r u => (r, u) = v) X) (hc : ∀ j av s w, call j av s = some w → kc j av s (fun r u => (r, u) = w)) {x1 : Int32} {x2 : Int32} {σ : zSt} (h : j_under_336 n call h0 qs ks x1 x2 σ = some v) : X 336 [some (.ref h0), some (.int x1), some (.int x2), none, none, none, none] [] σ := by
  rw [j_under_336] at h
  refine zs_iconst (v := 0) hX dX13_under_336 (by decide) ?_
  exact pj_under_337 hX hc h
set_option maxHeartbeats 4000000 in
theorem pj_under_311 {h0 : Nat} {qs : List Nat} {ks : Nat → Nat} {n : Nat} {call : zCl} {kc : Nat → List Value → zSt → (Option Value → zSt → Prop) → Prop} {v : Option Value × zSt} {X : Nat → zLv → List Value → zSt → Prop} (hX : zSem cX13_under 7 (some .boolean) h0 qs ks kc (fun r u => (r, u) = v) X) (hc : ∀ j av s w, call j av s = some w → kc j av s (fun r u => (r, u) = w)) {x1 : Int32} {x2 : Int32} {x3 : Int32} {x5 : Int32} {σ : zSt} (h : j_under_311 n call h0 qs ks x1 x2 x3 x5 σ = some v) : X 311 [some (.ref h0), some (.int x1), some (.int x2), some (.int x3), none, some (.int x5), none] [] σ := by
  rw [j_under_311] at h
  refine zs_aload_n hX dX13_under_311 rfl rfl ?_
  refine zs_aload_n hX dX13_under_312 rfl rfl ?_
  refine zg_rSaid hX dX13_under_313 ?_
  refine zs_iload_n hX dX13_under_316 rfl rfl ?_
  obtain ⟨b1, h⟩ := zgd_e h
  refine zl_rSaid hX dX13_under_317 (zin_ok b1) ?_
  refine zs_sipush (v := 1500) hX dX13_under_318 (by decide) ?_
  obtain ⟨r4, s2, e3, h⟩ := zci_e h
  refine zc_saysOf hX dX13_under_321 (Nat.le_of_ble_eq_true rfl) (hc _ _ _ _ e3) (fun r9 u9 h9 => ?_)
  cases h9
  refine zs_if_eq (tgt := 336) hX dX13_under_324 (by decide) (fun c5 => ?_) (fun c5 => ?_)
  · rw [if_pos c5] at h
    refine zs_weak hX (lw := [some (.ref h0), some (.int x1), some (.int x2), none, none, none, none]) ⟨rfl, rfl, rfl, trivial⟩ ?_
    exact pj_under_336 hX hc h
  · rw [if_neg c5] at h
    refine zs_iload hX dX13_under_327 rfl ?_
    refine zs_if_eq (tgt := 336) hX dX13_under_329 (by decide) (fun c6 => ?_) (fun c6 => ?_)
    · rw [if_pos c6] at h
      refine zs_weak hX (lw := [some (.ref h0), some (.int x1), some (.int x2), none, none, none, none]) ⟨rfl, rfl, rfl, trivial⟩ ?_
      exact pj_under_336 hX hc h
    · rw [if_neg c6] at h
      refine zs_iconst (v := 1) hX dX13_under_332 (by decide) ?_
      refine zs_goto (tgt := 337) hX dX13_under_333 (by decide) ?_
      refine zs_weak hX (lw := [some (.ref h0), some (.int x1), some (.int x2), none, none, none, none]) ⟨rfl, rfl, rfl, trivial⟩ ?_
      exact pj_under_337 hX hc h
set_option maxHeartbeats 4000000 in
theorem pj_under_271 {h0 : Nat} {qs : List Nat} {ks : Nat → Nat} {n : Nat} {call : zCl} {kc : Nat → List Value → zSt → (Option Value → zSt → Prop) → Prop} {v : Option Value × zSt} {X : Nat → zLv → List Value → zSt → Prop} (hX : zSem cX13_under 7 (some .boolean) h0 qs ks kc (fun r u => (r, u) = v) X) (hc : ∀ j av s w, call j av s = some w → kc j av s (fun r u => (r, u) = w)) {k218 : Int32 → Int32 → Int32 → Int32 → Int32 → zSt → zRs} (hk218 : ∀ (x1 : Int32) (x2 : Int32) (x3 : Int32) (x5 : Int32) (x6 : Int32) (s : zSt), k218 x1 x2 x3 x5 x6 s = some v → X 218 [some (.ref h0), some (.int x1), some (.int x2), some (.int x3), none, some (.int x5), some (.int x6)] [] s) {x1 : Int32} {x2 : Int32} {x3 : Int32} {x5 : Int32} {x6 : Int32} {σ : zSt} (h : j_under_271 n call h0 qs ks k218 x1 x2 x3 x5 x6 σ = some v) : X 271 [some (.ref h0), some (.int x1), some (.int x2), some (.int x3), none, some (.int x5), some (.int x6)] [] σ := by
  rw [j_under_271] at h
  refine zs_iinc (v := x6 + 1) hX dX13_under_271 rfl rfl (by decide) rfl ?_
  dsimp only [List.set]
  refine zs_goto (tgt := 218) hX dX13_under_274 (by decide) ?_
  exact hk218 _ _ _ _ _ _ h
set_option maxHeartbeats 4000000 in
theorem pj_under_269 {h0 : Nat} {qs : List Nat} {ks : Nat → Nat} {n : Nat} {call : zCl} {kc : Nat → List Value → zSt → (Option Value → zSt → Prop) → Prop} {v : Option Value × zSt} {X : Nat → zLv → List Value → zSt → Prop} (hX : zSem cX13_under 7 (some .boolean) h0 qs ks kc (fun r u => (r, u) = v) X) (hc : ∀ j av s w, call j av s = some w → kc j av s (fun r u => (r, u) = w)) {k218 : Int32 → Int32 → Int32 → Int32 → Int32 → zSt → zRs} (hk218 : ∀ (x1 : Int32) (x2 : Int32) (x3 : Int32) (x5 : Int32) (x6 : Int32) (s : zSt), k218 x1 x2 x3 x5 x6 s = some v → X 218 [some (.ref h0), some (.int x1), some (.int x2), some (.int x3), none, some (.int x5), some (.int x6)] [] s) {x1 : Int32} {x2 : Int32} {x3 : Int32} {x6 : Int32} {t0 : Int32} {σ : zSt} (h : j_under_269 n call h0 qs ks k218 x1 x2 x3 x6 t0 σ = some v) : X 269 [some (.ref h0), some (.int x1), some (.int x2), some (.int x3), none, none, some (.int x6)] [.int t0] σ := by
  rw [j_under_269] at h
  refine zs_istore hX dX13_under_269 (by decide) rfl ?_
  dsimp only [List.set]
  exact pj_under_271 hX hc hk218 h
set_option maxHeartbeats 4000000 in
theorem pj_under_268 {h0 : Nat} {qs : List Nat} {ks : Nat → Nat} {n : Nat} {call : zCl} {kc : Nat → List Value → zSt → (Option Value → zSt → Prop) → Prop} {v : Option Value × zSt} {X : Nat → zLv → List Value → zSt → Prop} (hX : zSem cX13_under 7 (some .boolean) h0 qs ks kc (fun r u => (r, u) = v) X) (hc : ∀ j av s w, call j av s = some w → kc j av s (fun r u => (r, u) = w)) {k218 : Int32 → Int32 → Int32 → Int32 → Int32 → zSt → zRs} (hk218 : ∀ (x1 : Int32) (x2 : Int32) (x3 : Int32) (x5 : Int32) (x6 : Int32) (s : zSt), k218 x1 x2 x3 x5 x6 s = some v → X 218 [some (.ref h0), some (.int x1), some (.int x2), some (.int x3), none, some (.int x5), some (.int x6)] [] s) {x1 : Int32} {x2 : Int32} {x3 : Int32} {x6 : Int32} {σ : zSt} (h : j_under_268 n call h0 qs ks k218 x1 x2 x3 x6 σ = some v) : X 268 [some (.ref h0), some (.int x1), some (.int x2), some (.int x3), none, none, some (.int x6)] [] σ := by
  rw [j_under_268] at h
  refine zs_iconst (v := 0) hX dX13_under_268 (by decide) ?_
  exact pj_under_269 hX hc hk218 h
set_option maxHeartbeats 4000000 in
theorem pl_under_218 {h0 : Nat} {qs : List Nat} {ks : Nat → Nat} {n : Nat} {call : zCl} {kc : Nat → List Value → zSt → (Option Value → zSt → Prop) → Prop} {v : Option Value × zSt} {X : Nat → zLv → List Value → zSt → Prop} (hX : zSem cX13_under 7 (some .boolean) h0 qs ks kc (fun r u => (r, u) = v) X) (hc : ∀ j av s w, call j av s = some w → kc j av s (fun r u => (r, u) = w)) : ∀ (f : Nat) (x1 : Int32) (x2 : Int32) (x3 : Int32) (x5 : Int32) (x6 : Int32) (σ : zSt), l_under_218 n call h0 qs ks f x1 x2 x3 x5 x6 σ = some v → X 218 [some (.ref h0), some (.int x1), some (.int x2), some (.int x3), none, some (.int x5), some (.int x6)] [] σ := by
  intro f
  induction f with
  | zero => intro x1 x2 x3 x5 x6 σ h; cases h
  | succ f hk218 =>
    intro x1 x2 x3 x5 x6 σ h
    rw [l_under_218] at h
    refine zs_iload hX dX13_under_218 rfl ?_
    refine zs_aload_n hX dX13_under_220 rfl rfl ?_
    refine zg_columns hX dX13_under_221 ?_
    refine zs_icmp_ge (tgt := 277) hX dX13_under_224 (by decide) (fun c1 => ?_) (fun c1 => ?_)
    · rw [if_pos c1] at h
      refine zs_iload_n hX dX13_under_277 rfl rfl ?_
      refine zs_if_lt (tgt := 339) hX dX13_under_278 (by decide) (fun c2 => ?_) (fun c2 => ?_)
      · rw [if_pos c2] at h
        refine zs_weak hX (lw := [some (.ref h0), some (.int x1), some (.int x2), none, none, some (.int x5), none]) ⟨rfl, rfl, rfl, rfl, trivial⟩ ?_
        exact pj_under_339 hX hc h
      · rw [if_neg c2] at h
        refine zs_aload_n hX dX13_under_281 rfl rfl ?_
        refine zg_rKind hX dX13_under_282 ?_
        refine zs_iload_n hX dX13_under_285 rfl rfl ?_
        obtain ⟨b3, h⟩ := zgd_e h
        refine zl_rKind hX dX13_under_286 (zin_ok b3) ?_
        refine zs_iconst (v := 1) hX dX13_under_287 (by decide) ?_
        refine zs_icmp_eq (tgt := 311) hX dX13_under_288 (by decide) (fun c4 => ?_) (fun c4 => ?_)
        · rw [if_pos c4] at h
          refine zs_weak hX (lw := [some (.ref h0), some (.int x1), some (.int x2), some (.int x3), none, some (.int x5), none]) ⟨rfl, rfl, rfl, rfl, rfl, trivial⟩ ?_
          exact pj_under_311 hX hc h
        · rw [if_neg c4] at h
          refine zs_aload_n hX dX13_under_291 rfl rfl ?_
          refine zs_aload_n hX dX13_under_292 rfl rfl ?_
          refine zg_base hX dX13_under_293 ?_
          refine zs_aload_n hX dX13_under_296 rfl rfl ?_
          refine zs_sipush (v := 1500) hX dX13_under_297 (by decide) ?_
          obtain ⟨r7, s5, e6, h⟩ := zci_e h
          refine zc_columnOf hX dX13_under_300 (Nat.le_of_ble_eq_true rfl) (hc _ _ _ _ e6) (fun r9 u9 h9 => ?_)
          cases h9
          refine zs_iconst (v := (-1)) hX dX13_under_303 (by decide) ?_
          refine zs_iconst (v := 0) hX dX13_under_304 (by decide) ?_
          refine zs_iconst (v := 0) hX dX13_under_305 (by decide) ?_
          refine zs_lconst (v := 0) hX dX13_under_306 (by decide) ?_
          obtain ⟨r10, s8, e9, h⟩ := zci_e h
          refine zc_atMost hX dX13_under_307 (Nat.le_of_ble_eq_true rfl) (hc _ _ _ _ e9) (fun r9 u9 h9 => ?_)
          cases h9
          refine zs_pop hX dX13_under_310 rfl ?_
          refine zs_weak hX (lw := [some (.ref h0), some (.int x1), some (.int x2), some (.int x3), none, some (.int x5), none]) ⟨rfl, rfl, rfl, rfl, rfl, trivial⟩ ?_
          exact pj_under_311 hX hc h
    · rw [if_neg c1] at h
      refine zs_aload_n hX dX13_under_227 rfl rfl ?_
      refine zg_isLength hX dX13_under_228 ?_
      refine zs_aload_n hX dX13_under_231 rfl rfl ?_
      refine zg_used hX dX13_under_232 ?_
      refine zs_iload hX dX13_under_235 rfl ?_
      obtain ⟨b11, h⟩ := zgd_e h
      refine zl_used hX dX13_under_237 (zin_ok b11) ?_
      obtain ⟨b12, h⟩ := zgd_e h
      refine zl_isLength hX dX13_under_238 (zin_ok b12) ?_
      refine zs_if_eq (tgt := 271) hX dX13_under_239 (by decide) (fun c13 => ?_) (fun c13 => ?_)
      · rw [if_pos c13] at h
        exact pj_under_271 hX hc hk218 h
      · rw [if_neg c13] at h
        refine zs_aload_n hX dX13_under_242 rfl rfl ?_
        refine zs_aload_n hX dX13_under_243 rfl rfl ?_
        refine zg_base hX dX13_under_244 ?_
        refine zs_iload hX dX13_under_247 rfl ?_
        refine zs_iconst (v := (-1)) hX dX13_under_249 (by decide) ?_
        refine zs_iconst (v := 0) hX dX13_under_250 (by decide) ?_
        refine zs_iconst (v := 0) hX dX13_under_251 (by decide) ?_
        refine zs_lconst (v := 0) hX dX13_under_252 (by decide) ?_
        obtain ⟨r16, s14, e15, h⟩ := zci_e h
        refine zc_atMost hX dX13_under_253 (Nat.le_of_ble_eq_true rfl) (hc _ _ _ _ e15) (fun r9 u9 h9 => ?_)
        cases h9
        refine zs_if_eq (tgt := 268) hX dX13_under_256 (by decide) (fun c17 => ?_) (fun c17 => ?_)
        · rw [if_pos c17] at h
          refine zs_weak hX (lw := [some (.ref h0), some (.int x1), some (.int x2), some (.int x3), none, none, some (.int x6)]) ⟨rfl, rfl, rfl, rfl, rfl, trivial⟩ ?_
          exact pj_under_268 hX hc hk218 h
        · rw [if_neg c17] at h
          refine zs_iload hX dX13_under_259 rfl ?_
          refine zs_if_eq (tgt := 268) hX dX13_under_261 (by decide) (fun c18 => ?_) (fun c18 => ?_)
          · rw [if_pos c18] at h
            refine zs_weak hX (lw := [some (.ref h0), some (.int x1), some (.int x2), some (.int x3), none, none, some (.int x6)]) ⟨rfl, rfl, rfl, rfl, rfl, trivial⟩ ?_
            exact pj_under_268 hX hc hk218 h
          · rw [if_neg c18] at h
            refine zs_iconst (v := 1) hX dX13_under_264 (by decide) ?_
            refine zs_goto (tgt := 269) hX dX13_under_265 (by decide) ?_
            refine zs_weak hX (lw := [some (.ref h0), some (.int x1), some (.int x2), some (.int x3), none, none, some (.int x6)]) ⟨rfl, rfl, rfl, rfl, rfl, trivial⟩ ?_
            exact pj_under_269 hX hc hk218 h
set_option maxHeartbeats 4000000 in
theorem pj_under_199 {h0 : Nat} {qs : List Nat} {ks : Nat → Nat} {n : Nat} {call : zCl} {kc : Nat → List Value → zSt → (Option Value → zSt → Prop) → Prop} {v : Option Value × zSt} {X : Nat → zLv → List Value → zSt → Prop} (hX : zSem cX13_under 7 (some .boolean) h0 qs ks kc (fun r u => (r, u) = v) X) (hc : ∀ j av s w, call j av s = some w → kc j av s (fun r u => (r, u) = w)) {k155 : Int32 → Int32 → Int32 → Int32 → Int32 → zSt → zRs} (hk155 : ∀ (x1 : Int32) (x2 : Int32) (x3 : Int32) (x4 : Int32) (x5 : Int32) (s : zSt), k155 x1 x2 x3 x4 x5 s = some v → X 155 [some (.ref h0), some (.int x1), some (.int x2), some (.int x3), some (.int x4), some (.int x5), none] [] s) {k165 : Int32 → Int32 → Int32 → Int32 → Int32 → Int32 → zSt → zRs} (hk165 : ∀ (x1 : Int32) (x2 : Int32) (x3 : Int32) (x4 : Int32) (x5 : Int32) (x6 : Int32) (s : zSt), k165 x1 x2 x3 x4 x5 x6 s = some v → X 165 [some (.ref h0), some (.int x1), some (.int x2), some (.int x3), some (.int x4), some (.int x5), some (.int x6)] [] s) {x1 : Int32} {x2 : Int32} {x3 : Int32} {x4 : Int32} {x5 : Int32} {x6 : Int32} {t1 : Int32} {t2 : Int64} {σ : zSt} (h : j_under_199 n call h0 qs ks k155 k165 x1 x2 x3 x4 x5 x6 t1 t2 σ = some v) : X 199 [some (.ref h0), some (.int x1), some (.int x2), some (.int x3), some (.int x4), some (.int x5), some (.int x6)] [.long t2, .int t1, .ref (qs.getD 87 0)] σ := by
  rw [j_under_199] at h
  obtain ⟨b1, h⟩ := zgd_e h
  obtain ⟨s2, e3, h⟩ := zlet_e h
  refine zt_base hX dX13_under_199 (zin_ok b1) ?_
  rw [← e3]
  refine zs_iinc (v := x6 + 1) hX dX13_under_200 rfl rfl (by decide) rfl ?_
  dsimp only [List.set]
  refine zs_goto (tgt := 165) hX dX13_under_203 (by decide) ?_
  exact hk165 _ _ _ _ _ _ _ h
set_option maxHeartbeats 4000000 in
theorem pl_under_165 {h0 : Nat} {qs : List Nat} {ks : Nat → Nat} {n : Nat} {call : zCl} {kc : Nat → List Value → zSt → (Option Value → zSt → Prop) → Prop} {v : Option Value × zSt} {X : Nat → zLv → List Value → zSt → Prop} (hX : zSem cX13_under 7 (some .boolean) h0 qs ks kc (fun r u => (r, u) = v) X) (hc : ∀ j av s w, call j av s = some w → kc j av s (fun r u => (r, u) = w)) {k155 : Int32 → Int32 → Int32 → Int32 → Int32 → zSt → zRs} (hk155 : ∀ (x1 : Int32) (x2 : Int32) (x3 : Int32) (x4 : Int32) (x5 : Int32) (s : zSt), k155 x1 x2 x3 x4 x5 s = some v → X 155 [some (.ref h0), some (.int x1), some (.int x2), some (.int x3), some (.int x4), some (.int x5), none] [] s) : ∀ (f : Nat) (x1 : Int32) (x2 : Int32) (x3 : Int32) (x4 : Int32) (x5 : Int32) (x6 : Int32) (σ : zSt), l_under_165 n call h0 qs ks k155 f x1 x2 x3 x4 x5 x6 σ = some v → X 165 [some (.ref h0), some (.int x1), some (.int x2), some (.int x3), some (.int x4), some (.int x5), some (.int x6)] [] σ := by
  intro f
  induction f with
  | zero => intro x1 x2 x3 x4 x5 x6 σ h; cases h
  | succ f hk165 =>
    intro x1 x2 x3 x4 x5 x6 σ h
    rw [l_under_165] at h
    refine zs_iload hX dX13_under_165 rfl ?_
    refine zs_iload hX dX13_under_167 rfl ?_
    refine zs_icmp_ge (tgt := 206) hX dX13_under_169 (by decide) (fun c1 => ?_) (fun c1 => ?_)
    · rw [if_pos c1] at h
      refine zs_iinc (v := x5 + 1) hX dX13_under_206 rfl rfl (by decide) rfl ?_
      dsimp only [List.set]
      refine zs_goto (tgt := 155) hX dX13_under_209 (by decide) ?_
      refine zs_weak hX (lw := [some (.ref h0), some (.int x1), some (.int x2), some (.int x3), some (.int x4), some (.int (x5 + 1)), none]) ⟨rfl, rfl, rfl, rfl, rfl, rfl, trivial⟩ ?_
      exact hk155 _ _ _ _ _ _ h
    · rw [if_neg c1] at h
      refine zs_aload_n hX dX13_under_172 rfl rfl ?_
      refine zg_base hX dX13_under_173 ?_
      refine zs_sipush (v := 160) hX dX13_under_176 (by decide) ?_
      refine zs_iload hX dX13_under_179 rfl ?_
      refine zs_imul hX dX13_under_181 ?_
      refine zs_iload hX dX13_under_182 rfl ?_
      refine zs_iadd hX dX13_under_184 ?_
      refine zs_iload hX dX13_under_185 rfl ?_
      refine zs_iload hX dX13_under_187 rfl ?_
      refine zs_icmp_ne (tgt := 196) hX dX13_under_189 (by decide) (fun c2 => ?_) (fun c2 => ?_)
      · rw [if_neg c2] at h
        refine zs_ldc2 (v := 1125899906842624) hX dX13_under_196 (by decide) ?_
        exact pj_under_199 hX hc hk155 hk165 h
      · rw [if_pos c2] at h
        refine zs_lconst (v := 0) hX dX13_under_192 (by decide) ?_
        refine zs_goto (tgt := 199) hX dX13_under_193 (by decide) ?_
        exact pj_under_199 hX hc hk155 hk165 h
set_option maxHeartbeats 4000000 in
theorem pl_under_155 {h0 : Nat} {qs : List Nat} {ks : Nat → Nat} {n : Nat} {call : zCl} {kc : Nat → List Value → zSt → (Option Value → zSt → Prop) → Prop} {v : Option Value × zSt} {X : Nat → zLv → List Value → zSt → Prop} (hX : zSem cX13_under 7 (some .boolean) h0 qs ks kc (fun r u => (r, u) = v) X) (hc : ∀ j av s w, call j av s = some w → kc j av s (fun r u => (r, u) = w)) : ∀ (f : Nat) (x1 : Int32) (x2 : Int32) (x3 : Int32) (x4 : Int32) (x5 : Int32) (σ : zSt), l_under_155 n call h0 qs ks f x1 x2 x3 x4 x5 σ = some v → X 155 [some (.ref h0), some (.int x1), some (.int x2), some (.int x3), some (.int x4), some (.int x5), none] [] σ := by
  intro f
  induction f with
  | zero => intro x1 x2 x3 x4 x5 σ h; cases h
  | succ f hk155 =>
    intro x1 x2 x3 x4 x5 σ h
    rw [l_under_155] at h
    refine zs_iload hX dX13_under_155 rfl ?_
    refine zs_iload hX dX13_under_157 rfl ?_
    refine zs_icmp_ge (tgt := 212) hX dX13_under_159 (by decide) (fun c1 => ?_) (fun c1 => ?_)
    · rw [if_pos c1] at h
      refine zs_iconst (v := 1) hX dX13_under_212 (by decide) ?_
      refine zs_istore hX dX13_under_213 (by decide) rfl ?_
      dsimp only [List.set]
      refine zs_iconst (v := 0) hX dX13_under_215 (by decide) ?_
      refine zs_istore hX dX13_under_216 (by decide) rfl ?_
      dsimp only [List.set]
      refine zs_weak hX (lw := [some (.ref h0), some (.int x1), some (.int x2), some (.int x3), none, some (.int 1), some (.int 0)]) ⟨rfl, rfl, rfl, rfl, rfl, rfl, trivial⟩ ?_
      exact pl_under_218 hX hc n _ _ _ _ _ _ h
    · rw [if_neg c1] at h
      refine zs_iconst (v := 0) hX dX13_under_162 (by decide) ?_
      refine zs_istore hX dX13_under_163 (by decide) rfl ?_
      dsimp only [List.set]
      exact pl_under_165 hX hc hk155 n _ _ _ _ _ _ _ h
set_option maxHeartbeats 4000000 in
theorem pj_under_144 {h0 : Nat} {qs : List Nat} {ks : Nat → Nat} {n : Nat} {call : zCl} {kc : Nat → List Value → zSt → (Option Value → zSt → Prop) → Prop} {v : Option Value × zSt} {X : Nat → zLv → List Value → zSt → Prop} (hX : zSem cX13_under 7 (some .boolean) h0 qs ks kc (fun r u => (r, u) = v) X) (hc : ∀ j av s w, call j av s = some w → kc j av s (fun r u => (r, u) = w)) {x1 : Int32} {x2 : Int32} {x3 : Int32} {σ : zSt} (h : j_under_144 n call h0 qs ks x1 x2 x3 σ = some v) : X 144 [some (.ref h0), some (.int x1), some (.int x2), some (.int x3), none, none, none] [] σ := by
  rw [j_under_144] at h
  refine zs_iconst (v := 2) hX dX13_under_144 (by decide) ?_
  refine zs_aload_n hX dX13_under_145 rfl rfl ?_
  refine zg_columns hX dX13_under_146 ?_
  refine zs_imul hX dX13_under_149 ?_
  refine zs_istore hX dX13_under_150 (by decide) rfl ?_
  dsimp only [List.set]
  refine zs_iconst (v := 0) hX dX13_under_152 (by decide) ?_
  refine zs_istore hX dX13_under_153 (by decide) rfl ?_
  dsimp only [List.set]
  exact pl_under_155 hX hc n _ _ _ _ _ _ h
set_option maxHeartbeats 4000000 in
theorem pl_under_101 {h0 : Nat} {qs : List Nat} {ks : Nat → Nat} {n : Nat} {call : zCl} {kc : Nat → List Value → zSt → (Option Value → zSt → Prop) → Prop} {v : Option Value × zSt} {X : Nat → zLv → List Value → zSt → Prop} (hX : zSem cX13_under 7 (some .boolean) h0 qs ks kc (fun r u => (r, u) = v) X) (hc : ∀ j av s w, call j av s = some w → kc j av s (fun r u => (r, u) = w)) : ∀ (f : Nat) (x1 : Int32) (x2 : Int32) (x3 : Int32) (x4 : Int32) (σ : zSt), l_under_101 n call h0 qs ks f x1 x2 x3 x4 σ = some v → X 101 [some (.ref h0), some (.int x1), some (.int x2), some (.int x3), some (.int x4), none, none] [] σ := by
  intro f
  induction f with
  | zero => intro x1 x2 x3 x4 σ h; cases h
  | succ f hk101 =>
    intro x1 x2 x3 x4 σ h
    rw [l_under_101] at h
    refine zs_iload hX dX13_under_101 rfl ?_
    refine zs_if_lt (tgt := 129) hX dX13_under_103 (by decide) (fun c1 => ?_) (fun c1 => ?_)
    · rw [if_pos c1] at h
      refine zs_aload_n hX dX13_under_129 rfl rfl ?_
      refine zg_askedSaid hX dX13_under_130 ?_
      refine zs_if_lt (tgt := 144) hX dX13_under_133 (by decide) (fun c2 => ?_) (fun c2 => ?_)
      · rw [if_pos c2] at h
        refine zs_weak hX (lw := [some (.ref h0), some (.int x1), some (.int x2), some (.int x3), none, none, none]) ⟨rfl, rfl, rfl, rfl, trivial⟩ ?_
        exact pj_under_144 hX hc h
      · rw [if_neg c2] at h
        refine zs_aload_n hX dX13_under_136 rfl rfl ?_
        refine zs_aload_n hX dX13_under_137 rfl rfl ?_
        refine zg_askedSaid hX dX13_under_138 ?_
        obtain ⟨s3, e4, h⟩ := zcv_e h
        refine zc_namesSaid hX dX13_under_141 (Nat.le_of_ble_eq_true rfl) (hc _ _ _ _ e4) (fun u9 h9 => ?_)
        cases h9
        refine zs_weak hX (lw := [some (.ref h0), some (.int x1), some (.int x2), some (.int x3), none, none, none]) ⟨rfl, rfl, rfl, rfl, trivial⟩ ?_
        exact pj_under_144 hX hc h
    · rw [if_neg c1] at h
      refine zs_aload_n hX dX13_under_106 rfl rfl ?_
      refine zs_aload_n hX dX13_under_107 rfl rfl ?_
      refine zg_goneNode hX dX13_under_108 ?_
      refine zs_iload hX dX13_under_111 rfl ?_
      obtain ⟨b5, h⟩ := zgd_e h
      refine zl_goneNode hX dX13_under_113 (zin_ok b5) ?_
      obtain ⟨s6, e7, h⟩ := zcv_e h
      refine zc_namesOfGone hX dX13_under_114 (Nat.le_of_ble_eq_true rfl) (hc _ _ _ _ e7) (fun u9 h9 => ?_)
      cases h9
      refine zs_aload_n hX dX13_under_117 rfl rfl ?_
      refine zg_goneBefore hX dX13_under_118 ?_
      refine zs_iload hX dX13_under_121 rfl ?_
      obtain ⟨b8, h⟩ := zgd_e h
      refine zl_goneBefore hX dX13_under_123 (zin_ok b8) ?_
      refine zs_istore hX dX13_under_124 (by decide) rfl ?_
      dsimp only [List.set]
      refine zs_goto (tgt := 101) hX dX13_under_126 (by decide) ?_
      exact hk101 _ _ _ _ _ h
set_option maxHeartbeats 4000000 in
theorem pl_under_70 {h0 : Nat} {qs : List Nat} {ks : Nat → Nat} {n : Nat} {call : zCl} {kc : Nat → List Value → zSt → (Option Value → zSt → Prop) → Prop} {v : Option Value × zSt} {X : Nat → zLv → List Value → zSt → Prop} (hX : zSem cX13_under 7 (some .boolean) h0 qs ks kc (fun r u => (r, u) = v) X) (hc : ∀ j av s w, call j av s = some w → kc j av s (fun r u => (r, u) = w)) : ∀ (f : Nat) (x1 : Int32) (x2 : Int32) (x3 : Int32) (x4 : Int32) (σ : zSt), l_under_70 n call h0 qs ks f x1 x2 x3 x4 σ = some v → X 70 [some (.ref h0), some (.int x1), some (.int x2), some (.int x3), some (.int x4), none, none] [] σ := by
  intro f
  induction f with
  | zero => intro x1 x2 x3 x4 σ h; cases h
  | succ f hk70 =>
    intro x1 x2 x3 x4 σ h
    rw [l_under_70] at h
    refine zs_iload hX dX13_under_70 rfl ?_
    refine zs_if_lt (tgt := 98) hX dX13_under_72 (by decide) (fun c1 => ?_) (fun c1 => ?_)
    · rw [if_pos c1] at h
      refine zs_iload_n hX dX13_under_98 rfl rfl ?_
      refine zs_istore hX dX13_under_99 (by decide) rfl ?_
      dsimp only [List.set]
      exact pl_under_101 hX hc n _ _ _ _ _ h
    · rw [if_neg c1] at h
      refine zs_aload_n hX dX13_under_75 rfl rfl ?_
      refine zs_aload_n hX dX13_under_76 rfl rfl ?_
      refine zg_envType hX dX13_under_77 ?_
      refine zs_iload hX dX13_under_80 rfl ?_
      obtain ⟨b2, h⟩ := zgd_e h
      refine zl_envType hX dX13_under_82 (zin_ok b2) ?_
      obtain ⟨s3, e4, h⟩ := zcv_e h
      refine zc_namesIn hX dX13_under_83 (Nat.le_of_ble_eq_true rfl) (hc _ _ _ _ e4) (fun u9 h9 => ?_)
      cases h9
      refine zs_aload_n hX dX13_under_86 rfl rfl ?_
      refine zg_envBefore hX dX13_under_87 ?_
      refine zs_iload hX dX13_under_90 rfl ?_
      obtain ⟨b5, h⟩ := zgd_e h
      refine zl_envBefore hX dX13_under_92 (zin_ok b5) ?_
      refine zs_istore hX dX13_under_93 (by decide) rfl ?_
      dsimp only [List.set]
      refine zs_goto (tgt := 70) hX dX13_under_95 (by decide) ?_
      exact hk70 _ _ _ _ _ h
set_option maxHeartbeats 4000000 in
theorem pj_under_50 {h0 : Nat} {qs : List Nat} {ks : Nat → Nat} {n : Nat} {call : zCl} {kc : Nat → List Value → zSt → (Option Value → zSt → Prop) → Prop} {v : Option Value × zSt} {X : Nat → zLv → List Value → zSt → Prop} (hX : zSem cX13_under 7 (some .boolean) h0 qs ks kc (fun r u => (r, u) = v) X) (hc : ∀ j av s w, call j av s = some w → kc j av s (fun r u => (r, u) = w)) {k15 : Int32 → Int32 → Int32 → Int32 → zSt → zRs} (hk15 : ∀ (x1 : Int32) (x2 : Int32) (x3 : Int32) (x4 : Int32) (s : zSt), k15 x1 x2 x3 x4 s = some v → X 15 [some (.ref h0), some (.int x1), some (.int x2), some (.int x3), some (.int x4), none, none] [] s) {x1 : Int32} {x2 : Int32} {x3 : Int32} {x4 : Int32} {σ : zSt} (h : j_under_50 n call h0 qs ks k15 x1 x2 x3 x4 σ = some v) : X 50 [some (.ref h0), some (.int x1), some (.int x2), some (.int x3), some (.int x4), none, none] [] σ := by
  rw [j_under_50] at h
  refine zs_aload_n hX dX13_under_50 rfl rfl ?_
  refine zg_envBefore hX dX13_under_51 ?_
  refine zs_iload hX dX13_under_54 rfl ?_
  obtain ⟨b1, h⟩ := zgd_e h
  refine zl_envBefore hX dX13_under_56 (zin_ok b1) ?_
  refine zs_istore hX dX13_under_57 (by decide) rfl ?_
  dsimp only [List.set]
  refine zs_goto (tgt := 15) hX dX13_under_59 (by decide) ?_
  exact hk15 _ _ _ _ _ h
set_option maxHeartbeats 4000000 in
theorem pl_under_15 {h0 : Nat} {qs : List Nat} {ks : Nat → Nat} {n : Nat} {call : zCl} {kc : Nat → List Value → zSt → (Option Value → zSt → Prop) → Prop} {v : Option Value × zSt} {X : Nat → zLv → List Value → zSt → Prop} (hX : zSem cX13_under 7 (some .boolean) h0 qs ks kc (fun r u => (r, u) = v) X) (hc : ∀ j av s w, call j av s = some w → kc j av s (fun r u => (r, u) = w)) : ∀ (f : Nat) (x1 : Int32) (x2 : Int32) (x3 : Int32) (x4 : Int32) (σ : zSt), l_under_15 n call h0 qs ks f x1 x2 x3 x4 σ = some v → X 15 [some (.ref h0), some (.int x1), some (.int x2), some (.int x3), some (.int x4), none, none] [] σ := by
  intro f
  induction f with
  | zero => intro x1 x2 x3 x4 σ h; cases h
  | succ f hk15 =>
    intro x1 x2 x3 x4 σ h
    rw [l_under_15] at h
    refine zs_iload hX dX13_under_15 rfl ?_
    refine zs_if_lt (tgt := 62) hX dX13_under_17 (by decide) (fun c1 => ?_) (fun c1 => ?_)
    · rw [if_pos c1] at h
      refine zs_aload_n hX dX13_under_62 rfl rfl ?_
      refine zs_iload_n hX dX13_under_63 rfl rfl ?_
      obtain ⟨s2, e3, h⟩ := zcv_e h
      refine zc_namesIn hX dX13_under_64 (Nat.le_of_ble_eq_true rfl) (hc _ _ _ _ e3) (fun u9 h9 => ?_)
      cases h9
      refine zs_iload_n hX dX13_under_67 rfl rfl ?_
      refine zs_istore hX dX13_under_68 (by decide) rfl ?_
      dsimp only [List.set]
      exact pl_under_70 hX hc n _ _ _ _ _ h
    · rw [if_neg c1] at h
      refine zs_aload_n hX dX13_under_20 rfl rfl ?_
      refine zg_rKind hX dX13_under_21 ?_
      refine zs_aload_n hX dX13_under_24 rfl rfl ?_
      refine zg_envType hX dX13_under_25 ?_
      refine zs_iload hX dX13_under_28 rfl ?_
      obtain ⟨b4, h⟩ := zgd_e h
      refine zl_envType hX dX13_under_30 (zin_ok b4) ?_
      obtain ⟨b5, h⟩ := zgd_e h
      refine zl_rKind hX dX13_under_31 (zin_ok b5) ?_
      obtain ⟨r8, s6, e7, h⟩ := zci_e h
      refine zc_isSaid hX dX13_under_32 (Nat.le_of_ble_eq_true rfl) (hc _ _ _ _ e7) (fun r9 u9 h9 => ?_)
      cases h9
      refine zs_if_eq (tgt := 50) hX dX13_under_35 (by decide) (fun c9 => ?_) (fun c9 => ?_)
      · rw [if_pos c9] at h
        exact pj_under_50 hX hc hk15 h
      · rw [if_neg c9] at h
        refine zs_aload_n hX dX13_under_38 rfl rfl ?_
        refine zs_aload_n hX dX13_under_39 rfl rfl ?_
        refine zg_envName hX dX13_under_40 ?_
        refine zs_iload hX dX13_under_43 rfl ?_
        obtain ⟨b10, h⟩ := zgd_e h
        refine zl_envName hX dX13_under_45 (zin_ok b10) ?_
        obtain ⟨r13, s11, e12, h⟩ := zci_e h
        refine zc_columnOf hX dX13_under_46 (Nat.le_of_ble_eq_true rfl) (hc _ _ _ _ e12) (fun r9 u9 h9 => ?_)
        cases h9
        refine zs_pop hX dX13_under_49 rfl ?_
        exact pj_under_50 hX hc hk15 h
set_option maxHeartbeats 4000000 in
theorem pb_under {h0 : Nat} {qs : List Nat} {ks : Nat → Nat} {n : Nat} {call : zCl} {kc : Nat → List Value → zSt → (Option Value → zSt → Prop) → Prop} {v : Option Value × zSt} {X : Nat → zLv → List Value → zSt → Prop} (hX : zSem cX13_under 7 (some .boolean) h0 qs ks kc (fun r u => (r, u) = v) X) (hc : ∀ j av s w, call j av s = some w → kc j av s (fun r u => (r, u) = w)) {x1 : Int32} {x2 : Int32} {x3 : Int32} {σ : zSt} (h : b_under n call h0 qs ks x1 x2 x3 σ = some v) : X 0 [some (.ref h0), some (.int x1), some (.int x2), some (.int x3), none, none, none] [] σ := by
  rw [b_under] at h
  refine zs_aload_n hX dX13_under_0 rfl rfl ?_
  obtain ⟨s1, e2, h⟩ := zcv_e h
  refine zc_beginBounds hX dX13_under_1 (Nat.le_of_ble_eq_true rfl) (hc _ _ _ _ e2) (fun u9 h9 => ?_)
  cases h9
  refine zs_aload_n hX dX13_under_4 rfl rfl ?_
  refine zs_sipush (v := 1500) hX dX13_under_5 (by decide) ?_
  obtain ⟨r5, s3, e4, h⟩ := zci_e h
  refine zc_columnOf hX dX13_under_8 (Nat.le_of_ble_eq_true rfl) (hc _ _ _ _ e4) (fun r9 u9 h9 => ?_)
  cases h9
  refine zs_pop hX dX13_under_11 rfl ?_
  refine zs_iload_n hX dX13_under_12 rfl rfl ?_
  refine zs_istore hX dX13_under_13 (by decide) rfl ?_
  dsimp only [List.set]
  exact pl_under_15 hX hc n _ _ _ _ _ h
def j_fit_148 (n : Nat) (call : zCl) (h0 : Nat) (qs : List Nat) (ks : Nat → Nat) (k103 : Int32 → Int32 → Int32 → zSt → zRs) (x3 : Int32) (x4 : Int32) (x5 : Int32) (σ : zSt) : zRs :=
  k103 x3 x4 (x5 + 1) σ
def l_fit_103 (n : Nat) (call : zCl) (h0 : Nat) (qs : List Nat) (ks : Nat → Nat) : Nat → Int32 → Int32 → Int32 → zSt → zRs
  | 0, _, _, _, _ => none
  | f + 1, x3, x4, x5, σ =>
    zgd (zin x3 64) (
    if (σ.2.2.1 62 (x3).toNatClampNeg) ≤ x5 then
      zgd (zbo x4) (some (some (.int x4), σ))
    else
      zgd (zin x5 8000) (
      if (σ.2.2.1 65 (x5).toNatClampNeg) = 0 then
        j_fit_148 n call h0 qs ks (l_fit_103 n call h0 qs ks f) x3 x4 x5 σ
      else
        zgd (zin x5 8000) (
        if (σ.2.2.1 100 (x5).toNatClampNeg) = 0 then
          j_fit_148 n call h0 qs ks (l_fit_103 n call h0 qs ks f) x3 x4 x5 σ
        else
          zgd (zin x5 8000) (zlet (zA σ 65 (upd (σ.2.2.1 65) (x5).toNatClampNeg (vp_nar .boolean 0))) fun s9 =>
          j_fit_148 n call h0 qs ks (l_fit_103 n call h0 qs ks f) x3 1 x5 s9))))
def j_fit_92 (n : Nat) (call : zCl) (h0 : Nat) (qs : List Nat) (ks : Nat → Nat) (x3 : Int32) (σ : zSt) : zRs :=
  zgd (zin x3 64) (
  l_fit_103 n call h0 qs ks n x3 0 (σ.2.2.1 61 (x3).toNatClampNeg) σ)
def l_fit_38 (n : Nat) (call : zCl) (h0 : Nat) (qs : List Nat) (ks : Nat → Nat) : Nat → Int32 → Int32 → Int32 → zSt → zRs
  | 0, _, _, _, _ => none
  | f + 1, x1, x3, x4, σ =>
    zgd (zin x3 64) (
    if (σ.2.2.1 62 (x3).toNatClampNeg) ≤ x4 then
      zgd (zin x1 12000) (
      zgd (zin x1 12000) (
      zgd (zin x1 12000) (
      zci (call 107 [.ref h0, .int (σ.2.2.1 77 (x1).toNatClampNeg), .int (σ.2.2.1 78 (x1).toNatClampNeg), .int (σ.2.2.1 75 (x1).toNatClampNeg)] σ) fun r8 s6 =>
      if r8 = 0 then
        j_fit_92 n call h0 qs ks x3 s6
      else
        zcv (call 101 [.ref h0] s6) fun s10 =>
        j_fit_92 n call h0 qs ks x3 s10)))
    else
      zgd (zin x4 8000) (zlet (zA σ 100 (upd (σ.2.2.1 100) (x4).toNatClampNeg (vp_nar .boolean 0))) fun s13 =>
      l_fit_38 n call h0 qs ks f x1 x3 (x4 + 1) s13))
def b_fit (n : Nat) (call : zCl) (h0 : Nat) (qs : List Nat) (ks : Nat → Nat) (x1 : Int32) (σ : zSt) : zRs :=
  zgd (zin x1 12000) (
  zgd (zin (σ.2.2.1 76 (x1).toNatClampNeg) 40000) (
  zgd (zin (σ.2.2.1 43 ((σ.2.2.1 76 (x1).toNatClampNeg)).toNatClampNeg) 24000) (
  if 0 ≤ (σ.2.2.1 47 ((σ.2.2.1 43 ((σ.2.2.1 76 (x1).toNatClampNeg)).toNatClampNeg)).toNatClampNeg) then
    zlet (zI σ 155 (σ.2.2.1 43 ((σ.2.2.1 76 (x1).toNatClampNeg)).toNatClampNeg)) fun s5 =>
    zgd (zin (σ.2.2.1 47 ((σ.2.2.1 43 ((σ.2.2.1 76 (x1).toNatClampNeg)).toNatClampNeg)).toNatClampNeg) 64) (
    l_fit_38 n call h0 qs ks n x1 (σ.2.2.1 47 ((σ.2.2.1 43 ((σ.2.2.1 76 (x1).toNatClampNeg)).toNatClampNeg)).toNatClampNeg) (s5.2.2.1 61 ((σ.2.2.1 47 ((σ.2.2.1 43 ((σ.2.2.1 76 (x1).toNatClampNeg)).toNatClampNeg)).toNatClampNeg)).toNatClampNeg) s5)
  else
    some (some (.int 0), σ))))
set_option maxHeartbeats 4000000 in
theorem pj_fit_148 {h0 : Nat} {qs : List Nat} {ks : Nat → Nat} {n : Nat} {call : zCl} {kc : Nat → List Value → zSt → (Option Value → zSt → Prop) → Prop} {v : Option Value × zSt} {X : Nat → zLv → List Value → zSt → Prop} (hX : zSem cX13_fit 6 (some .boolean) h0 qs ks kc (fun r u => (r, u) = v) X) (hc : ∀ j av s w, call j av s = some w → kc j av s (fun r u => (r, u) = w)) {k103 : Int32 → Int32 → Int32 → zSt → zRs} (hk103 : ∀ (x3 : Int32) (x4 : Int32) (x5 : Int32) (s : zSt), k103 x3 x4 x5 s = some v → X 103 [some (.ref h0), none, none, some (.int x3), some (.int x4), some (.int x5)] [] s) {x3 : Int32} {x4 : Int32} {x5 : Int32} {σ : zSt} (h : j_fit_148 n call h0 qs ks k103 x3 x4 x5 σ = some v) : X 148 [some (.ref h0), none, none, some (.int x3), some (.int x4), some (.int x5)] [] σ := by
  rw [j_fit_148] at h
  refine zs_iinc (v := x5 + 1) hX dX13_fit_148 rfl rfl (by decide) rfl ?_
  dsimp only [List.set]
  refine zs_goto (tgt := 103) hX dX13_fit_151 (by decide) ?_
  exact hk103 _ _ _ _ h
set_option maxHeartbeats 4000000 in
theorem pl_fit_103 {h0 : Nat} {qs : List Nat} {ks : Nat → Nat} {n : Nat} {call : zCl} {kc : Nat → List Value → zSt → (Option Value → zSt → Prop) → Prop} {v : Option Value × zSt} {X : Nat → zLv → List Value → zSt → Prop} (hX : zSem cX13_fit 6 (some .boolean) h0 qs ks kc (fun r u => (r, u) = v) X) (hc : ∀ j av s w, call j av s = some w → kc j av s (fun r u => (r, u) = w)) : ∀ (f : Nat) (x3 : Int32) (x4 : Int32) (x5 : Int32) (σ : zSt), l_fit_103 n call h0 qs ks f x3 x4 x5 σ = some v → X 103 [some (.ref h0), none, none, some (.int x3), some (.int x4), some (.int x5)] [] σ := by
  intro f
  induction f with
  | zero => intro x3 x4 x5 σ h; cases h
  | succ f hk103 =>
    intro x3 x4 x5 σ h
    rw [l_fit_103] at h
    refine zs_iload hX dX13_fit_103 rfl ?_
    refine zs_aload_n hX dX13_fit_105 rfl rfl ?_
    refine zg_caseTo hX dX13_fit_106 ?_
    refine zs_iload_n hX dX13_fit_109 rfl rfl ?_
    obtain ⟨b1, h⟩ := zgd_e h
    refine zl_caseTo hX dX13_fit_110 (zin_ok b1) ?_
    refine zs_icmp_ge (tgt := 154) hX dX13_fit_111 (by decide) (fun c2 => ?_) (fun c2 => ?_)
    · rw [if_pos c2] at h
      refine zs_iload hX dX13_fit_154 rfl ?_
      obtain ⟨b3, h⟩ := zgd_e h
      exact zs_zret hX dX13_fit_156 rfl (zbo_n b3) (Option.some.inj h)
    · rw [if_neg c2] at h
      refine zs_aload_n hX dX13_fit_114 rfl rfl ?_
      refine zg_alive hX dX13_fit_115 ?_
      refine zs_iload hX dX13_fit_118 rfl ?_
      obtain ⟨b4, h⟩ := zgd_e h
      refine zl_alive hX dX13_fit_120 (zin_ok b4) ?_
      refine zs_if_eq (tgt := 148) hX dX13_fit_121 (by decide) (fun c5 => ?_) (fun c5 => ?_)
      · rw [if_pos c5] at h
        exact pj_fit_148 hX hc hk103 h
      · rw [if_neg c5] at h
        refine zs_aload_n hX dX13_fit_124 rfl rfl ?_
        refine zg_fails hX dX13_fit_125 ?_
        refine zs_iload hX dX13_fit_128 rfl ?_
        obtain ⟨b6, h⟩ := zgd_e h
        refine zl_fails hX dX13_fit_130 (zin_ok b6) ?_
        refine zs_if_ne (tgt := 137) hX dX13_fit_131 (by decide) (fun c7 => ?_) (fun c7 => ?_)
        · rw [if_neg c7] at h
          refine zs_aload_n hX dX13_fit_137 rfl rfl ?_
          refine zg_alive hX dX13_fit_138 ?_
          refine zs_iload hX dX13_fit_141 rfl ?_
          refine zs_iconst (v := 0) hX dX13_fit_143 (by decide) ?_
          obtain ⟨b8, h⟩ := zgd_e h
          obtain ⟨s9, e10, h⟩ := zlet_e h
          refine zt_alive hX dX13_fit_144 (zin_ok b8) ?_
          rw [← e10]
          refine zs_iconst (v := 1) hX dX13_fit_145 (by decide) ?_
          refine zs_istore hX dX13_fit_146 (by decide) rfl ?_
          dsimp only [List.set]
          exact pj_fit_148 hX hc hk103 h
        · rw [if_pos c7] at h
          refine zs_goto (tgt := 148) hX dX13_fit_134 (by decide) ?_
          exact pj_fit_148 hX hc hk103 h
set_option maxHeartbeats 4000000 in
theorem pj_fit_92 {h0 : Nat} {qs : List Nat} {ks : Nat → Nat} {n : Nat} {call : zCl} {kc : Nat → List Value → zSt → (Option Value → zSt → Prop) → Prop} {v : Option Value × zSt} {X : Nat → zLv → List Value → zSt → Prop} (hX : zSem cX13_fit 6 (some .boolean) h0 qs ks kc (fun r u => (r, u) = v) X) (hc : ∀ j av s w, call j av s = some w → kc j av s (fun r u => (r, u) = w)) {x3 : Int32} {σ : zSt} (h : j_fit_92 n call h0 qs ks x3 σ = some v) : X 92 [some (.ref h0), none, none, some (.int x3), none, none] [] σ := by
  rw [j_fit_92] at h
  refine zs_iconst (v := 0) hX dX13_fit_92 (by decide) ?_
  refine zs_istore hX dX13_fit_93 (by decide) rfl ?_
  dsimp only [List.set]
  refine zs_aload_n hX dX13_fit_95 rfl rfl ?_
  refine zg_caseFrom hX dX13_fit_96 ?_
  refine zs_iload_n hX dX13_fit_99 rfl rfl ?_
  obtain ⟨b1, h⟩ := zgd_e h
  refine zl_caseFrom hX dX13_fit_100 (zin_ok b1) ?_
  refine zs_istore hX dX13_fit_101 (by decide) rfl ?_
  dsimp only [List.set]
  exact pl_fit_103 hX hc n _ _ _ _ h
set_option maxHeartbeats 4000000 in
theorem pl_fit_38 {h0 : Nat} {qs : List Nat} {ks : Nat → Nat} {n : Nat} {call : zCl} {kc : Nat → List Value → zSt → (Option Value → zSt → Prop) → Prop} {v : Option Value × zSt} {X : Nat → zLv → List Value → zSt → Prop} (hX : zSem cX13_fit 6 (some .boolean) h0 qs ks kc (fun r u => (r, u) = v) X) (hc : ∀ j av s w, call j av s = some w → kc j av s (fun r u => (r, u) = w)) : ∀ (f : Nat) (x1 : Int32) (x3 : Int32) (x4 : Int32) (σ : zSt), l_fit_38 n call h0 qs ks f x1 x3 x4 σ = some v → X 38 [some (.ref h0), some (.int x1), none, some (.int x3), some (.int x4), none] [] σ := by
  intro f
  induction f with
  | zero => intro x1 x3 x4 σ h; cases h
  | succ f hk38 =>
    intro x1 x3 x4 σ h
    rw [l_fit_38] at h
    refine zs_iload hX dX13_fit_38 rfl ?_
    refine zs_aload_n hX dX13_fit_40 rfl rfl ?_
    refine zg_caseTo hX dX13_fit_41 ?_
    refine zs_iload_n hX dX13_fit_44 rfl rfl ?_
    obtain ⟨b1, h⟩ := zgd_e h
    refine zl_caseTo hX dX13_fit_45 (zin_ok b1) ?_
    refine zs_icmp_ge (tgt := 63) hX dX13_fit_46 (by decide) (fun c2 => ?_) (fun c2 => ?_)
    · rw [if_pos c2] at h
      refine zs_aload_n hX dX13_fit_63 rfl rfl ?_
      refine zs_aload_n hX dX13_fit_64 rfl rfl ?_
      refine zg_fitEnv hX dX13_fit_65 ?_
      refine zs_iload_n hX dX13_fit_68 rfl rfl ?_
      obtain ⟨b3, h⟩ := zgd_e h
      refine zl_fitEnv hX dX13_fit_69 (zin_ok b3) ?_
      refine zs_aload_n hX dX13_fit_70 rfl rfl ?_
      refine zg_fitGone hX dX13_fit_71 ?_
      refine zs_iload_n hX dX13_fit_74 rfl rfl ?_
      obtain ⟨b4, h⟩ := zgd_e h
      refine zl_fitGone hX dX13_fit_75 (zin_ok b4) ?_
      refine zs_aload_n hX dX13_fit_76 rfl rfl ?_
      refine zg_fitLeft hX dX13_fit_77 ?_
      refine zs_iload_n hX dX13_fit_80 rfl rfl ?_
      obtain ⟨b5, h⟩ := zgd_e h
      refine zl_fitLeft hX dX13_fit_81 (zin_ok b5) ?_
      obtain ⟨r8, s6, e7, h⟩ := zci_e h
      refine zc_under hX dX13_fit_82 (Nat.le_of_ble_eq_true rfl) (hc _ _ _ _ e7) (fun r9 u9 h9 => ?_)
      cases h9
      refine zs_if_eq (tgt := 92) hX dX13_fit_85 (by decide) (fun c9 => ?_) (fun c9 => ?_)
      · rw [if_pos c9] at h
        refine zs_weak hX (lw := [some (.ref h0), none, none, some (.int x3), none, none]) ⟨rfl, rfl, trivial⟩ ?_
        exact pj_fit_92 hX hc h
      · rw [if_neg c9] at h
        refine zs_aload_n hX dX13_fit_88 rfl rfl ?_
        obtain ⟨s10, e11, h⟩ := zcv_e h
        refine zc_go hX dX13_fit_89 (Nat.le_of_ble_eq_true rfl) (hc _ _ _ _ e11) (fun u9 h9 => ?_)
        cases h9
        refine zs_weak hX (lw := [some (.ref h0), none, none, some (.int x3), none, none]) ⟨rfl, rfl, trivial⟩ ?_
        exact pj_fit_92 hX hc h
    · rw [if_neg c2] at h
      refine zs_aload_n hX dX13_fit_49 rfl rfl ?_
      refine zg_fails hX dX13_fit_50 ?_
      refine zs_iload hX dX13_fit_53 rfl ?_
      refine zs_iconst (v := 0) hX dX13_fit_55 (by decide) ?_
      obtain ⟨b12, h⟩ := zgd_e h
      obtain ⟨s13, e14, h⟩ := zlet_e h
      refine zt_fails hX dX13_fit_56 (zin_ok b12) ?_
      rw [← e14]
      refine zs_iinc (v := x4 + 1) hX dX13_fit_57 rfl rfl (by decide) rfl ?_
      dsimp only [List.set]
      refine zs_goto (tgt := 38) hX dX13_fit_60 (by decide) ?_
      exact hk38 _ _ _ _ h
set_option maxHeartbeats 4000000 in
theorem pb_fit {h0 : Nat} {qs : List Nat} {ks : Nat → Nat} {n : Nat} {call : zCl} {kc : Nat → List Value → zSt → (Option Value → zSt → Prop) → Prop} {v : Option Value × zSt} {X : Nat → zLv → List Value → zSt → Prop} (hX : zSem cX13_fit 6 (some .boolean) h0 qs ks kc (fun r u => (r, u) = v) X) (hc : ∀ j av s w, call j av s = some w → kc j av s (fun r u => (r, u) = w)) {x1 : Int32} {σ : zSt} (h : b_fit n call h0 qs ks x1 σ = some v) : X 0 [some (.ref h0), some (.int x1), none, none, none, none] [] σ := by
  rw [b_fit] at h
  refine zs_aload_n hX dX13_fit_0 rfl rfl ?_
  refine zg_rSaid hX dX13_fit_1 ?_
  refine zs_aload_n hX dX13_fit_4 rfl rfl ?_
  refine zg_fitRight hX dX13_fit_5 ?_
  refine zs_iload_n hX dX13_fit_8 rfl rfl ?_
  obtain ⟨b1, h⟩ := zgd_e h
  refine zl_fitRight hX dX13_fit_9 (zin_ok b1) ?_
  obtain ⟨b2, h⟩ := zgd_e h
  refine zl_rSaid hX dX13_fit_10 (zin_ok b2) ?_
  refine zs_istore_n hX dX13_fit_11 rfl (by decide) rfl ?_
  dsimp only [List.set]
  refine zs_aload_n hX dX13_fit_12 rfl rfl ?_
  refine zg_saidCase hX dX13_fit_13 ?_
  refine zs_iload_n hX dX13_fit_16 rfl rfl ?_
  obtain ⟨b3, h⟩ := zgd_e h
  refine zl_saidCase hX dX13_fit_17 (zin_ok b3) ?_
  refine zs_istore_n hX dX13_fit_18 rfl (by decide) rfl ?_
  dsimp only [List.set]
  refine zs_iload_n hX dX13_fit_19 rfl rfl ?_
  refine zs_if_ge (tgt := 25) hX dX13_fit_20 (by decide) (fun c4 => ?_) (fun c4 => ?_)
  · rw [if_pos c4] at h
    refine zs_aload_n hX dX13_fit_25 rfl rfl ?_
    refine zs_iload_n hX dX13_fit_26 rfl rfl ?_
    obtain ⟨s5, e6, h⟩ := zlet_e h
    refine zp_askedSaid hX dX13_fit_27 ?_
    rw [← e6]
    refine zs_aload_n hX dX13_fit_30 rfl rfl ?_
    refine zg_caseFrom hX dX13_fit_31 ?_
    refine zs_iload_n hX dX13_fit_34 rfl rfl ?_
    obtain ⟨b7, h⟩ := zgd_e h
    refine zl_caseFrom hX dX13_fit_35 (zin_ok b7) ?_
    refine zs_istore hX dX13_fit_36 (by decide) rfl ?_
    dsimp only [List.set]
    refine zs_weak hX (lw := [some (.ref h0), some (.int x1), none, some (.int (σ.2.2.1 47 ((σ.2.2.1 43 ((σ.2.2.1 76 (x1).toNatClampNeg)).toNatClampNeg)).toNatClampNeg)), some (.int (s5.2.2.1 61 ((σ.2.2.1 47 ((σ.2.2.1 43 ((σ.2.2.1 76 (x1).toNatClampNeg)).toNatClampNeg)).toNatClampNeg)).toNatClampNeg)), none]) ⟨rfl, rfl, rfl, rfl, trivial⟩ ?_
    exact pl_fit_38 hX hc n _ _ _ _ h
  · rw [if_neg c4] at h
    refine zs_iconst (v := 0) hX dX13_fit_23 (by decide) ?_
    exact zs_zret hX dX13_fit_24 rfl (by decide) (Option.some.inj h)
def j_isSo_219 (n : Nat) (call : zCl) (h0 : Nat) (qs : List Nat) (ks : Nat → Nat) (σ : zSt) : zRs :=
  if (σ.1 154) = 0 then
    some (some (.int 1), σ)
  else
    some (some (.int 0), σ)
def j_isSo_210 (n : Nat) (call : zCl) (h0 : Nat) (qs : List Nat) (ks : Nat → Nat) (x4 : Int32) (σ : zSt) : zRs :=
  if x4 = 0 then
    j_isSo_219 n call h0 qs ks σ
  else
    zcv (call 101 [.ref h0] σ) fun s2 =>
    j_isSo_219 n call h0 qs ks s2
def j_isSo_160 (n : Nat) (call : zCl) (h0 : Nat) (qs : List Nat) (ks : Nat → Nat) (x1 : Int32) (x4 : Int32) (σ : zSt) : zRs :=
  zgd (zin x1 2100) (
  if (σ.2.2.1 79 (x1).toNatClampNeg) = 1 then
    zcv (call 97 [.ref h0, .int 1, .long 0] σ) fun s9 =>
    zcv (call 97 [.ref h0, .int (-1), .long 0] s9) fun s11 =>
    j_isSo_210 n call h0 qs ks x4 s11
  else
    zgd (zin x1 2100) (
    if (σ.2.2.1 79 (x1).toNatClampNeg) = 2 then
      zcv (call 97 [.ref h0, .int 1, .long 1] σ) fun s7 =>
      j_isSo_210 n call h0 qs ks x4 s7
    else
      zcv (call 97 [.ref h0, .int (-1), .long 0] σ) fun s5 =>
      j_isSo_210 n call h0 qs ks x4 s5))
def j_isSo_106 (n : Nat) (call : zCl) (h0 : Nat) (qs : List Nat) (ks : Nat → Nat) (x1 : Int32) (x2 : Int32) (x3 : Int32) (σ : zSt) : zRs :=
  zci (call 56 [.ref h0] σ) fun r3 s1 =>
  if r3 = 0 then
    some (some (.int 0), s1)
  else
    zci (call 107 [.ref h0, .int x2, .int x3, .int (-1)] s1) fun r7 s5 =>
    zcv (call 53 [.ref h0] s5) fun s8 =>
    zgd (zin x1 2100) (
    zcv (call 55 [.ref h0, .int (s8.2.2.1 80 (x1).toNatClampNeg), .int 1] s8) fun s11 =>
    zgd (zin x1 2100) (
    if (s11.2.2.1 79 (x1).toNatClampNeg) = 3 then
      zgd (zin x1 2100) (
      zcv (call 54 [.ref h0, .int (s11.2.2.1 81 (x1).toNatClampNeg), .int (-1)] s11) fun s16 =>
      j_isSo_160 n call h0 qs ks x1 r7 s16)
    else
      j_isSo_160 n call h0 qs ks x1 r7 s11))
def j_isSo_57 (n : Nat) (call : zCl) (h0 : Nat) (qs : List Nat) (ks : Nat → Nat) (σ : zSt) : zRs :=
  if (σ.1 154) = 0 then
    some (some (.int 1), σ)
  else
    some (some (.int 0), σ)
def b_isSo (n : Nat) (call : zCl) (h0 : Nat) (qs : List Nat) (ks : Nat → Nat) (x1 : Int32) (σ : zSt) : zRs :=
  zlet (zI σ 155 (-1)) fun s1 =>
  zgd (zin x1 2100) (
  zgd (zin x1 2100) (
  zgd (zin x1 2100) (
  if (s1.2.2.1 79 (x1).toNatClampNeg) = 0 then
    zgd (zin x1 2100) (
    zci (call 74 [.ref h0, .int (s1.2.2.1 83 (x1).toNatClampNeg), .int (s1.2.2.1 80 (x1).toNatClampNeg), .int 0] s1) fun r20 s18 =>
    zci (call 107 [.ref h0, .int (s1.2.2.1 82 (x1).toNatClampNeg), .int r20, .int (-1)] s18) fun r23 s21 =>
    if r23 = 0 then
      j_isSo_57 n call h0 qs ks s21
    else
      zcv (call 101 [.ref h0] s21) fun s25 =>
      j_isSo_57 n call h0 qs ks s25)
  else
    zcv (call 53 [.ref h0] s1) fun s7 =>
    zgd (zin x1 2100) (
    zcv (call 55 [.ref h0, .int (s7.2.2.1 80 (x1).toNatClampNeg), .int 1] s7) fun s10 =>
    zgd (zin x1 2100) (
    if (s10.2.2.1 79 (x1).toNatClampNeg) = 3 then
      zgd (zin x1 2100) (
      zcv (call 54 [.ref h0, .int (s10.2.2.1 81 (x1).toNatClampNeg), .int (-1)] s10) fun s15 =>
      j_isSo_106 n call h0 qs ks x1 (s1.2.2.1 82 (x1).toNatClampNeg) (s1.2.2.1 83 (x1).toNatClampNeg) s15)
    else
      j_isSo_106 n call h0 qs ks x1 (s1.2.2.1 82 (x1).toNatClampNeg) (s1.2.2.1 83 (x1).toNatClampNeg) s10)))))
set_option maxHeartbeats 4000000 in
theorem pj_isSo_219 {h0 : Nat} {qs : List Nat} {ks : Nat → Nat} {n : Nat} {call : zCl} {kc : Nat → List Value → zSt → (Option Value → zSt → Prop) → Prop} {v : Option Value × zSt} {X : Nat → zLv → List Value → zSt → Prop} (hX : zSem cX13_isSo 5 (some .boolean) h0 qs ks kc (fun r u => (r, u) = v) X) (hc : ∀ j av s w, call j av s = some w → kc j av s (fun r u => (r, u) = w)) {σ : zSt} (h : j_isSo_219 n call h0 qs ks σ = some v) : X 219 [some (.ref h0), none, none, none, none] [] σ := by
  rw [j_isSo_219] at h
  refine zs_aload_n hX dX13_isSo_219 rfl rfl ?_
  refine zg_found hX dX13_isSo_220 ?_
  refine zs_if_ne (tgt := 230) hX dX13_isSo_223 (by decide) (fun c1 => ?_) (fun c1 => ?_)
  · rw [if_neg c1] at h
    refine zs_iconst (v := 0) hX dX13_isSo_230 (by decide) ?_
    exact zs_zret hX dX13_isSo_231 rfl (by decide) (Option.some.inj h)
  · rw [if_pos c1] at h
    refine zs_iconst (v := 1) hX dX13_isSo_226 (by decide) ?_
    refine zs_goto (tgt := 231) hX dX13_isSo_227 (by decide) ?_
    exact zs_zret hX dX13_isSo_231 rfl (by decide) (Option.some.inj h)
set_option maxHeartbeats 4000000 in
theorem pj_isSo_210 {h0 : Nat} {qs : List Nat} {ks : Nat → Nat} {n : Nat} {call : zCl} {kc : Nat → List Value → zSt → (Option Value → zSt → Prop) → Prop} {v : Option Value × zSt} {X : Nat → zLv → List Value → zSt → Prop} (hX : zSem cX13_isSo 5 (some .boolean) h0 qs ks kc (fun r u => (r, u) = v) X) (hc : ∀ j av s w, call j av s = some w → kc j av s (fun r u => (r, u) = w)) {x4 : Int32} {σ : zSt} (h : j_isSo_210 n call h0 qs ks x4 σ = some v) : X 210 [some (.ref h0), none, none, none, some (.int x4)] [] σ := by
  rw [j_isSo_210] at h
  refine zs_iload hX dX13_isSo_210 rfl ?_
  refine zs_if_eq (tgt := 219) hX dX13_isSo_212 (by decide) (fun c1 => ?_) (fun c1 => ?_)
  · rw [if_pos c1] at h
    refine zs_weak hX (lw := [some (.ref h0), none, none, none, none]) ⟨rfl, trivial⟩ ?_
    exact pj_isSo_219 hX hc h
  · rw [if_neg c1] at h
    refine zs_aload_n hX dX13_isSo_215 rfl rfl ?_
    obtain ⟨s2, e3, h⟩ := zcv_e h
    refine zc_go hX dX13_isSo_216 (Nat.le_of_ble_eq_true rfl) (hc _ _ _ _ e3) (fun u9 h9 => ?_)
    cases h9
    refine zs_weak hX (lw := [some (.ref h0), none, none, none, none]) ⟨rfl, trivial⟩ ?_
    exact pj_isSo_219 hX hc h
set_option maxHeartbeats 4000000 in
theorem pj_isSo_160 {h0 : Nat} {qs : List Nat} {ks : Nat → Nat} {n : Nat} {call : zCl} {kc : Nat → List Value → zSt → (Option Value → zSt → Prop) → Prop} {v : Option Value × zSt} {X : Nat → zLv → List Value → zSt → Prop} (hX : zSem cX13_isSo 5 (some .boolean) h0 qs ks kc (fun r u => (r, u) = v) X) (hc : ∀ j av s w, call j av s = some w → kc j av s (fun r u => (r, u) = w)) {x1 : Int32} {x4 : Int32} {σ : zSt} (h : j_isSo_160 n call h0 qs ks x1 x4 σ = some v) : X 160 [some (.ref h0), some (.int x1), none, none, some (.int x4)] [] σ := by
  rw [j_isSo_160] at h
  refine zs_aload_n hX dX13_isSo_160 rfl rfl ?_
  refine zg_soKind hX dX13_isSo_161 ?_
  refine zs_iload_n hX dX13_isSo_164 rfl rfl ?_
  obtain ⟨b1, h⟩ := zgd_e h
  refine zl_soKind hX dX13_isSo_165 (zin_ok b1) ?_
  refine zs_iconst (v := 1) hX dX13_isSo_166 (by decide) ?_
  refine zs_icmp_ne (tgt := 185) hX dX13_isSo_167 (by decide) (fun c2 => ?_) (fun c2 => ?_)
  · rw [if_neg c2] at h
    refine zs_aload_n hX dX13_isSo_185 rfl rfl ?_
    refine zg_soKind hX dX13_isSo_186 ?_
    refine zs_iload_n hX dX13_isSo_189 rfl rfl ?_
    obtain ⟨b3, h⟩ := zgd_e h
    refine zl_soKind hX dX13_isSo_190 (zin_ok b3) ?_
    refine zs_iconst (v := 2) hX dX13_isSo_191 (by decide) ?_
    refine zs_icmp_ne (tgt := 204) hX dX13_isSo_192 (by decide) (fun c4 => ?_) (fun c4 => ?_)
    · rw [if_neg c4] at h
      refine zs_aload_n hX dX13_isSo_204 rfl rfl ?_
      refine zs_iconst (v := (-1)) hX dX13_isSo_205 (by decide) ?_
      refine zs_lconst (v := 0) hX dX13_isSo_206 (by decide) ?_
      obtain ⟨s5, e6, h⟩ := zcv_e h
      refine zc_lineWay hX dX13_isSo_207 (Nat.le_of_ble_eq_true rfl) (hc _ _ _ _ e6) (fun u9 h9 => ?_)
      cases h9
      refine zs_weak hX (lw := [some (.ref h0), none, none, none, some (.int x4)]) ⟨rfl, rfl, trivial⟩ ?_
      exact pj_isSo_210 hX hc h
    · rw [if_pos c4] at h
      refine zs_aload_n hX dX13_isSo_195 rfl rfl ?_
      refine zs_iconst (v := 1) hX dX13_isSo_196 (by decide) ?_
      refine zs_lconst (v := 1) hX dX13_isSo_197 (by decide) ?_
      obtain ⟨s7, e8, h⟩ := zcv_e h
      refine zc_lineWay hX dX13_isSo_198 (Nat.le_of_ble_eq_true rfl) (hc _ _ _ _ e8) (fun u9 h9 => ?_)
      cases h9
      refine zs_goto (tgt := 210) hX dX13_isSo_201 (by decide) ?_
      refine zs_weak hX (lw := [some (.ref h0), none, none, none, some (.int x4)]) ⟨rfl, rfl, trivial⟩ ?_
      exact pj_isSo_210 hX hc h
  · rw [if_pos c2] at h
    refine zs_aload_n hX dX13_isSo_170 rfl rfl ?_
    refine zs_iconst (v := 1) hX dX13_isSo_171 (by decide) ?_
    refine zs_lconst (v := 0) hX dX13_isSo_172 (by decide) ?_
    obtain ⟨s9, e10, h⟩ := zcv_e h
    refine zc_lineWay hX dX13_isSo_173 (Nat.le_of_ble_eq_true rfl) (hc _ _ _ _ e10) (fun u9 h9 => ?_)
    cases h9
    refine zs_aload_n hX dX13_isSo_176 rfl rfl ?_
    refine zs_iconst (v := (-1)) hX dX13_isSo_177 (by decide) ?_
    refine zs_lconst (v := 0) hX dX13_isSo_178 (by decide) ?_
    obtain ⟨s11, e12, h⟩ := zcv_e h
    refine zc_lineWay hX dX13_isSo_179 (Nat.le_of_ble_eq_true rfl) (hc _ _ _ _ e12) (fun u9 h9 => ?_)
    cases h9
    refine zs_goto (tgt := 210) hX dX13_isSo_182 (by decide) ?_
    refine zs_weak hX (lw := [some (.ref h0), none, none, none, some (.int x4)]) ⟨rfl, rfl, trivial⟩ ?_
    exact pj_isSo_210 hX hc h
set_option maxHeartbeats 4000000 in
theorem pj_isSo_106 {h0 : Nat} {qs : List Nat} {ks : Nat → Nat} {n : Nat} {call : zCl} {kc : Nat → List Value → zSt → (Option Value → zSt → Prop) → Prop} {v : Option Value × zSt} {X : Nat → zLv → List Value → zSt → Prop} (hX : zSem cX13_isSo 5 (some .boolean) h0 qs ks kc (fun r u => (r, u) = v) X) (hc : ∀ j av s w, call j av s = some w → kc j av s (fun r u => (r, u) = w)) {x1 : Int32} {x2 : Int32} {x3 : Int32} {σ : zSt} (h : j_isSo_106 n call h0 qs ks x1 x2 x3 σ = some v) : X 106 [some (.ref h0), some (.int x1), some (.int x2), some (.int x3), none] [] σ := by
  rw [j_isSo_106] at h
  refine zs_aload_n hX dX13_isSo_106 rfl rfl ?_
  obtain ⟨r3, s1, e2, h⟩ := zci_e h
  refine zc_isForm hX dX13_isSo_107 (Nat.le_of_ble_eq_true rfl) (hc _ _ _ _ e2) (fun r9 u9 h9 => ?_)
  cases h9
  refine zs_if_ne (tgt := 115) hX dX13_isSo_110 (by decide) (fun c4 => ?_) (fun c4 => ?_)
  · rw [if_neg c4] at h
    refine zs_aload_n hX dX13_isSo_115 rfl rfl ?_
    refine zs_iload_n hX dX13_isSo_116 rfl rfl ?_
    refine zs_iload_n hX dX13_isSo_117 rfl rfl ?_
    refine zs_iconst (v := (-1)) hX dX13_isSo_118 (by decide) ?_
    obtain ⟨r7, s5, e6, h⟩ := zci_e h
    refine zc_under hX dX13_isSo_119 (Nat.le_of_ble_eq_true rfl) (hc _ _ _ _ e6) (fun r9 u9 h9 => ?_)
    cases h9
    refine zs_istore hX dX13_isSo_122 (by decide) rfl ?_
    dsimp only [List.set]
    refine zs_aload_n hX dX13_isSo_124 rfl rfl ?_
    obtain ⟨s8, e9, h⟩ := zcv_e h
    refine zc_clearLine hX dX13_isSo_125 (Nat.le_of_ble_eq_true rfl) (hc _ _ _ _ e9) (fun u9 h9 => ?_)
    cases h9
    refine zs_aload_n hX dX13_isSo_128 rfl rfl ?_
    refine zs_aload_n hX dX13_isSo_129 rfl rfl ?_
    refine zg_soWhat hX dX13_isSo_130 ?_
    refine zs_iload_n hX dX13_isSo_133 rfl rfl ?_
    obtain ⟨b10, h⟩ := zgd_e h
    refine zl_soWhat hX dX13_isSo_134 (zin_ok b10) ?_
    refine zs_iconst (v := 1) hX dX13_isSo_135 (by decide) ?_
    obtain ⟨s11, e12, h⟩ := zcv_e h
    refine zc_addSum hX dX13_isSo_136 (Nat.le_of_ble_eq_true rfl) (hc _ _ _ _ e12) (fun u9 h9 => ?_)
    cases h9
    refine zs_aload_n hX dX13_isSo_139 rfl rfl ?_
    refine zg_soKind hX dX13_isSo_140 ?_
    refine zs_iload_n hX dX13_isSo_143 rfl rfl ?_
    obtain ⟨b13, h⟩ := zgd_e h
    refine zl_soKind hX dX13_isSo_144 (zin_ok b13) ?_
    refine zs_iconst (v := 3) hX dX13_isSo_145 (by decide) ?_
    refine zs_icmp_ne (tgt := 160) hX dX13_isSo_146 (by decide) (fun c14 => ?_) (fun c14 => ?_)
    · rw [if_neg c14] at h
      refine zs_weak hX (lw := [some (.ref h0), some (.int x1), none, none, some (.int r7)]) ⟨rfl, rfl, rfl, trivial⟩ ?_
      exact pj_isSo_160 hX hc h
    · rw [if_pos c14] at h
      refine zs_aload_n hX dX13_isSo_149 rfl rfl ?_
      refine zs_aload_n hX dX13_isSo_150 rfl rfl ?_
      refine zg_soName hX dX13_isSo_151 ?_
      refine zs_iload_n hX dX13_isSo_154 rfl rfl ?_
      obtain ⟨b15, h⟩ := zgd_e h
      refine zl_soName hX dX13_isSo_155 (zin_ok b15) ?_
      refine zs_iconst (v := (-1)) hX dX13_isSo_156 (by decide) ?_
      obtain ⟨s16, e17, h⟩ := zcv_e h
      refine zc_addName hX dX13_isSo_157 (Nat.le_of_ble_eq_true rfl) (hc _ _ _ _ e17) (fun u9 h9 => ?_)
      cases h9
      refine zs_weak hX (lw := [some (.ref h0), some (.int x1), none, none, some (.int r7)]) ⟨rfl, rfl, rfl, trivial⟩ ?_
      exact pj_isSo_160 hX hc h
  · rw [if_pos c4] at h
    refine zs_iconst (v := 0) hX dX13_isSo_113 (by decide) ?_
    exact zs_zret hX dX13_isSo_114 rfl (by decide) (Option.some.inj h)
set_option maxHeartbeats 4000000 in
theorem pj_isSo_57 {h0 : Nat} {qs : List Nat} {ks : Nat → Nat} {n : Nat} {call : zCl} {kc : Nat → List Value → zSt → (Option Value → zSt → Prop) → Prop} {v : Option Value × zSt} {X : Nat → zLv → List Value → zSt → Prop} (hX : zSem cX13_isSo 5 (some .boolean) h0 qs ks kc (fun r u => (r, u) = v) X) (hc : ∀ j av s w, call j av s = some w → kc j av s (fun r u => (r, u) = w)) {σ : zSt} (h : j_isSo_57 n call h0 qs ks σ = some v) : X 57 [some (.ref h0), none, none, none, none] [] σ := by
  rw [j_isSo_57] at h
  refine zs_aload_n hX dX13_isSo_57 rfl rfl ?_
  refine zg_found hX dX13_isSo_58 ?_
  refine zs_if_ne (tgt := 68) hX dX13_isSo_61 (by decide) (fun c1 => ?_) (fun c1 => ?_)
  · rw [if_neg c1] at h
    refine zs_iconst (v := 0) hX dX13_isSo_68 (by decide) ?_
    exact zs_zret hX dX13_isSo_69 rfl (by decide) (Option.some.inj h)
  · rw [if_pos c1] at h
    refine zs_iconst (v := 1) hX dX13_isSo_64 (by decide) ?_
    refine zs_goto (tgt := 69) hX dX13_isSo_65 (by decide) ?_
    exact zs_zret hX dX13_isSo_69 rfl (by decide) (Option.some.inj h)
set_option maxHeartbeats 4000000 in
theorem pb_isSo {h0 : Nat} {qs : List Nat} {ks : Nat → Nat} {n : Nat} {call : zCl} {kc : Nat → List Value → zSt → (Option Value → zSt → Prop) → Prop} {v : Option Value × zSt} {X : Nat → zLv → List Value → zSt → Prop} (hX : zSem cX13_isSo 5 (some .boolean) h0 qs ks kc (fun r u => (r, u) = v) X) (hc : ∀ j av s w, call j av s = some w → kc j av s (fun r u => (r, u) = w)) {x1 : Int32} {σ : zSt} (h : b_isSo n call h0 qs ks x1 σ = some v) : X 0 [some (.ref h0), some (.int x1), none, none, none] [] σ := by
  rw [b_isSo] at h
  refine zs_aload_n hX dX13_isSo_0 rfl rfl ?_
  refine zs_iconst (v := (-1)) hX dX13_isSo_1 (by decide) ?_
  obtain ⟨s1, e2, h⟩ := zlet_e h
  refine zp_askedSaid hX dX13_isSo_2 ?_
  rw [← e2]
  refine zs_aload_n hX dX13_isSo_5 rfl rfl ?_
  refine zg_soEnv hX dX13_isSo_6 ?_
  refine zs_iload_n hX dX13_isSo_9 rfl rfl ?_
  obtain ⟨b3, h⟩ := zgd_e h
  refine zl_soEnv hX dX13_isSo_10 (zin_ok b3) ?_
  refine zs_istore_n hX dX13_isSo_11 rfl (by decide) rfl ?_
  dsimp only [List.set]
  refine zs_aload_n hX dX13_isSo_12 rfl rfl ?_
  refine zg_soGone hX dX13_isSo_13 ?_
  refine zs_iload_n hX dX13_isSo_16 rfl rfl ?_
  obtain ⟨b4, h⟩ := zgd_e h
  refine zl_soGone hX dX13_isSo_17 (zin_ok b4) ?_
  refine zs_istore_n hX dX13_isSo_18 rfl (by decide) rfl ?_
  dsimp only [List.set]
  refine zs_aload_n hX dX13_isSo_19 rfl rfl ?_
  refine zg_soKind hX dX13_isSo_20 ?_
  refine zs_iload_n hX dX13_isSo_23 rfl rfl ?_
  obtain ⟨b5, h⟩ := zgd_e h
  refine zl_soKind hX dX13_isSo_24 (zin_ok b5) ?_
  refine zs_if_ne (tgt := 70) hX dX13_isSo_25 (by decide) (fun c6 => ?_) (fun c6 => ?_)
  · rw [if_neg c6] at h
    refine zs_aload_n hX dX13_isSo_70 rfl rfl ?_
    obtain ⟨s7, e8, h⟩ := zcv_e h
    refine zc_clearLine hX dX13_isSo_71 (Nat.le_of_ble_eq_true rfl) (hc _ _ _ _ e8) (fun u9 h9 => ?_)
    cases h9
    refine zs_aload_n hX dX13_isSo_74 rfl rfl ?_
    refine zs_aload_n hX dX13_isSo_75 rfl rfl ?_
    refine zg_soWhat hX dX13_isSo_76 ?_
    refine zs_iload_n hX dX13_isSo_79 rfl rfl ?_
    obtain ⟨b9, h⟩ := zgd_e h
    refine zl_soWhat hX dX13_isSo_80 (zin_ok b9) ?_
    refine zs_iconst (v := 1) hX dX13_isSo_81 (by decide) ?_
    obtain ⟨s10, e11, h⟩ := zcv_e h
    refine zc_addSum hX dX13_isSo_82 (Nat.le_of_ble_eq_true rfl) (hc _ _ _ _ e11) (fun u9 h9 => ?_)
    cases h9
    refine zs_aload_n hX dX13_isSo_85 rfl rfl ?_
    refine zg_soKind hX dX13_isSo_86 ?_
    refine zs_iload_n hX dX13_isSo_89 rfl rfl ?_
    obtain ⟨b12, h⟩ := zgd_e h
    refine zl_soKind hX dX13_isSo_90 (zin_ok b12) ?_
    refine zs_iconst (v := 3) hX dX13_isSo_91 (by decide) ?_
    refine zs_icmp_ne (tgt := 106) hX dX13_isSo_92 (by decide) (fun c13 => ?_) (fun c13 => ?_)
    · rw [if_neg c13] at h
      exact pj_isSo_106 hX hc h
    · rw [if_pos c13] at h
      refine zs_aload_n hX dX13_isSo_95 rfl rfl ?_
      refine zs_aload_n hX dX13_isSo_96 rfl rfl ?_
      refine zg_soName hX dX13_isSo_97 ?_
      refine zs_iload_n hX dX13_isSo_100 rfl rfl ?_
      obtain ⟨b14, h⟩ := zgd_e h
      refine zl_soName hX dX13_isSo_101 (zin_ok b14) ?_
      refine zs_iconst (v := (-1)) hX dX13_isSo_102 (by decide) ?_
      obtain ⟨s15, e16, h⟩ := zcv_e h
      refine zc_addName hX dX13_isSo_103 (Nat.le_of_ble_eq_true rfl) (hc _ _ _ _ e16) (fun u9 h9 => ?_)
      cases h9
      exact pj_isSo_106 hX hc h
  · rw [if_pos c6] at h
    refine zs_aload_n hX dX13_isSo_28 rfl rfl ?_
    refine zs_iload_n hX dX13_isSo_29 rfl rfl ?_
    refine zs_aload_n hX dX13_isSo_30 rfl rfl ?_
    refine zg_soWhat hX dX13_isSo_31 ?_
    refine zs_iload_n hX dX13_isSo_34 rfl rfl ?_
    obtain ⟨b17, h⟩ := zgd_e h
    refine zl_soWhat hX dX13_isSo_35 (zin_ok b17) ?_
    refine zs_iconst (v := 0) hX dX13_isSo_36 (by decide) ?_
    obtain ⟨r20, s18, e19, h⟩ := zci_e h
    refine zc_gone hX dX13_isSo_37 (Nat.le_of_ble_eq_true rfl) (hc _ _ _ _ e19) (fun r9 u9 h9 => ?_)
    cases h9
    refine zs_istore hX dX13_isSo_40 (by decide) rfl ?_
    dsimp only [List.set]
    refine zs_aload_n hX dX13_isSo_42 rfl rfl ?_
    refine zs_iload_n hX dX13_isSo_43 rfl rfl ?_
    refine zs_iload hX dX13_isSo_44 rfl ?_
    refine zs_iconst (v := (-1)) hX dX13_isSo_46 (by decide) ?_
    obtain ⟨r23, s21, e22, h⟩ := zci_e h
    refine zc_under hX dX13_isSo_47 (Nat.le_of_ble_eq_true rfl) (hc _ _ _ _ e22) (fun r9 u9 h9 => ?_)
    cases h9
    refine zs_if_eq (tgt := 57) hX dX13_isSo_50 (by decide) (fun c24 => ?_) (fun c24 => ?_)
    · rw [if_pos c24] at h
      refine zs_weak hX (lw := [some (.ref h0), none, none, none, none]) ⟨rfl, trivial⟩ ?_
      exact pj_isSo_57 hX hc h
    · rw [if_neg c24] at h
      refine zs_aload_n hX dX13_isSo_53 rfl rfl ?_
      obtain ⟨s25, e26, h⟩ := zcv_e h
      refine zc_go hX dX13_isSo_54 (Nat.le_of_ble_eq_true rfl) (hc _ _ _ _ e26) (fun u9 h9 => ?_)
      cases h9
      refine zs_weak hX (lw := [some (.ref h0), none, none, none, none]) ⟨rfl, trivial⟩ ?_
      exact pj_isSo_57 hX hc h
def j_decide_282 (n : Nat) (call : zCl) (h0 : Nat) (qs : List Nat) (ks : Nat → Nat) (k236 : Int32 → zSt → zRs) (x3 : Int32) (σ : zSt) : zRs :=
  k236 (x3 + 1) σ
def j_decide_264 (n : Nat) (call : zCl) (h0 : Nat) (qs : List Nat) (ks : Nat → Nat) (k236 : Int32 → zSt → zRs) (x3 : Int32) (σ : zSt) : zRs :=
  zci (call 109 [.ref h0, .int x3] σ) fun r3 s1 =>
  if r3 = 0 then
    zgd (zin x3 2100) (
    zlet (zI s1 69 (s1.2.2.1 84 (x3).toNatClampNeg)) fun s6 =>
    j_decide_282 n call h0 qs ks k236 x3 s6)
  else
    j_decide_282 n call h0 qs ks k236 x3 s1
def l_decide_236 (n : Nat) (call : zCl) (h0 : Nat) (qs : List Nat) (ks : Nat → Nat) : Nat → Int32 → zSt → zRs
  | 0, _, _ => none
  | f + 1, x3, σ =>
    if (σ.1 123) ≤ x3 then
      if 0 ≤ (σ.1 69) then
        zlet (zI σ 68 0) fun s3 =>
        some (none, s3)
      else
        zlet (zI σ 68 1) fun s5 =>
        some (none, s5)
    else
      if (σ.1 69) < 0 then
        j_decide_264 n call h0 qs ks (l_decide_236 n call h0 qs ks f) x3 σ
      else
        zgd (zin x3 2100) (
        if (σ.1 69) ≤ (σ.2.2.1 84 (x3).toNatClampNeg) then
          j_decide_282 n call h0 qs ks (l_decide_236 n call h0 qs ks f) x3 σ
        else
          j_decide_264 n call h0 qs ks (l_decide_236 n call h0 qs ks f) x3 σ)
def j_decide_219 (n : Nat) (call : zCl) (h0 : Nat) (qs : List Nat) (ks : Nat → Nat) (k186 : Int32 → zSt → zRs) (k194 : Int32 → Int32 → zSt → zRs) (x3 : Int32) (t0 : Int32) (σ : zSt) : zRs :=
  k194 t0 (x3 + 1) σ
def j_decide_214 (n : Nat) (call : zCl) (h0 : Nat) (qs : List Nat) (ks : Nat → Nat) (k186 : Int32 → zSt → zRs) (k194 : Int32 → Int32 → zSt → zRs) (x3 : Int32) (σ : zSt) : zRs :=
  j_decide_219 n call h0 qs ks k186 k194 x3 1 σ
def l_decide_194 (n : Nat) (call : zCl) (h0 : Nat) (qs : List Nat) (ks : Nat → Nat) (k186 : Int32 → zSt → zRs) : Nat → Int32 → Int32 → zSt → zRs
  | 0, _, _, _ => none
  | f + 1, x2, x3, σ =>
    if (σ.1 116) ≤ x3 then
      k186 x2 σ
    else
      zci (call 108 [.ref h0, .int x3] σ) fun r4 s2 =>
      if r4 = 0 then
        if x2 = 0 then
          j_decide_219 n call h0 qs ks k186 (l_decide_194 n call h0 qs ks k186 f) x3 0 s2
        else
          j_decide_214 n call h0 qs ks k186 (l_decide_194 n call h0 qs ks k186 f) x3 s2
      else
        j_decide_214 n call h0 qs ks k186 (l_decide_194 n call h0 qs ks k186 f) x3 s2
def l_decide_186 (n : Nat) (call : zCl) (h0 : Nat) (qs : List Nat) (ks : Nat → Nat) : Nat → Int32 → zSt → zRs
  | 0, _, _ => none
  | f + 1, x2, σ =>
    if x2 = 0 then
      zlet (zI σ 69 (-1)) fun s2 =>
      l_decide_236 n call h0 qs ks n 0 s2
    else
      l_decide_194 n call h0 qs ks (l_decide_186 n call h0 qs ks f) n 0 0 σ
def j_decide_150 (n : Nat) (call : zCl) (h0 : Nat) (qs : List Nat) (ks : Nat → Nat) (k108 : Int32 → Int32 → zSt → zRs) (x1 : Int32) (x2 : Int32) (t1 : Int32) (t3 : Int32) (σ : zSt) : zRs :=
  zci (call 72 [.ref h0, .int t3] σ) fun r3 s1 =>
  zgd (zin t1 700) (zlet (zA s1 74 (upd (s1.2.2.1 74) (t1).toNatClampNeg r3)) fun s5 =>
  zgd (zin x2 700) (
  zci (call 73 [.ref h0, .int x1, .int x2, .int (s5.2.2.1 74 (x2).toNatClampNeg)] s5) fun r10 s8 =>
  k108 r10 (x2 + 1) s8))
def l_decide_108 (n : Nat) (call : zCl) (h0 : Nat) (qs : List Nat) (ks : Nat → Nat) : Nat → Int32 → Int32 → zSt → zRs
  | 0, _, _, _ => none
  | f + 1, x1, x2, σ =>
    if (σ.1 42) ≤ x2 then
      zci (call 83 [.ref h0, .int (σ.1 43), .int x1, .int (-1)] σ) fun r4 s2 =>
      l_decide_186 n call h0 qs ks n 1 s2
    else
      zgd (zin x2 6) (
      if (σ.2.2.1 28 (x2).toNatClampNeg) = 0 then
        j_decide_150 n call h0 qs ks (l_decide_108 n call h0 qs ks f) x1 x2 x2 1 σ
      else
        zgd (zin x2 6) (
        if (σ.2.2.1 28 (x2).toNatClampNeg) = 1 then
          j_decide_150 n call h0 qs ks (l_decide_108 n call h0 qs ks f) x1 x2 x2 2 σ
        else
          j_decide_150 n call h0 qs ks (l_decide_108 n call h0 qs ks f) x1 x2 x2 3 σ))
def l_decide_84 (n : Nat) (call : zCl) (h0 : Nat) (qs : List Nat) (ks : Nat → Nat) : Nat → Int32 → zSt → zRs
  | 0, _, _ => none
  | f + 1, x1, σ =>
    if 1501 ≤ x1 then
      l_decide_108 n call h0 qs ks n (-1) 0 σ
    else
      zgd (zin x1 1501) (zlet (zA σ 66 (upd (σ.2.2.1 66) (x1).toNatClampNeg (vp_nar .boolean 0))) fun s3 =>
      l_decide_84 n call h0 qs ks f (x1 + 1) s3)
def l_decide_62 (n : Nat) (call : zCl) (h0 : Nat) (qs : List Nat) (ks : Nat → Nat) : Nat → Int32 → zSt → zRs
  | 0, _, _ => none
  | f + 1, x1, σ =>
    if 1501 ≤ x1 then
      l_decide_84 n call h0 qs ks n 0 σ
    else
      zgd (zin x1 1501) (zlet (zA σ 89 (upd (σ.2.2.1 89) (x1).toNatClampNeg (-1))) fun s3 =>
      l_decide_62 n call h0 qs ks f (x1 + 1) s3)
def b_decide (n : Nat) (call : zCl) (h0 : Nat) (qs : List Nat) (ks : Nat → Nat) (σ : zSt) : zRs :=
  zlet (zI σ 75 0) fun s1 =>
  zlet (zI s1 79 0) fun s3 =>
  zlet (zI s3 85 0) fun s5 =>
  zlet (zI s5 91 0) fun s7 =>
  zlet (zI s7 98 0) fun s9 =>
  zlet (zI s9 99 0) fun s11 =>
  zlet (zI s11 100 0) fun s13 =>
  zlet (zI s13 109 0) fun s15 =>
  zlet (zI s15 110 0) fun s17 =>
  zlet (zI s17 116 0) fun s19 =>
  zlet (zI s19 123 0) fun s21 =>
  zlet (zI s21 131 0) fun s23 =>
  l_decide_62 n call h0 qs ks n 0 s23
set_option maxHeartbeats 4000000 in
theorem pj_decide_282 {h0 : Nat} {qs : List Nat} {ks : Nat → Nat} {n : Nat} {call : zCl} {kc : Nat → List Value → zSt → (Option Value → zSt → Prop) → Prop} {v : Option Value × zSt} {X : Nat → zLv → List Value → zSt → Prop} (hX : zSem cX13_decide 4 none h0 qs ks kc (fun r u => (r, u) = v) X) (hc : ∀ j av s w, call j av s = some w → kc j av s (fun r u => (r, u) = w)) {k236 : Int32 → zSt → zRs} (hk236 : ∀ (x3 : Int32) (s : zSt), k236 x3 s = some v → X 236 [some (.ref h0), none, none, some (.int x3)] [] s) {x3 : Int32} {σ : zSt} (h : j_decide_282 n call h0 qs ks k236 x3 σ = some v) : X 282 [some (.ref h0), none, none, some (.int x3)] [] σ := by
  rw [j_decide_282] at h
  refine zs_iinc (v := x3 + 1) hX dX13_decide_282 rfl rfl (by decide) rfl ?_
  dsimp only [List.set]
  refine zs_goto (tgt := 236) hX dX13_decide_285 (by decide) ?_
  exact hk236 _ _ h
set_option maxHeartbeats 4000000 in
theorem pj_decide_264 {h0 : Nat} {qs : List Nat} {ks : Nat → Nat} {n : Nat} {call : zCl} {kc : Nat → List Value → zSt → (Option Value → zSt → Prop) → Prop} {v : Option Value × zSt} {X : Nat → zLv → List Value → zSt → Prop} (hX : zSem cX13_decide 4 none h0 qs ks kc (fun r u => (r, u) = v) X) (hc : ∀ j av s w, call j av s = some w → kc j av s (fun r u => (r, u) = w)) {k236 : Int32 → zSt → zRs} (hk236 : ∀ (x3 : Int32) (s : zSt), k236 x3 s = some v → X 236 [some (.ref h0), none, none, some (.int x3)] [] s) {x3 : Int32} {σ : zSt} (h : j_decide_264 n call h0 qs ks k236 x3 σ = some v) : X 264 [some (.ref h0), none, none, some (.int x3)] [] σ := by
  rw [j_decide_264] at h
  refine zs_aload_n hX dX13_decide_264 rfl rfl ?_
  refine zs_iload_n hX dX13_decide_265 rfl rfl ?_
  obtain ⟨r3, s1, e2, h⟩ := zci_e h
  refine zc_isSo hX dX13_decide_266 (Nat.le_of_ble_eq_true rfl) (hc _ _ _ _ e2) (fun r9 u9 h9 => ?_)
  cases h9
  refine zs_if_ne (tgt := 282) hX dX13_decide_269 (by decide) (fun c4 => ?_) (fun c4 => ?_)
  · rw [if_neg c4] at h
    exact pj_decide_282 hX hc hk236 h
  · rw [if_pos c4] at h
    refine zs_aload_n hX dX13_decide_272 rfl rfl ?_
    refine zs_aload_n hX dX13_decide_273 rfl rfl ?_
    refine zg_soAt hX dX13_decide_274 ?_
    refine zs_iload_n hX dX13_decide_277 rfl rfl ?_
    obtain ⟨b5, h⟩ := zgd_e h
    refine zl_soAt hX dX13_decide_278 (zin_ok b5) ?_
    obtain ⟨s6, e7, h⟩ := zlet_e h
    refine zp_place hX dX13_decide_279 ?_
    rw [← e7]
    exact pj_decide_282 hX hc hk236 h
set_option maxHeartbeats 4000000 in
theorem pl_decide_236 {h0 : Nat} {qs : List Nat} {ks : Nat → Nat} {n : Nat} {call : zCl} {kc : Nat → List Value → zSt → (Option Value → zSt → Prop) → Prop} {v : Option Value × zSt} {X : Nat → zLv → List Value → zSt → Prop} (hX : zSem cX13_decide 4 none h0 qs ks kc (fun r u => (r, u) = v) X) (hc : ∀ j av s w, call j av s = some w → kc j av s (fun r u => (r, u) = w)) : ∀ (f : Nat) (x3 : Int32) (σ : zSt), l_decide_236 n call h0 qs ks f x3 σ = some v → X 236 [some (.ref h0), none, none, some (.int x3)] [] σ := by
  intro f
  induction f with
  | zero => intro x3 σ h; cases h
  | succ f hk236 =>
    intro x3 σ h
    rw [l_decide_236] at h
    refine zs_iload_n hX dX13_decide_236 rfl rfl ?_
    refine zs_aload_n hX dX13_decide_237 rfl rfl ?_
    refine zg_sos hX dX13_decide_238 ?_
    refine zs_icmp_ge (tgt := 288) hX dX13_decide_241 (by decide) (fun c1 => ?_) (fun c1 => ?_)
    · rw [if_pos c1] at h
      refine zs_aload_n hX dX13_decide_288 rfl rfl ?_
      refine zs_aload_n hX dX13_decide_289 rfl rfl ?_
      refine zg_place hX dX13_decide_290 ?_
      refine zs_if_ge (tgt := 300) hX dX13_decide_293 (by decide) (fun c2 => ?_) (fun c2 => ?_)
      · rw [if_pos c2] at h
        refine zs_iconst (v := 0) hX dX13_decide_300 (by decide) ?_
        obtain ⟨s3, e4, h⟩ := zlet_e h
        refine zp_accepts hX dX13_decide_301 ?_
        rw [← e4]
        exact zs_vret hX dX13_decide_304 rfl (Option.some.inj h)
      · rw [if_neg c2] at h
        refine zs_iconst (v := 1) hX dX13_decide_296 (by decide) ?_
        refine zs_goto (tgt := 301) hX dX13_decide_297 (by decide) ?_
        obtain ⟨s5, e6, h⟩ := zlet_e h
        refine zp_accepts hX dX13_decide_301 ?_
        rw [← e6]
        exact zs_vret hX dX13_decide_304 rfl (Option.some.inj h)
    · rw [if_neg c1] at h
      refine zs_aload_n hX dX13_decide_244 rfl rfl ?_
      refine zg_place hX dX13_decide_245 ?_
      refine zs_if_lt (tgt := 264) hX dX13_decide_248 (by decide) (fun c7 => ?_) (fun c7 => ?_)
      · rw [if_pos c7] at h
        exact pj_decide_264 hX hc hk236 h
      · rw [if_neg c7] at h
        refine zs_aload_n hX dX13_decide_251 rfl rfl ?_
        refine zg_soAt hX dX13_decide_252 ?_
        refine zs_iload_n hX dX13_decide_255 rfl rfl ?_
        obtain ⟨b8, h⟩ := zgd_e h
        refine zl_soAt hX dX13_decide_256 (zin_ok b8) ?_
        refine zs_aload_n hX dX13_decide_257 rfl rfl ?_
        refine zg_place hX dX13_decide_258 ?_
        refine zs_icmp_ge (tgt := 282) hX dX13_decide_261 (by decide) (fun c9 => ?_) (fun c9 => ?_)
        · rw [if_pos c9] at h
          exact pj_decide_282 hX hc hk236 h
        · rw [if_neg c9] at h
          exact pj_decide_264 hX hc hk236 h
set_option maxHeartbeats 4000000 in
theorem pj_decide_219 {h0 : Nat} {qs : List Nat} {ks : Nat → Nat} {n : Nat} {call : zCl} {kc : Nat → List Value → zSt → (Option Value → zSt → Prop) → Prop} {v : Option Value × zSt} {X : Nat → zLv → List Value → zSt → Prop} (hX : zSem cX13_decide 4 none h0 qs ks kc (fun r u => (r, u) = v) X) (hc : ∀ j av s w, call j av s = some w → kc j av s (fun r u => (r, u) = w)) {k186 : Int32 → zSt → zRs} (hk186 : ∀ (x2 : Int32) (s : zSt), k186 x2 s = some v → X 186 [some (.ref h0), none, some (.int x2), none] [] s) {k194 : Int32 → Int32 → zSt → zRs} (hk194 : ∀ (x2 : Int32) (x3 : Int32) (s : zSt), k194 x2 x3 s = some v → X 194 [some (.ref h0), none, some (.int x2), some (.int x3)] [] s) {x3 : Int32} {t0 : Int32} {σ : zSt} (h : j_decide_219 n call h0 qs ks k186 k194 x3 t0 σ = some v) : X 219 [some (.ref h0), none, none, some (.int x3)] [.int t0] σ := by
  rw [j_decide_219] at h
  refine zs_istore_n hX dX13_decide_219 rfl (by decide) rfl ?_
  dsimp only [List.set]
  refine zs_iinc (v := x3 + 1) hX dX13_decide_220 rfl rfl (by decide) rfl ?_
  dsimp only [List.set]
  refine zs_goto (tgt := 194) hX dX13_decide_223 (by decide) ?_
  exact hk194 _ _ _ h
set_option maxHeartbeats 4000000 in
theorem pj_decide_214 {h0 : Nat} {qs : List Nat} {ks : Nat → Nat} {n : Nat} {call : zCl} {kc : Nat → List Value → zSt → (Option Value → zSt → Prop) → Prop} {v : Option Value × zSt} {X : Nat → zLv → List Value → zSt → Prop} (hX : zSem cX13_decide 4 none h0 qs ks kc (fun r u => (r, u) = v) X) (hc : ∀ j av s w, call j av s = some w → kc j av s (fun r u => (r, u) = w)) {k186 : Int32 → zSt → zRs} (hk186 : ∀ (x2 : Int32) (s : zSt), k186 x2 s = some v → X 186 [some (.ref h0), none, some (.int x2), none] [] s) {k194 : Int32 → Int32 → zSt → zRs} (hk194 : ∀ (x2 : Int32) (x3 : Int32) (s : zSt), k194 x2 x3 s = some v → X 194 [some (.ref h0), none, some (.int x2), some (.int x3)] [] s) {x3 : Int32} {σ : zSt} (h : j_decide_214 n call h0 qs ks k186 k194 x3 σ = some v) : X 214 [some (.ref h0), none, none, some (.int x3)] [] σ := by
  rw [j_decide_214] at h
  refine zs_iconst (v := 1) hX dX13_decide_214 (by decide) ?_
  refine zs_goto (tgt := 219) hX dX13_decide_215 (by decide) ?_
  exact pj_decide_219 hX hc hk186 hk194 h
set_option maxHeartbeats 4000000 in
theorem pl_decide_194 {h0 : Nat} {qs : List Nat} {ks : Nat → Nat} {n : Nat} {call : zCl} {kc : Nat → List Value → zSt → (Option Value → zSt → Prop) → Prop} {v : Option Value × zSt} {X : Nat → zLv → List Value → zSt → Prop} (hX : zSem cX13_decide 4 none h0 qs ks kc (fun r u => (r, u) = v) X) (hc : ∀ j av s w, call j av s = some w → kc j av s (fun r u => (r, u) = w)) {k186 : Int32 → zSt → zRs} (hk186 : ∀ (x2 : Int32) (s : zSt), k186 x2 s = some v → X 186 [some (.ref h0), none, some (.int x2), none] [] s) : ∀ (f : Nat) (x2 : Int32) (x3 : Int32) (σ : zSt), l_decide_194 n call h0 qs ks k186 f x2 x3 σ = some v → X 194 [some (.ref h0), none, some (.int x2), some (.int x3)] [] σ := by
  intro f
  induction f with
  | zero => intro x2 x3 σ h; cases h
  | succ f hk194 =>
    intro x2 x3 σ h
    rw [l_decide_194] at h
    refine zs_iload_n hX dX13_decide_194 rfl rfl ?_
    refine zs_aload_n hX dX13_decide_195 rfl rfl ?_
    refine zg_fits hX dX13_decide_196 ?_
    refine zs_icmp_ge (tgt := 226) hX dX13_decide_199 (by decide) (fun c1 => ?_) (fun c1 => ?_)
    · rw [if_pos c1] at h
      refine zs_goto (tgt := 186) hX dX13_decide_226 (by decide) ?_
      refine zs_weak hX (lw := [some (.ref h0), none, some (.int x2), none]) ⟨rfl, rfl, trivial⟩ ?_
      exact hk186 _ _ h
    · rw [if_neg c1] at h
      refine zs_aload_n hX dX13_decide_202 rfl rfl ?_
      refine zs_iload_n hX dX13_decide_203 rfl rfl ?_
      obtain ⟨r4, s2, e3, h⟩ := zci_e h
      refine zc_fit hX dX13_decide_204 (Nat.le_of_ble_eq_true rfl) (hc _ _ _ _ e3) (fun r9 u9 h9 => ?_)
      cases h9
      refine zs_if_ne (tgt := 214) hX dX13_decide_207 (by decide) (fun c5 => ?_) (fun c5 => ?_)
      · rw [if_neg c5] at h
        refine zs_weak hX (lw := [some (.ref h0), none, none, some (.int x3)]) ⟨rfl, rfl, trivial⟩ ?_
        exact pj_decide_214 hX hc hk186 hk194 h
      · rw [if_pos c5] at h
        refine zs_iload_n hX dX13_decide_210 rfl rfl ?_
        refine zs_if_eq (tgt := 218) hX dX13_decide_211 (by decide) (fun c6 => ?_) (fun c6 => ?_)
        · rw [if_pos c6] at h
          refine zs_iconst (v := 0) hX dX13_decide_218 (by decide) ?_
          refine zs_weak hX (lw := [some (.ref h0), none, none, some (.int x3)]) ⟨rfl, rfl, trivial⟩ ?_
          exact pj_decide_219 hX hc hk186 hk194 h
        · rw [if_neg c6] at h
          refine zs_weak hX (lw := [some (.ref h0), none, none, some (.int x3)]) ⟨rfl, rfl, trivial⟩ ?_
          exact pj_decide_214 hX hc hk186 hk194 h
set_option maxHeartbeats 4000000 in
theorem pl_decide_186 {h0 : Nat} {qs : List Nat} {ks : Nat → Nat} {n : Nat} {call : zCl} {kc : Nat → List Value → zSt → (Option Value → zSt → Prop) → Prop} {v : Option Value × zSt} {X : Nat → zLv → List Value → zSt → Prop} (hX : zSem cX13_decide 4 none h0 qs ks kc (fun r u => (r, u) = v) X) (hc : ∀ j av s w, call j av s = some w → kc j av s (fun r u => (r, u) = w)) : ∀ (f : Nat) (x2 : Int32) (σ : zSt), l_decide_186 n call h0 qs ks f x2 σ = some v → X 186 [some (.ref h0), none, some (.int x2), none] [] σ := by
  intro f
  induction f with
  | zero => intro x2 σ h; cases h
  | succ f hk186 =>
    intro x2 σ h
    rw [l_decide_186] at h
    refine zs_iload_n hX dX13_decide_186 rfl rfl ?_
    refine zs_if_eq (tgt := 229) hX dX13_decide_187 (by decide) (fun c1 => ?_) (fun c1 => ?_)
    · rw [if_pos c1] at h
      refine zs_aload_n hX dX13_decide_229 rfl rfl ?_
      refine zs_iconst (v := (-1)) hX dX13_decide_230 (by decide) ?_
      obtain ⟨s2, e3, h⟩ := zlet_e h
      refine zp_place hX dX13_decide_231 ?_
      rw [← e3]
      refine zs_iconst (v := 0) hX dX13_decide_234 (by decide) ?_
      refine zs_istore_n hX dX13_decide_235 rfl (by decide) rfl ?_
      dsimp only [List.set]
      refine zs_weak hX (lw := [some (.ref h0), none, none, some (.int 0)]) ⟨rfl, rfl, trivial⟩ ?_
      exact pl_decide_236 hX hc n _ _ h
    · rw [if_neg c1] at h
      refine zs_iconst (v := 0) hX dX13_decide_190 (by decide) ?_
      refine zs_istore_n hX dX13_decide_191 rfl (by decide) rfl ?_
      dsimp only [List.set]
      refine zs_iconst (v := 0) hX dX13_decide_192 (by decide) ?_
      refine zs_istore_n hX dX13_decide_193 rfl (by decide) rfl ?_
      dsimp only [List.set]
      exact pl_decide_194 hX hc hk186 n _ _ _ h
set_option maxHeartbeats 4000000 in
theorem pj_decide_150 {h0 : Nat} {qs : List Nat} {ks : Nat → Nat} {n : Nat} {call : zCl} {kc : Nat → List Value → zSt → (Option Value → zSt → Prop) → Prop} {v : Option Value × zSt} {X : Nat → zLv → List Value → zSt → Prop} (hX : zSem cX13_decide 4 none h0 qs ks kc (fun r u => (r, u) = v) X) (hc : ∀ j av s w, call j av s = some w → kc j av s (fun r u => (r, u) = w)) {k108 : Int32 → Int32 → zSt → zRs} (hk108 : ∀ (x1 : Int32) (x2 : Int32) (s : zSt), k108 x1 x2 s = some v → X 108 [some (.ref h0), some (.int x1), some (.int x2), none] [] s) {x1 : Int32} {x2 : Int32} {t1 : Int32} {t3 : Int32} {σ : zSt} (h : j_decide_150 n call h0 qs ks k108 x1 x2 t1 t3 σ = some v) : X 150 [some (.ref h0), some (.int x1), some (.int x2), none] [.int t3, .ref h0, .int t1, .ref (qs.getD 74 0)] σ := by
  rw [j_decide_150] at h
  obtain ⟨r3, s1, e2, h⟩ := zci_e h
  refine zc_plainType hX dX13_decide_150 (Nat.le_of_ble_eq_true rfl) (hc _ _ _ _ e2) (fun r9 u9 h9 => ?_)
  cases h9
  obtain ⟨b4, h⟩ := zgd_e h
  obtain ⟨s5, e6, h⟩ := zlet_e h
  refine zt_dRich hX dX13_decide_153 (zin_ok b4) ?_
  rw [← e6]
  refine zs_aload_n hX dX13_decide_154 rfl rfl ?_
  refine zs_iload_n hX dX13_decide_155 rfl rfl ?_
  refine zs_iload_n hX dX13_decide_156 rfl rfl ?_
  refine zs_aload_n hX dX13_decide_157 rfl rfl ?_
  refine zg_dRich hX dX13_decide_158 ?_
  refine zs_iload_n hX dX13_decide_161 rfl rfl ?_
  obtain ⟨b7, h⟩ := zgd_e h
  refine zl_dRich hX dX13_decide_162 (zin_ok b7) ?_
  obtain ⟨r10, s8, e9, h⟩ := zci_e h
  refine zc_knows hX dX13_decide_163 (Nat.le_of_ble_eq_true rfl) (hc _ _ _ _ e9) (fun r9 u9 h9 => ?_)
  cases h9
  refine zs_istore_n hX dX13_decide_166 rfl (by decide) rfl ?_
  dsimp only [List.set]
  refine zs_iinc (v := x2 + 1) hX dX13_decide_167 rfl rfl (by decide) rfl ?_
  dsimp only [List.set]
  refine zs_goto (tgt := 108) hX dX13_decide_170 (by decide) ?_
  exact hk108 _ _ _ h
set_option maxHeartbeats 4000000 in
theorem pl_decide_108 {h0 : Nat} {qs : List Nat} {ks : Nat → Nat} {n : Nat} {call : zCl} {kc : Nat → List Value → zSt → (Option Value → zSt → Prop) → Prop} {v : Option Value × zSt} {X : Nat → zLv → List Value → zSt → Prop} (hX : zSem cX13_decide 4 none h0 qs ks kc (fun r u => (r, u) = v) X) (hc : ∀ j av s w, call j av s = some w → kc j av s (fun r u => (r, u) = w)) : ∀ (f : Nat) (x1 : Int32) (x2 : Int32) (σ : zSt), l_decide_108 n call h0 qs ks f x1 x2 σ = some v → X 108 [some (.ref h0), some (.int x1), some (.int x2), none] [] σ := by
  intro f
  induction f with
  | zero => intro x1 x2 σ h; cases h
  | succ f hk108 =>
    intro x1 x2 σ h
    rw [l_decide_108] at h
    refine zs_iload_n hX dX13_decide_108 rfl rfl ?_
    refine zs_aload_n hX dX13_decide_109 rfl rfl ?_
    refine zg_inputs hX dX13_decide_110 ?_
    refine zs_icmp_ge (tgt := 173) hX dX13_decide_113 (by decide) (fun c1 => ?_) (fun c1 => ?_)
    · rw [if_pos c1] at h
      refine zs_aload_n hX dX13_decide_173 rfl rfl ?_
      refine zs_aload_n hX dX13_decide_174 rfl rfl ?_
      refine zg_root hX dX13_decide_175 ?_
      refine zs_iload_n hX dX13_decide_178 rfl rfl ?_
      refine zs_iconst (v := (-1)) hX dX13_decide_179 (by decide) ?_
      obtain ⟨r4, s2, e3, h⟩ := zci_e h
      refine zc_richOf hX dX13_decide_180 (Nat.le_of_ble_eq_true rfl) (hc _ _ _ _ e3) (fun r9 u9 h9 => ?_)
      cases h9
      refine zs_pop hX dX13_decide_183 rfl ?_
      refine zs_iconst (v := 1) hX dX13_decide_184 (by decide) ?_
      refine zs_istore_n hX dX13_decide_185 rfl (by decide) rfl ?_
      dsimp only [List.set]
      refine zs_weak hX (lw := [some (.ref h0), none, some (.int 1), none]) ⟨rfl, rfl, trivial⟩ ?_
      exact pl_decide_186 hX hc n _ _ h
    · rw [if_neg c1] at h
      refine zs_aload_n hX dX13_decide_116 rfl rfl ?_
      refine zg_dRich hX dX13_decide_117 ?_
      refine zs_iload_n hX dX13_decide_120 rfl rfl ?_
      refine zs_aload_n hX dX13_decide_121 rfl rfl ?_
      refine zs_aload_n hX dX13_decide_122 rfl rfl ?_
      refine zg_inSort hX dX13_decide_123 ?_
      refine zs_iload_n hX dX13_decide_126 rfl rfl ?_
      obtain ⟨b5, h⟩ := zgd_e h
      refine zl_inSort hX dX13_decide_127 (zin_ok b5) ?_
      refine zs_if_ne (tgt := 135) hX dX13_decide_128 (by decide) (fun c6 => ?_) (fun c6 => ?_)
      · rw [if_neg c6] at h
        refine zs_aload_n hX dX13_decide_135 rfl rfl ?_
        refine zg_inSort hX dX13_decide_136 ?_
        refine zs_iload_n hX dX13_decide_139 rfl rfl ?_
        obtain ⟨b7, h⟩ := zgd_e h
        refine zl_inSort hX dX13_decide_140 (zin_ok b7) ?_
        refine zs_iconst (v := 1) hX dX13_decide_141 (by decide) ?_
        refine zs_icmp_ne (tgt := 149) hX dX13_decide_142 (by decide) (fun c8 => ?_) (fun c8 => ?_)
        · rw [if_neg c8] at h
          refine zs_iconst (v := 3) hX dX13_decide_149 (by decide) ?_
          exact pj_decide_150 hX hc hk108 h
        · rw [if_pos c8] at h
          refine zs_iconst (v := 2) hX dX13_decide_145 (by decide) ?_
          refine zs_goto (tgt := 150) hX dX13_decide_146 (by decide) ?_
          exact pj_decide_150 hX hc hk108 h
      · rw [if_pos c6] at h
        refine zs_iconst (v := 1) hX dX13_decide_131 (by decide) ?_
        refine zs_goto (tgt := 150) hX dX13_decide_132 (by decide) ?_
        exact pj_decide_150 hX hc hk108 h
set_option maxHeartbeats 4000000 in
theorem pl_decide_84 {h0 : Nat} {qs : List Nat} {ks : Nat → Nat} {n : Nat} {call : zCl} {kc : Nat → List Value → zSt → (Option Value → zSt → Prop) → Prop} {v : Option Value × zSt} {X : Nat → zLv → List Value → zSt → Prop} (hX : zSem cX13_decide 4 none h0 qs ks kc (fun r u => (r, u) = v) X) (hc : ∀ j av s w, call j av s = some w → kc j av s (fun r u => (r, u) = w)) : ∀ (f : Nat) (x1 : Int32) (σ : zSt), l_decide_84 n call h0 qs ks f x1 σ = some v → X 84 [some (.ref h0), some (.int x1), none, none] [] σ := by
  intro f
  induction f with
  | zero => intro x1 σ h; cases h
  | succ f hk84 =>
    intro x1 σ h
    rw [l_decide_84] at h
    refine zs_iload_n hX dX13_decide_84 rfl rfl ?_
    refine zs_sipush (v := 1501) hX dX13_decide_85 (by decide) ?_
    refine zs_icmp_ge (tgt := 104) hX dX13_decide_88 (by decide) (fun c1 => ?_) (fun c1 => ?_)
    · rw [if_pos c1] at h
      refine zs_iconst (v := (-1)) hX dX13_decide_104 (by decide) ?_
      refine zs_istore_n hX dX13_decide_105 rfl (by decide) rfl ?_
      dsimp only [List.set]
      refine zs_iconst (v := 0) hX dX13_decide_106 (by decide) ?_
      refine zs_istore_n hX dX13_decide_107 rfl (by decide) rfl ?_
      dsimp only [List.set]
      exact pl_decide_108 hX hc n _ _ _ h
    · rw [if_neg c1] at h
      refine zs_aload_n hX dX13_decide_91 rfl rfl ?_
      refine zg_isLength hX dX13_decide_92 ?_
      refine zs_iload_n hX dX13_decide_95 rfl rfl ?_
      refine zs_iconst (v := 0) hX dX13_decide_96 (by decide) ?_
      obtain ⟨b2, h⟩ := zgd_e h
      obtain ⟨s3, e4, h⟩ := zlet_e h
      refine zt_isLength hX dX13_decide_97 (zin_ok b2) ?_
      rw [← e4]
      refine zs_iinc (v := x1 + 1) hX dX13_decide_98 rfl rfl (by decide) rfl ?_
      dsimp only [List.set]
      refine zs_goto (tgt := 84) hX dX13_decide_101 (by decide) ?_
      exact hk84 _ _ h
set_option maxHeartbeats 4000000 in
theorem pl_decide_62 {h0 : Nat} {qs : List Nat} {ks : Nat → Nat} {n : Nat} {call : zCl} {kc : Nat → List Value → zSt → (Option Value → zSt → Prop) → Prop} {v : Option Value × zSt} {X : Nat → zLv → List Value → zSt → Prop} (hX : zSem cX13_decide 4 none h0 qs ks kc (fun r u => (r, u) = v) X) (hc : ∀ j av s w, call j av s = some w → kc j av s (fun r u => (r, u) = w)) : ∀ (f : Nat) (x1 : Int32) (σ : zSt), l_decide_62 n call h0 qs ks f x1 σ = some v → X 62 [some (.ref h0), some (.int x1), none, none] [] σ := by
  intro f
  induction f with
  | zero => intro x1 σ h; cases h
  | succ f hk62 =>
    intro x1 σ h
    rw [l_decide_62] at h
    refine zs_iload_n hX dX13_decide_62 rfl rfl ?_
    refine zs_sipush (v := 1501) hX dX13_decide_63 (by decide) ?_
    refine zs_icmp_ge (tgt := 82) hX dX13_decide_66 (by decide) (fun c1 => ?_) (fun c1 => ?_)
    · rw [if_pos c1] at h
      refine zs_iconst (v := 0) hX dX13_decide_82 (by decide) ?_
      refine zs_istore_n hX dX13_decide_83 rfl (by decide) rfl ?_
      dsimp only [List.set]
      exact pl_decide_84 hX hc n _ _ h
    · rw [if_neg c1] at h
      refine zs_aload_n hX dX13_decide_69 rfl rfl ?_
      refine zg_column hX dX13_decide_70 ?_
      refine zs_iload_n hX dX13_decide_73 rfl rfl ?_
      refine zs_iconst (v := (-1)) hX dX13_decide_74 (by decide) ?_
      obtain ⟨b2, h⟩ := zgd_e h
      obtain ⟨s3, e4, h⟩ := zlet_e h
      refine zt_column hX dX13_decide_75 (zin_ok b2) ?_
      rw [← e4]
      refine zs_iinc (v := x1 + 1) hX dX13_decide_76 rfl rfl (by decide) rfl ?_
      dsimp only [List.set]
      refine zs_goto (tgt := 62) hX dX13_decide_79 (by decide) ?_
      exact hk62 _ _ h
set_option maxHeartbeats 4000000 in
theorem pb_decide {h0 : Nat} {qs : List Nat} {ks : Nat → Nat} {n : Nat} {call : zCl} {kc : Nat → List Value → zSt → (Option Value → zSt → Prop) → Prop} {v : Option Value × zSt} {X : Nat → zLv → List Value → zSt → Prop} (hX : zSem cX13_decide 4 none h0 qs ks kc (fun r u => (r, u) = v) X) (hc : ∀ j av s w, call j av s = some w → kc j av s (fun r u => (r, u) = w)) {σ : zSt} (h : b_decide n call h0 qs ks σ = some v) : X 0 [some (.ref h0), none, none, none] [] σ := by
  rw [b_decide] at h
  refine zs_aload_n hX dX13_decide_0 rfl rfl ?_
  refine zs_iconst (v := 0) hX dX13_decide_1 (by decide) ?_
  obtain ⟨s1, e2, h⟩ := zlet_e h
  refine zp_rich hX dX13_decide_2 ?_
  rw [← e2]
  refine zs_aload_n hX dX13_decide_5 rfl rfl ?_
  refine zs_iconst (v := 0) hX dX13_decide_6 (by decide) ?_
  obtain ⟨s3, e4, h⟩ := zlet_e h
  refine zp_saids hX dX13_decide_7 ?_
  rw [← e4]
  refine zs_aload_n hX dX13_decide_10 rfl rfl ?_
  refine zs_iconst (v := 0) hX dX13_decide_11 (by decide) ?_
  obtain ⟨s5, e6, h⟩ := zlet_e h
  refine zp_facts hX dX13_decide_12 ?_
  rw [← e6]
  refine zs_aload_n hX dX13_decide_15 rfl rfl ?_
  refine zs_iconst (v := 0) hX dX13_decide_16 (by decide) ?_
  obtain ⟨s7, e8, h⟩ := zlet_e h
  refine zp_puts hX dX13_decide_17 ?_
  rw [← e8]
  refine zs_aload_n hX dX13_decide_20 rfl rfl ?_
  refine zs_iconst (v := 0) hX dX13_decide_21 (by decide) ?_
  obtain ⟨s9, e10, h⟩ := zlet_e h
  refine zp_caseMany hX dX13_decide_22 ?_
  rw [← e10]
  refine zs_aload_n hX dX13_decide_25 rfl rfl ?_
  refine zs_iconst (v := 0) hX dX13_decide_26 (by decide) ?_
  obtain ⟨s11, e12, h⟩ := zlet_e h
  refine zp_instances hX dX13_decide_27 ?_
  rw [← e12]
  refine zs_aload_n hX dX13_decide_30 rfl rfl ?_
  refine zs_iconst (v := 0) hX dX13_decide_31 (by decide) ?_
  obtain ⟨s13, e14, h⟩ := zlet_e h
  refine zp_fresh hX dX13_decide_32 ?_
  rw [← e14]
  refine zs_aload_n hX dX13_decide_35 rfl rfl ?_
  refine zs_iconst (v := 0) hX dX13_decide_36 (by decide) ?_
  obtain ⟨s15, e16, h⟩ := zlet_e h
  refine zp_envs hX dX13_decide_37 ?_
  rw [← e16]
  refine zs_aload_n hX dX13_decide_40 rfl rfl ?_
  refine zs_iconst (v := 0) hX dX13_decide_41 (by decide) ?_
  obtain ⟨s17, e18, h⟩ := zlet_e h
  refine zp_gones hX dX13_decide_42 ?_
  rw [← e18]
  refine zs_aload_n hX dX13_decide_45 rfl rfl ?_
  refine zs_iconst (v := 0) hX dX13_decide_46 (by decide) ?_
  obtain ⟨s19, e20, h⟩ := zlet_e h
  refine zp_fits hX dX13_decide_47 ?_
  rw [← e20]
  refine zs_aload_n hX dX13_decide_50 rfl rfl ?_
  refine zs_iconst (v := 0) hX dX13_decide_51 (by decide) ?_
  obtain ⟨s21, e22, h⟩ := zlet_e h
  refine zp_sos hX dX13_decide_52 ?_
  rw [← e22]
  refine zs_aload_n hX dX13_decide_55 rfl rfl ?_
  refine zs_iconst (v := 0) hX dX13_decide_56 (by decide) ?_
  obtain ⟨s23, e24, h⟩ := zlet_e h
  refine zp_columns hX dX13_decide_57 ?_
  rw [← e24]
  refine zs_iconst (v := 0) hX dX13_decide_60 (by decide) ?_
  refine zs_istore_n hX dX13_decide_61 rfl (by decide) rfl ?_
  dsimp only [List.set]
  exact pl_decide_62 hX hc n _ _ h
def j_accepted_20 (n : Nat) (call : zCl) (h0 : Nat) (qs : List Nat) (ks : Nat → Nat) (σ : zSt) : zRs :=
  zlet (zI σ 67 1) fun s1 =>
  some (some (.int (s1.1 68)), s1)
def b_accepted (n : Nat) (call : zCl) (h0 : Nat) (qs : List Nat) (ks : Nat → Nat) (σ : zSt) : zRs :=
  if (σ.1 66) = 0 then
    some (some (.int (-1)), σ)
  else
    if (σ.1 67) = 0 then
      zcv (call 110 [.ref h0] σ) fun s3 =>
      j_accepted_20 n call h0 qs ks s3
    else
      j_accepted_20 n call h0 qs ks σ
set_option maxHeartbeats 4000000 in
theorem pj_accepted_20 {h0 : Nat} {qs : List Nat} {ks : Nat → Nat} {n : Nat} {call : zCl} {kc : Nat → List Value → zSt → (Option Value → zSt → Prop) → Prop} {v : Option Value × zSt} {X : Nat → zLv → List Value → zSt → Prop} (hX : zSem cX13_accepted 1 (some .int) h0 qs ks kc (fun r u => (r, u) = v) X) (hc : ∀ j av s w, call j av s = some w → kc j av s (fun r u => (r, u) = w)) {σ : zSt} (h : j_accepted_20 n call h0 qs ks σ = some v) : X 20 [some (.ref h0)] [] σ := by
  rw [j_accepted_20] at h
  refine zs_aload_n hX dX13_accepted_20 rfl rfl ?_
  refine zs_iconst (v := 1) hX dX13_accepted_21 (by decide) ?_
  obtain ⟨s1, e2, h⟩ := zlet_e h
  refine zp_wasAsked hX dX13_accepted_22 (by decide) (by decide) ?_
  rw [← e2]
  refine zs_aload_n hX dX13_accepted_25 rfl rfl ?_
  refine zg_accepts hX dX13_accepted_26 ?_
  exact zs_iret hX dX13_accepted_29 rfl (Option.some.inj h)
set_option maxHeartbeats 4000000 in
theorem pb_accepted {h0 : Nat} {qs : List Nat} {ks : Nat → Nat} {n : Nat} {call : zCl} {kc : Nat → List Value → zSt → (Option Value → zSt → Prop) → Prop} {v : Option Value × zSt} {X : Nat → zLv → List Value → zSt → Prop} (hX : zSem cX13_accepted 1 (some .int) h0 qs ks kc (fun r u => (r, u) = v) X) (hc : ∀ j av s w, call j av s = some w → kc j av s (fun r u => (r, u) = w)) {σ : zSt} (h : b_accepted n call h0 qs ks σ = some v) : X 0 [some (.ref h0)] [] σ := by
  rw [b_accepted] at h
  refine zs_aload_n hX dX13_accepted_0 rfl rfl ?_
  refine zg_hasOne hX dX13_accepted_1 ?_
  refine zs_if_ne (tgt := 9) hX dX13_accepted_4 (by decide) (fun c1 => ?_) (fun c1 => ?_)
  · rw [if_neg c1] at h
    refine zs_aload_n hX dX13_accepted_9 rfl rfl ?_
    refine zg_wasAsked hX dX13_accepted_10 ?_
    refine zs_if_ne (tgt := 20) hX dX13_accepted_13 (by decide) (fun c2 => ?_) (fun c2 => ?_)
    · rw [if_neg c2] at h
      exact pj_accepted_20 hX hc h
    · rw [if_pos c2] at h
      refine zs_aload_n hX dX13_accepted_16 rfl rfl ?_
      obtain ⟨s3, e4, h⟩ := zcv_e h
      refine zc_decide hX dX13_accepted_17 (Nat.le_of_ble_eq_true rfl) (hc _ _ _ _ e4) (fun u9 h9 => ?_)
      cases h9
      exact pj_accepted_20 hX hc h
  · rw [if_pos c1] at h
    refine zs_iconst (v := (-1)) hX dX13_accepted_7 (by decide) ?_
    exact zs_iret hX dX13_accepted_8 rfl (Option.some.inj h)
def j_say_21 (n : Nat) (call : zCl) (h0 : Nat) (qs : List Nat) (ks : Nat → Nat) (σ : zSt) : zRs :=
  zlet (zI σ 158 ((σ.1 158) + 1)) fun s1 =>
  some (none, s1)
def b_say (n : Nat) (call : zCl) (h0 : Nat) (qs : List Nat) (ks : Nat → Nat) (x1 : Int32) (σ : zSt) : zRs :=
  if 16000 ≤ (σ.1 158) then
    j_say_21 n call h0 qs ks σ
  else
    zgd (zin (σ.1 158) 16000) (zlet (zA σ 101 (upd (σ.2.2.1 101) ((σ.1 158)).toNatClampNeg (vp_nar .byte ((x1).toInt8.toInt32)))) fun s3 =>
    j_say_21 n call h0 qs ks s3)
set_option maxHeartbeats 4000000 in
theorem pj_say_21 {h0 : Nat} {qs : List Nat} {ks : Nat → Nat} {n : Nat} {call : zCl} {kc : Nat → List Value → zSt → (Option Value → zSt → Prop) → Prop} {v : Option Value × zSt} {X : Nat → zLv → List Value → zSt → Prop} (hX : zSem cX13_say 2 none h0 qs ks kc (fun r u => (r, u) = v) X) (hc : ∀ j av s w, call j av s = some w → kc j av s (fun r u => (r, u) = w)) {σ : zSt} (h : j_say_21 n call h0 qs ks σ = some v) : X 21 [some (.ref h0), none] [] σ := by
  rw [j_say_21] at h
  refine zs_aload_n hX dX13_say_21 rfl rfl ?_
  refine zs_dup hX dX13_say_22 rfl ?_
  refine zg_sayMany hX dX13_say_23 ?_
  refine zs_iconst (v := 1) hX dX13_say_26 (by decide) ?_
  refine zs_iadd hX dX13_say_27 ?_
  obtain ⟨s1, e2, h⟩ := zlet_e h
  refine zp_sayMany hX dX13_say_28 ?_
  rw [← e2]
  exact zs_vret hX dX13_say_31 rfl (Option.some.inj h)
set_option maxHeartbeats 4000000 in
theorem pb_say {h0 : Nat} {qs : List Nat} {ks : Nat → Nat} {n : Nat} {call : zCl} {kc : Nat → List Value → zSt → (Option Value → zSt → Prop) → Prop} {v : Option Value × zSt} {X : Nat → zLv → List Value → zSt → Prop} (hX : zSem cX13_say 2 none h0 qs ks kc (fun r u => (r, u) = v) X) (hc : ∀ j av s w, call j av s = some w → kc j av s (fun r u => (r, u) = w)) {x1 : Int32} {σ : zSt} (h : b_say n call h0 qs ks x1 σ = some v) : X 0 [some (.ref h0), some (.int x1)] [] σ := by
  rw [b_say] at h
  refine zs_aload_n hX dX13_say_0 rfl rfl ?_
  refine zg_sayMany hX dX13_say_1 ?_
  refine zs_sipush (v := 16000) hX dX13_say_4 (by decide) ?_
  refine zs_icmp_ge (tgt := 21) hX dX13_say_7 (by decide) (fun c1 => ?_) (fun c1 => ?_)
  · rw [if_pos c1] at h
    refine zs_weak hX (lw := [some (.ref h0), none]) ⟨rfl, trivial⟩ ?_
    exact pj_say_21 hX hc h
  · rw [if_neg c1] at h
    refine zs_aload_n hX dX13_say_10 rfl rfl ?_
    refine zg_saying hX dX13_say_11 ?_
    refine zs_aload_n hX dX13_say_14 rfl rfl ?_
    refine zg_sayMany hX dX13_say_15 ?_
    refine zs_iload_n hX dX13_say_18 rfl rfl ?_
    refine zs_i2b hX dX13_say_19 ?_
    obtain ⟨b2, h⟩ := zgd_e h
    obtain ⟨s3, e4, h⟩ := zlet_e h
    refine zt_saying hX dX13_say_20 (zin_ok b2) ?_
    rw [← e4]
    refine zs_weak hX (lw := [some (.ref h0), none]) ⟨rfl, trivial⟩ ?_
    exact pj_say_21 hX hc h
def l_sayWord_2 (n : Nat) (call : zCl) (h0 : Nat) (qs : List Nat) (ks : Nat → Nat) : Nat → Nat → Int32 → zSt → zRs
  | 0, _, _, _ => none
  | f + 1, x1, x2, σ =>
    zso (zslen ks x1) fun r1 =>
    if r1 ≤ x2 then
      some (none, σ)
    else
      zso (zschr ks x1 x2) fun r4 =>
      zcv (call 112 [.ref h0, .int r4] σ) fun s6 =>
      l_sayWord_2 n call h0 qs ks f x1 (x2 + 1) s6
def b_sayWord (n : Nat) (call : zCl) (h0 : Nat) (qs : List Nat) (ks : Nat → Nat) (x1 : Nat) (σ : zSt) : zRs :=
  l_sayWord_2 n call h0 qs ks n x1 0 σ
set_option maxHeartbeats 4000000 in
theorem pl_sayWord_2 {h0 : Nat} {qs : List Nat} {ks : Nat → Nat} {n : Nat} {call : zCl} {kc : Nat → List Value → zSt → (Option Value → zSt → Prop) → Prop} {v : Option Value × zSt} {X : Nat → zLv → List Value → zSt → Prop} (hX : zSem cX13_sayWord 3 none h0 qs ks kc (fun r u => (r, u) = v) X) (hc : ∀ j av s w, call j av s = some w → kc j av s (fun r u => (r, u) = w)) : ∀ (f : Nat) (x1 : Nat) (x2 : Int32) (σ : zSt), l_sayWord_2 n call h0 qs ks f x1 x2 σ = some v → X 2 [some (.ref h0), some (.ref x1), some (.int x2)] [] σ := by
  intro f
  induction f with
  | zero => intro x1 x2 σ h; cases h
  | succ f hk2 =>
    intro x1 x2 σ h
    rw [l_sayWord_2] at h
    refine zs_iload_n hX dX13_sayWord_2 rfl rfl ?_
    refine zs_aload_n hX dX13_sayWord_3 rfl rfl ?_
    obtain ⟨r1, e2, h⟩ := zso_e h
    refine zs_slen hX dX13_sayWord_4 e2 (Nat.le_of_ble_eq_true rfl) ?_
    refine zs_icmp_ge (tgt := 25) hX dX13_sayWord_7 (by decide) (fun c3 => ?_) (fun c3 => ?_)
    · rw [if_pos c3] at h
      exact zs_vret hX dX13_sayWord_25 rfl (Option.some.inj h)
    · rw [if_neg c3] at h
      refine zs_aload_n hX dX13_sayWord_10 rfl rfl ?_
      refine zs_aload_n hX dX13_sayWord_11 rfl rfl ?_
      refine zs_iload_n hX dX13_sayWord_12 rfl rfl ?_
      obtain ⟨r4, e5, h⟩ := zso_e h
      refine zs_schr hX dX13_sayWord_13 e5 (Nat.le_of_ble_eq_true rfl) ?_
      obtain ⟨s6, e7, h⟩ := zcv_e h
      refine zc_say hX dX13_sayWord_16 (Nat.le_of_ble_eq_true rfl) (hc _ _ _ _ e7) (fun u9 h9 => ?_)
      cases h9
      refine zs_iinc (v := x2 + 1) hX dX13_sayWord_19 rfl rfl (by decide) rfl ?_
      dsimp only [List.set]
      refine zs_goto (tgt := 2) hX dX13_sayWord_22 (by decide) ?_
      exact hk2 _ _ _ h
set_option maxHeartbeats 4000000 in
theorem pb_sayWord {h0 : Nat} {qs : List Nat} {ks : Nat → Nat} {n : Nat} {call : zCl} {kc : Nat → List Value → zSt → (Option Value → zSt → Prop) → Prop} {v : Option Value × zSt} {X : Nat → zLv → List Value → zSt → Prop} (hX : zSem cX13_sayWord 3 none h0 qs ks kc (fun r u => (r, u) = v) X) (hc : ∀ j av s w, call j av s = some w → kc j av s (fun r u => (r, u) = w)) {x1 : Nat} {σ : zSt} (h : b_sayWord n call h0 qs ks x1 σ = some v) : X 0 [some (.ref h0), some (.ref x1), none] [] σ := by
  rw [b_sayWord] at h
  refine zs_iconst (v := 0) hX dX13_sayWord_0 (by decide) ?_
  refine zs_istore_n hX dX13_sayWord_1 rfl (by decide) rfl ?_
  dsimp only [List.set]
  exact pl_sayWord_2 hX hc n _ _ _ h
def l_sayNumber_50 (n : Nat) (call : zCl) (h0 : Nat) (qs : List Nat) (ks : Nat → Nat) : Nat → Int64 → Int64 → zSt → zRs
  | 0, _, _, _ => none
  | f + 1, x3, x5, σ =>
    if (lg_cmp x5 0) ≤ 0 then
      some (none, σ)
    else
      zgd (decide (¬ x5 = 0)) (
      zgd (decide (¬ 10 = 0)) (
      zcv (call 112 [.ref h0, .int (((48 + ((x3 / x5) - (x3 / x5) / 10 * 10))).toInt32)] σ) fun s4 =>
      zgd (decide (¬ 10 = 0)) (
      l_sayNumber_50 n call h0 qs ks f x3 (x5 / 10) s4)))
def l_sayNumber_28 (n : Nat) (call : zCl) (h0 : Nat) (qs : List Nat) (ks : Nat → Nat) : Nat → Int64 → Int64 → zSt → zRs
  | 0, _, _, _ => none
  | f + 1, x3, x5, σ =>
    zgd (decide (¬ x5 = 0)) (
    if (lg_cmp (x3 / x5) 9) ≤ 0 then
      l_sayNumber_50 n call h0 qs ks n x3 x5 σ
    else
      l_sayNumber_28 n call h0 qs ks f x3 (x5 * 10) σ)
def j_sayNumber_24 (n : Nat) (call : zCl) (h0 : Nat) (qs : List Nat) (ks : Nat → Nat) (t0 : Int64) (σ : zSt) : zRs :=
  l_sayNumber_28 n call h0 qs ks n t0 1 σ
def j_sayNumber_12 (n : Nat) (call : zCl) (h0 : Nat) (qs : List Nat) (ks : Nat → Nat) (x1 : Int64) (σ : zSt) : zRs :=
  if 0 ≤ (lg_cmp x1 0) then
    j_sayNumber_24 n call h0 qs ks x1 σ
  else
    j_sayNumber_24 n call h0 qs ks (-x1) σ
def b_sayNumber (n : Nat) (call : zCl) (h0 : Nat) (qs : List Nat) (ks : Nat → Nat) (x1 : Int64) (σ : zSt) : zRs :=
  if 0 ≤ (lg_cmp x1 0) then
    j_sayNumber_12 n call h0 qs ks x1 σ
  else
    zcv (call 112 [.ref h0, .int 45] σ) fun s2 =>
    j_sayNumber_12 n call h0 qs ks x1 s2
set_option maxHeartbeats 4000000 in
theorem pl_sayNumber_50 {h0 : Nat} {qs : List Nat} {ks : Nat → Nat} {n : Nat} {call : zCl} {kc : Nat → List Value → zSt → (Option Value → zSt → Prop) → Prop} {v : Option Value × zSt} {X : Nat → zLv → List Value → zSt → Prop} (hX : zSem cX13_sayNumber 7 none h0 qs ks kc (fun r u => (r, u) = v) X) (hc : ∀ j av s w, call j av s = some w → kc j av s (fun r u => (r, u) = w)) : ∀ (f : Nat) (x3 : Int64) (x5 : Int64) (σ : zSt), l_sayNumber_50 n call h0 qs ks f x3 x5 σ = some v → X 50 [some (.ref h0), none, none, some (.long x3), none, some (.long x5), none] [] σ := by
  intro f
  induction f with
  | zero => intro x3 x5 σ h; cases h
  | succ f hk50 =>
    intro x3 x5 σ h
    rw [l_sayNumber_50] at h
    refine zs_lload hX dX13_sayNumber_50 rfl ?_
    refine zs_lconst (v := 0) hX dX13_sayNumber_52 (by decide) ?_
    refine zs_lcmp hX dX13_sayNumber_53 ?_
    refine zs_if_le (tgt := 85) hX dX13_sayNumber_54 (by decide) (fun c1 => ?_) (fun c1 => ?_)
    · rw [if_pos c1] at h
      exact zs_vret hX dX13_sayNumber_85 rfl (Option.some.inj h)
    · rw [if_neg c1] at h
      refine zs_aload_n hX dX13_sayNumber_57 rfl rfl ?_
      refine zs_ldc2 (v := 48) hX dX13_sayNumber_58 (by decide) ?_
      refine zs_lload_n hX dX13_sayNumber_61 rfl rfl ?_
      refine zs_lload hX dX13_sayNumber_62 rfl ?_
      obtain ⟨b2, h⟩ := zgd_e h
      refine zs_ldiv hX dX13_sayNumber_64 (znz_ok b2) ?_
      refine zs_ldc2 (v := 10) hX dX13_sayNumber_65 (by decide) ?_
      obtain ⟨b3, h⟩ := zgd_e h
      refine zs_lrem hX dX13_sayNumber_68 (znz_ok b3) ?_
      refine zs_ladd hX dX13_sayNumber_69 ?_
      refine zs_l2i hX dX13_sayNumber_70 ?_
      obtain ⟨s4, e5, h⟩ := zcv_e h
      refine zc_say hX dX13_sayNumber_71 (Nat.le_of_ble_eq_true rfl) (hc _ _ _ _ e5) (fun u9 h9 => ?_)
      cases h9
      refine zs_lload hX dX13_sayNumber_74 rfl ?_
      refine zs_ldc2 (v := 10) hX dX13_sayNumber_76 (by decide) ?_
      obtain ⟨b6, h⟩ := zgd_e h
      refine zs_ldiv hX dX13_sayNumber_79 (znz_ok b6) ?_
      refine zs_lstore hX dX13_sayNumber_80 (by decide) rfl ?_
      dsimp only [List.set]
      refine zs_goto (tgt := 50) hX dX13_sayNumber_82 (by decide) ?_
      exact hk50 _ _ _ h
set_option maxHeartbeats 4000000 in
theorem pl_sayNumber_28 {h0 : Nat} {qs : List Nat} {ks : Nat → Nat} {n : Nat} {call : zCl} {kc : Nat → List Value → zSt → (Option Value → zSt → Prop) → Prop} {v : Option Value × zSt} {X : Nat → zLv → List Value → zSt → Prop} (hX : zSem cX13_sayNumber 7 none h0 qs ks kc (fun r u => (r, u) = v) X) (hc : ∀ j av s w, call j av s = some w → kc j av s (fun r u => (r, u) = w)) : ∀ (f : Nat) (x3 : Int64) (x5 : Int64) (σ : zSt), l_sayNumber_28 n call h0 qs ks f x3 x5 σ = some v → X 28 [some (.ref h0), none, none, some (.long x3), none, some (.long x5), none] [] σ := by
  intro f
  induction f with
  | zero => intro x3 x5 σ h; cases h
  | succ f hk28 =>
    intro x3 x5 σ h
    rw [l_sayNumber_28] at h
    refine zs_lload_n hX dX13_sayNumber_28 rfl rfl ?_
    refine zs_lload hX dX13_sayNumber_29 rfl ?_
    obtain ⟨b1, h⟩ := zgd_e h
    refine zs_ldiv hX dX13_sayNumber_31 (znz_ok b1) ?_
    refine zs_ldc2 (v := 9) hX dX13_sayNumber_32 (by decide) ?_
    refine zs_lcmp hX dX13_sayNumber_35 ?_
    refine zs_if_le (tgt := 50) hX dX13_sayNumber_36 (by decide) (fun c2 => ?_) (fun c2 => ?_)
    · rw [if_pos c2] at h
      exact pl_sayNumber_50 hX hc n _ _ _ h
    · rw [if_neg c2] at h
      refine zs_lload hX dX13_sayNumber_39 rfl ?_
      refine zs_ldc2 (v := 10) hX dX13_sayNumber_41 (by decide) ?_
      refine zs_lmul hX dX13_sayNumber_44 ?_
      refine zs_lstore hX dX13_sayNumber_45 (by decide) rfl ?_
      dsimp only [List.set]
      refine zs_goto (tgt := 28) hX dX13_sayNumber_47 (by decide) ?_
      exact hk28 _ _ _ h
set_option maxHeartbeats 4000000 in
theorem pj_sayNumber_24 {h0 : Nat} {qs : List Nat} {ks : Nat → Nat} {n : Nat} {call : zCl} {kc : Nat → List Value → zSt → (Option Value → zSt → Prop) → Prop} {v : Option Value × zSt} {X : Nat → zLv → List Value → zSt → Prop} (hX : zSem cX13_sayNumber 7 none h0 qs ks kc (fun r u => (r, u) = v) X) (hc : ∀ j av s w, call j av s = some w → kc j av s (fun r u => (r, u) = w)) {t0 : Int64} {σ : zSt} (h : j_sayNumber_24 n call h0 qs ks t0 σ = some v) : X 24 [some (.ref h0), none, none, none, none, none, none] [.long t0] σ := by
  rw [j_sayNumber_24] at h
  refine zs_lstore_n hX dX13_sayNumber_24 rfl (by decide) rfl ?_
  dsimp only [List.set]
  refine zs_lconst (v := 1) hX dX13_sayNumber_25 (by decide) ?_
  refine zs_lstore hX dX13_sayNumber_26 (by decide) rfl ?_
  dsimp only [List.set]
  exact pl_sayNumber_28 hX hc n _ _ _ h
set_option maxHeartbeats 4000000 in
theorem pj_sayNumber_12 {h0 : Nat} {qs : List Nat} {ks : Nat → Nat} {n : Nat} {call : zCl} {kc : Nat → List Value → zSt → (Option Value → zSt → Prop) → Prop} {v : Option Value × zSt} {X : Nat → zLv → List Value → zSt → Prop} (hX : zSem cX13_sayNumber 7 none h0 qs ks kc (fun r u => (r, u) = v) X) (hc : ∀ j av s w, call j av s = some w → kc j av s (fun r u => (r, u) = w)) {x1 : Int64} {σ : zSt} (h : j_sayNumber_12 n call h0 qs ks x1 σ = some v) : X 12 [some (.ref h0), some (.long x1), none, none, none, none, none] [] σ := by
  rw [j_sayNumber_12] at h
  refine zs_lload_n hX dX13_sayNumber_12 rfl rfl ?_
  refine zs_lconst (v := 0) hX dX13_sayNumber_13 (by decide) ?_
  refine zs_lcmp hX dX13_sayNumber_14 ?_
  refine zs_if_ge (tgt := 23) hX dX13_sayNumber_15 (by decide) (fun c1 => ?_) (fun c1 => ?_)
  · rw [if_pos c1] at h
    refine zs_lload_n hX dX13_sayNumber_23 rfl rfl ?_
    refine zs_weak hX (lw := [some (.ref h0), none, none, none, none, none, none]) ⟨rfl, trivial⟩ ?_
    exact pj_sayNumber_24 hX hc h
  · rw [if_neg c1] at h
    refine zs_lload_n hX dX13_sayNumber_18 rfl rfl ?_
    refine zs_lneg hX dX13_sayNumber_19 ?_
    refine zs_goto (tgt := 24) hX dX13_sayNumber_20 (by decide) ?_
    refine zs_weak hX (lw := [some (.ref h0), none, none, none, none, none, none]) ⟨rfl, trivial⟩ ?_
    exact pj_sayNumber_24 hX hc h
set_option maxHeartbeats 4000000 in
theorem pb_sayNumber {h0 : Nat} {qs : List Nat} {ks : Nat → Nat} {n : Nat} {call : zCl} {kc : Nat → List Value → zSt → (Option Value → zSt → Prop) → Prop} {v : Option Value × zSt} {X : Nat → zLv → List Value → zSt → Prop} (hX : zSem cX13_sayNumber 7 none h0 qs ks kc (fun r u => (r, u) = v) X) (hc : ∀ j av s w, call j av s = some w → kc j av s (fun r u => (r, u) = w)) {x1 : Int64} {σ : zSt} (h : b_sayNumber n call h0 qs ks x1 σ = some v) : X 0 [some (.ref h0), some (.long x1), none, none, none, none, none] [] σ := by
  rw [b_sayNumber] at h
  refine zs_lload_n hX dX13_sayNumber_0 rfl rfl ?_
  refine zs_lconst (v := 0) hX dX13_sayNumber_1 (by decide) ?_
  refine zs_lcmp hX dX13_sayNumber_2 ?_
  refine zs_if_ge (tgt := 12) hX dX13_sayNumber_3 (by decide) (fun c1 => ?_) (fun c1 => ?_)
  · rw [if_pos c1] at h
    exact pj_sayNumber_12 hX hc h
  · rw [if_neg c1] at h
    refine zs_aload_n hX dX13_sayNumber_6 rfl rfl ?_
    refine zs_bipush (v := 45) hX dX13_sayNumber_7 (by decide) ?_
    obtain ⟨s2, e3, h⟩ := zcv_e h
    refine zc_say hX dX13_sayNumber_9 (Nat.le_of_ble_eq_true rfl) (hc _ _ _ _ e3) (fun u9 h9 => ?_)
    cases h9
    exact pj_sayNumber_12 hX hc h
def j_sayName_88 (n : Nat) (call : zCl) (h0 : Nat) (qs : List Nat) (ks : Nat → Nat) (x1 : Int32) (σ : zSt) : zRs :=
  zcv (call 112 [.ref h0, .int 36] σ) fun s1 =>
  zgd (zin (x1 - 700) 800) (
  zcv (call 114 [.ref h0, .long (((s1.2.2.1 102 ((x1 - 700)).toNatClampNeg)).toInt64)] s1) fun s4 =>
  some (none, s4))
def l_sayName_19 (n : Nat) (call : zCl) (h0 : Nat) (qs : List Nat) (ks : Nat → Nat) : Nat → Int32 → Int32 → zSt → zRs
  | 0, _, _, _ => none
  | f + 1, x1, x2, σ =>
    zgd (zin x1 700) (
    zgd (zin (σ.2.2.1 30 (x1).toNatClampNeg) 2010) (
    if (σ.2.2.1 5 ((σ.2.2.1 30 (x1).toNatClampNeg)).toNatClampNeg) ≤ x2 then
      some (none, σ)
    else
      zgd (zin x2 2000) (
      zcv (call 112 [.ref h0, .int (σ.2.2.1 1 (x2).toNatClampNeg)] σ) fun s5 =>
      l_sayName_19 n call h0 qs ks f x1 (x2 + 1) s5)))
def b_sayName (n : Nat) (call : zCl) (h0 : Nat) (qs : List Nat) (ks : Nat → Nat) (x1 : Int32) (σ : zSt) : zRs :=
  if 700 ≤ x1 then
    zgd (zin (x1 - 700) 800) (
    if 0 ≤ (σ.2.2.1 102 ((x1 - 700)).toNatClampNeg) then
      j_sayName_88 n call h0 qs ks x1 σ
    else
      zgd (zin (x1 - 700) 800) (zlet (zA σ 102 (upd (σ.2.2.1 102) ((x1 - 700)).toNatClampNeg (σ.1 160))) fun s5 =>
      zlet (zI s5 160 ((s5.1 160) + 1)) fun s7 =>
      j_sayName_88 n call h0 qs ks x1 s7))
  else
    zgd (zin x1 700) (
    zgd (zin (σ.2.2.1 30 (x1).toNatClampNeg) 2010) (
    l_sayName_19 n call h0 qs ks n x1 (σ.2.2.1 4 ((σ.2.2.1 30 (x1).toNatClampNeg)).toNatClampNeg) σ))
set_option maxHeartbeats 4000000 in
theorem pj_sayName_88 {h0 : Nat} {qs : List Nat} {ks : Nat → Nat} {n : Nat} {call : zCl} {kc : Nat → List Value → zSt → (Option Value → zSt → Prop) → Prop} {v : Option Value × zSt} {X : Nat → zLv → List Value → zSt → Prop} (hX : zSem cX13_sayName 3 none h0 qs ks kc (fun r u => (r, u) = v) X) (hc : ∀ j av s w, call j av s = some w → kc j av s (fun r u => (r, u) = w)) {x1 : Int32} {σ : zSt} (h : j_sayName_88 n call h0 qs ks x1 σ = some v) : X 88 [some (.ref h0), some (.int x1), none] [] σ := by
  rw [j_sayName_88] at h
  refine zs_aload_n hX dX13_sayName_88 rfl rfl ?_
  refine zs_bipush (v := 36) hX dX13_sayName_89 (by decide) ?_
  obtain ⟨s1, e2, h⟩ := zcv_e h
  refine zc_say hX dX13_sayName_91 (Nat.le_of_ble_eq_true rfl) (hc _ _ _ _ e2) (fun u9 h9 => ?_)
  cases h9
  refine zs_aload_n hX dX13_sayName_94 rfl rfl ?_
  refine zs_aload_n hX dX13_sayName_95 rfl rfl ?_
  refine zg_dollar hX dX13_sayName_96 ?_
  refine zs_iload_n hX dX13_sayName_99 rfl rfl ?_
  refine zs_sipush (v := 700) hX dX13_sayName_100 (by decide) ?_
  refine zs_isub hX dX13_sayName_103 ?_
  obtain ⟨b3, h⟩ := zgd_e h
  refine zl_dollar hX dX13_sayName_104 (zin_ok b3) ?_
  refine zs_i2l hX dX13_sayName_105 ?_
  obtain ⟨s4, e5, h⟩ := zcv_e h
  refine zc_sayNumber hX dX13_sayName_106 (Nat.le_of_ble_eq_true rfl) (hc _ _ _ _ e5) (fun u9 h9 => ?_)
  cases h9
  exact zs_vret hX dX13_sayName_109 rfl (Option.some.inj h)
set_option maxHeartbeats 4000000 in
theorem pl_sayName_19 {h0 : Nat} {qs : List Nat} {ks : Nat → Nat} {n : Nat} {call : zCl} {kc : Nat → List Value → zSt → (Option Value → zSt → Prop) → Prop} {v : Option Value × zSt} {X : Nat → zLv → List Value → zSt → Prop} (hX : zSem cX13_sayName 3 none h0 qs ks kc (fun r u => (r, u) = v) X) (hc : ∀ j av s w, call j av s = some w → kc j av s (fun r u => (r, u) = w)) : ∀ (f : Nat) (x1 : Int32) (x2 : Int32) (σ : zSt), l_sayName_19 n call h0 qs ks f x1 x2 σ = some v → X 19 [some (.ref h0), some (.int x1), some (.int x2)] [] σ := by
  intro f
  induction f with
  | zero => intro x1 x2 σ h; cases h
  | succ f hk19 =>
    intro x1 x2 σ h
    rw [l_sayName_19] at h
    refine zs_iload_n hX dX13_sayName_19 rfl rfl ?_
    refine zs_aload_n hX dX13_sayName_20 rfl rfl ?_
    refine zg_wEnd hX dX13_sayName_21 ?_
    refine zs_aload_n hX dX13_sayName_24 rfl rfl ?_
    refine zg_dWord hX dX13_sayName_25 ?_
    refine zs_iload_n hX dX13_sayName_28 rfl rfl ?_
    obtain ⟨b1, h⟩ := zgd_e h
    refine zl_dWord hX dX13_sayName_29 (zin_ok b1) ?_
    obtain ⟨b2, h⟩ := zgd_e h
    refine zl_wEnd hX dX13_sayName_30 (zin_ok b2) ?_
    refine zs_icmp_ge (tgt := 50) hX dX13_sayName_31 (by decide) (fun c3 => ?_) (fun c3 => ?_)
    · rw [if_pos c3] at h
      exact zs_vret hX dX13_sayName_50 rfl (Option.some.inj h)
    · rw [if_neg c3] at h
      refine zs_aload_n hX dX13_sayName_34 rfl rfl ?_
      refine zs_aload_n hX dX13_sayName_35 rfl rfl ?_
      refine zg_text hX dX13_sayName_36 ?_
      refine zs_iload_n hX dX13_sayName_39 rfl rfl ?_
      obtain ⟨b4, h⟩ := zgd_e h
      refine zl_text hX dX13_sayName_40 (zin_ok b4) ?_
      obtain ⟨s5, e6, h⟩ := zcv_e h
      refine zc_say hX dX13_sayName_41 (Nat.le_of_ble_eq_true rfl) (hc _ _ _ _ e6) (fun u9 h9 => ?_)
      cases h9
      refine zs_iinc (v := x2 + 1) hX dX13_sayName_44 rfl rfl (by decide) rfl ?_
      dsimp only [List.set]
      refine zs_goto (tgt := 19) hX dX13_sayName_47 (by decide) ?_
      exact hk19 _ _ _ h
set_option maxHeartbeats 4000000 in
theorem pb_sayName {h0 : Nat} {qs : List Nat} {ks : Nat → Nat} {n : Nat} {call : zCl} {kc : Nat → List Value → zSt → (Option Value → zSt → Prop) → Prop} {v : Option Value × zSt} {X : Nat → zLv → List Value → zSt → Prop} (hX : zSem cX13_sayName 3 none h0 qs ks kc (fun r u => (r, u) = v) X) (hc : ∀ j av s w, call j av s = some w → kc j av s (fun r u => (r, u) = w)) {x1 : Int32} {σ : zSt} (h : b_sayName n call h0 qs ks x1 σ = some v) : X 0 [some (.ref h0), some (.int x1), none] [] σ := by
  rw [b_sayName] at h
  refine zs_iload_n hX dX13_sayName_0 rfl rfl ?_
  refine zs_sipush (v := 700) hX dX13_sayName_1 (by decide) ?_
  refine zs_icmp_ge (tgt := 51) hX dX13_sayName_4 (by decide) (fun c1 => ?_) (fun c1 => ?_)
  · rw [if_pos c1] at h
    refine zs_aload_n hX dX13_sayName_51 rfl rfl ?_
    refine zg_dollar hX dX13_sayName_52 ?_
    refine zs_iload_n hX dX13_sayName_55 rfl rfl ?_
    refine zs_sipush (v := 700) hX dX13_sayName_56 (by decide) ?_
    refine zs_isub hX dX13_sayName_59 ?_
    obtain ⟨b2, h⟩ := zgd_e h
    refine zl_dollar hX dX13_sayName_60 (zin_ok b2) ?_
    refine zs_if_ge (tgt := 88) hX dX13_sayName_61 (by decide) (fun c3 => ?_) (fun c3 => ?_)
    · rw [if_pos c3] at h
      exact pj_sayName_88 hX hc h
    · rw [if_neg c3] at h
      refine zs_aload_n hX dX13_sayName_64 rfl rfl ?_
      refine zg_dollar hX dX13_sayName_65 ?_
      refine zs_iload_n hX dX13_sayName_68 rfl rfl ?_
      refine zs_sipush (v := 700) hX dX13_sayName_69 (by decide) ?_
      refine zs_isub hX dX13_sayName_72 ?_
      refine zs_aload_n hX dX13_sayName_73 rfl rfl ?_
      refine zg_dollars hX dX13_sayName_74 ?_
      obtain ⟨b4, h⟩ := zgd_e h
      obtain ⟨s5, e6, h⟩ := zlet_e h
      refine zt_dollar hX dX13_sayName_77 (zin_ok b4) ?_
      rw [← e6]
      refine zs_aload_n hX dX13_sayName_78 rfl rfl ?_
      refine zs_dup hX dX13_sayName_79 rfl ?_
      refine zg_dollars hX dX13_sayName_80 ?_
      refine zs_iconst (v := 1) hX dX13_sayName_83 (by decide) ?_
      refine zs_iadd hX dX13_sayName_84 ?_
      obtain ⟨s7, e8, h⟩ := zlet_e h
      refine zp_dollars hX dX13_sayName_85 ?_
      rw [← e8]
      exact pj_sayName_88 hX hc h
  · rw [if_neg c1] at h
    refine zs_aload_n hX dX13_sayName_7 rfl rfl ?_
    refine zg_wAt hX dX13_sayName_8 ?_
    refine zs_aload_n hX dX13_sayName_11 rfl rfl ?_
    refine zg_dWord hX dX13_sayName_12 ?_
    refine zs_iload_n hX dX13_sayName_15 rfl rfl ?_
    obtain ⟨b9, h⟩ := zgd_e h
    refine zl_dWord hX dX13_sayName_16 (zin_ok b9) ?_
    obtain ⟨b10, h⟩ := zgd_e h
    refine zl_wAt hX dX13_sayName_17 (zin_ok b10) ?_
    refine zs_istore_n hX dX13_sayName_18 rfl (by decide) rfl ?_
    dsimp only [List.set]
    exact pl_sayName_19 hX hc n _ _ _ h
def j_sayFact_155 (n : Nat) (call : zCl) (h0 : Nat) (qs : List Nat) (ks : Nat → Nat) (σ : zSt) : zRs :=
  if (lg_cmp (σ.2.1 140) 0) = 0 then
    some (none, σ)
  else
    zcv (call 114 [.ref h0, .long (σ.2.1 140)] σ) fun s2 =>
    some (none, s2)
def j_sayFact_132 (n : Nat) (call : zCl) (h0 : Nat) (qs : List Nat) (ks : Nat → Nat) (σ : zSt) : zRs :=
  zcv (call 115 [.ref h0, .int (σ.1 138)] σ) fun s1 =>
  if (lg_cmp (s1.2.1 140) 0) ≤ 0 then
    j_sayFact_155 n call h0 qs ks s1
  else
    zcv (call 112 [.ref h0, .int 43] s1) fun s4 =>
    j_sayFact_155 n call h0 qs ks s4
def j_sayFact_129 (n : Nat) (call : zCl) (h0 : Nat) (qs : List Nat) (ks : Nat → Nat) (t1 : Nat) (σ : zSt) : zRs :=
  zcv (call 113 [.ref h0, .ref t1] σ) fun s1 =>
  j_sayFact_132 n call h0 qs ks s1
def j_sayFact_95 (n : Nat) (call : zCl) (h0 : Nat) (qs : List Nat) (ks : Nat → Nat) (σ : zSt) : zRs :=
  zgd (zin (σ.1 138) 1501) (
  if (σ.2.2.1 66 ((σ.1 138)).toNatClampNeg) = 0 then
    j_sayFact_132 n call h0 qs ks σ
  else
    zgd (zin (σ.1 138) 1501) (
    if (σ.2.2.1 67 ((σ.1 138)).toNatClampNeg) = 0 then
      j_sayFact_129 n call h0 qs ks (ks 1013) σ
    else
      j_sayFact_129 n call h0 qs ks (ks 1011) σ))
def j_sayFact_63 (n : Nat) (call : zCl) (h0 : Nat) (qs : List Nat) (ks : Nat → Nat) (t1 : Nat) (σ : zSt) : zRs :=
  zcv (call 113 [.ref h0, .ref t1] σ) fun s1 =>
  if (s1.1 139) = 0 then
    zcv (call 114 [.ref h0, .long (s1.2.1 140)] s1) fun s7 =>
    some (none, s7)
  else
    if 0 ≤ (s1.1 139) then
      j_sayFact_95 n call h0 qs ks s1
    else
      zcv (call 112 [.ref h0, .int 45] s1) fun s5 =>
      j_sayFact_95 n call h0 qs ks s5
def j_sayFact_10 (n : Nat) (call : zCl) (h0 : Nat) (qs : List Nat) (ks : Nat → Nat) (x1 : Int32) (σ : zSt) : zRs :=
  zcv (call 112 [.ref h0, .int 118] σ) fun s1 =>
  if x1 = 0 then
    j_sayFact_63 n call h0 qs ks (ks 457) s1
  else
    if x1 = 1 then
      j_sayFact_63 n call h0 qs ks (ks 459) s1
    else
      if x1 = 2 then
        j_sayFact_63 n call h0 qs ks (ks 461) s1
      else
        if x1 = 3 then
          j_sayFact_63 n call h0 qs ks (ks 463) s1
        else
          j_sayFact_63 n call h0 qs ks (ks 465) s1
def b_sayFact (n : Nat) (call : zCl) (h0 : Nat) (qs : List Nat) (ks : Nat → Nat) (x1 : Int32) (x2 : Int32) (σ : zSt) : zRs :=
  if x2 = 0 then
    zcv (call 112 [.ref h0, .int 38] σ) fun s2 =>
    j_sayFact_10 n call h0 qs ks x1 s2
  else
    j_sayFact_10 n call h0 qs ks x1 σ
set_option maxHeartbeats 4000000 in
theorem pj_sayFact_155 {h0 : Nat} {qs : List Nat} {ks : Nat → Nat} {n : Nat} {call : zCl} {kc : Nat → List Value → zSt → (Option Value → zSt → Prop) → Prop} {v : Option Value × zSt} {X : Nat → zLv → List Value → zSt → Prop} (hX : zSem cX13_sayFact 3 none h0 qs ks kc (fun r u => (r, u) = v) X) (hc : ∀ j av s w, call j av s = some w → kc j av s (fun r u => (r, u) = w)) {σ : zSt} (h : j_sayFact_155 n call h0 qs ks σ = some v) : X 155 [some (.ref h0), none, none] [] σ := by
  rw [j_sayFact_155] at h
  refine zs_aload_n hX dX13_sayFact_155 rfl rfl ?_
  refine zg_uNumber hX dX13_sayFact_156 ?_
  refine zs_lconst (v := 0) hX dX13_sayFact_159 (by decide) ?_
  refine zs_lcmp hX dX13_sayFact_160 ?_
  refine zs_if_eq (tgt := 172) hX dX13_sayFact_161 (by decide) (fun c1 => ?_) (fun c1 => ?_)
  · rw [if_pos c1] at h
    exact zs_vret hX dX13_sayFact_172 rfl (Option.some.inj h)
  · rw [if_neg c1] at h
    refine zs_aload_n hX dX13_sayFact_164 rfl rfl ?_
    refine zs_aload_n hX dX13_sayFact_165 rfl rfl ?_
    refine zg_uNumber hX dX13_sayFact_166 ?_
    obtain ⟨s2, e3, h⟩ := zcv_e h
    refine zc_sayNumber hX dX13_sayFact_169 (Nat.le_of_ble_eq_true rfl) (hc _ _ _ _ e3) (fun u9 h9 => ?_)
    cases h9
    exact zs_vret hX dX13_sayFact_172 rfl (Option.some.inj h)
set_option maxHeartbeats 4000000 in
theorem pj_sayFact_132 {h0 : Nat} {qs : List Nat} {ks : Nat → Nat} {n : Nat} {call : zCl} {kc : Nat → List Value → zSt → (Option Value → zSt → Prop) → Prop} {v : Option Value × zSt} {X : Nat → zLv → List Value → zSt → Prop} (hX : zSem cX13_sayFact 3 none h0 qs ks kc (fun r u => (r, u) = v) X) (hc : ∀ j av s w, call j av s = some w → kc j av s (fun r u => (r, u) = w)) {σ : zSt} (h : j_sayFact_132 n call h0 qs ks σ = some v) : X 132 [some (.ref h0), none, none] [] σ := by
  rw [j_sayFact_132] at h
  refine zs_aload_n hX dX13_sayFact_132 rfl rfl ?_
  refine zs_aload_n hX dX13_sayFact_133 rfl rfl ?_
  refine zg_uName hX dX13_sayFact_134 ?_
  obtain ⟨s1, e2, h⟩ := zcv_e h
  refine zc_sayName hX dX13_sayFact_137 (Nat.le_of_ble_eq_true rfl) (hc _ _ _ _ e2) (fun u9 h9 => ?_)
  cases h9
  refine zs_aload_n hX dX13_sayFact_140 rfl rfl ?_
  refine zg_uNumber hX dX13_sayFact_141 ?_
  refine zs_lconst (v := 0) hX dX13_sayFact_144 (by decide) ?_
  refine zs_lcmp hX dX13_sayFact_145 ?_
  refine zs_if_le (tgt := 155) hX dX13_sayFact_146 (by decide) (fun c3 => ?_) (fun c3 => ?_)
  · rw [if_pos c3] at h
    exact pj_sayFact_155 hX hc h
  · rw [if_neg c3] at h
    refine zs_aload_n hX dX13_sayFact_149 rfl rfl ?_
    refine zs_bipush (v := 43) hX dX13_sayFact_150 (by decide) ?_
    obtain ⟨s4, e5, h⟩ := zcv_e h
    refine zc_say hX dX13_sayFact_152 (Nat.le_of_ble_eq_true rfl) (hc _ _ _ _ e5) (fun u9 h9 => ?_)
    cases h9
    exact pj_sayFact_155 hX hc h
set_option maxHeartbeats 4000000 in
theorem pj_sayFact_129 {h0 : Nat} {qs : List Nat} {ks : Nat → Nat} {n : Nat} {call : zCl} {kc : Nat → List Value → zSt → (Option Value → zSt → Prop) → Prop} {v : Option Value × zSt} {X : Nat → zLv → List Value → zSt → Prop} (hX : zSem cX13_sayFact 3 none h0 qs ks kc (fun r u => (r, u) = v) X) (hc : ∀ j av s w, call j av s = some w → kc j av s (fun r u => (r, u) = w)) {t1 : Nat} {σ : zSt} (h : j_sayFact_129 n call h0 qs ks t1 σ = some v) : X 129 [some (.ref h0), none, none] [.ref t1, .ref h0] σ := by
  rw [j_sayFact_129] at h
  obtain ⟨s1, e2, h⟩ := zcv_e h
  refine zc_sayWord hX dX13_sayFact_129 (Nat.le_of_ble_eq_true rfl) (hc _ _ _ _ e2) (fun u9 h9 => ?_)
  cases h9
  exact pj_sayFact_132 hX hc h
set_option maxHeartbeats 4000000 in
theorem pj_sayFact_95 {h0 : Nat} {qs : List Nat} {ks : Nat → Nat} {n : Nat} {call : zCl} {kc : Nat → List Value → zSt → (Option Value → zSt → Prop) → Prop} {v : Option Value × zSt} {X : Nat → zLv → List Value → zSt → Prop} (hX : zSem cX13_sayFact 3 none h0 qs ks kc (fun r u => (r, u) = v) X) (hc : ∀ j av s w, call j av s = some w → kc j av s (fun r u => (r, u) = w)) {σ : zSt} (h : j_sayFact_95 n call h0 qs ks σ = some v) : X 95 [some (.ref h0), none, none] [] σ := by
  rw [j_sayFact_95] at h
  refine zs_aload_n hX dX13_sayFact_95 rfl rfl ?_
  refine zg_isLength hX dX13_sayFact_96 ?_
  refine zs_aload_n hX dX13_sayFact_99 rfl rfl ?_
  refine zg_uName hX dX13_sayFact_100 ?_
  obtain ⟨b1, h⟩ := zgd_e h
  refine zl_isLength hX dX13_sayFact_103 (zin_ok b1) ?_
  refine zs_if_eq (tgt := 132) hX dX13_sayFact_104 (by decide) (fun c2 => ?_) (fun c2 => ?_)
  · rw [if_pos c2] at h
    exact pj_sayFact_132 hX hc h
  · rw [if_neg c2] at h
    refine zs_aload_n hX dX13_sayFact_107 rfl rfl ?_
    refine zs_aload_n hX dX13_sayFact_108 rfl rfl ?_
    refine zg_isSize hX dX13_sayFact_109 ?_
    refine zs_aload_n hX dX13_sayFact_112 rfl rfl ?_
    refine zg_uName hX dX13_sayFact_113 ?_
    obtain ⟨b3, h⟩ := zgd_e h
    refine zl_isSize hX dX13_sayFact_116 (zin_ok b3) ?_
    refine zs_if_eq (tgt := 126) hX dX13_sayFact_117 (by decide) (fun c4 => ?_) (fun c4 => ?_)
    · rw [if_pos c4] at h
      refine zs_ldcS hX dX13_sayFact_126 (List.mem_of_getElem? (i := 48) rfl) ?_
      exact pj_sayFact_129 hX hc h
    · rw [if_neg c4] at h
      refine zs_ldcS hX dX13_sayFact_120 (List.mem_of_getElem? (i := 47) rfl) ?_
      refine zs_goto (tgt := 129) hX dX13_sayFact_123 (by decide) ?_
      exact pj_sayFact_129 hX hc h
set_option maxHeartbeats 4000000 in
theorem pj_sayFact_63 {h0 : Nat} {qs : List Nat} {ks : Nat → Nat} {n : Nat} {call : zCl} {kc : Nat → List Value → zSt → (Option Value → zSt → Prop) → Prop} {v : Option Value × zSt} {X : Nat → zLv → List Value → zSt → Prop} (hX : zSem cX13_sayFact 3 none h0 qs ks kc (fun r u => (r, u) = v) X) (hc : ∀ j av s w, call j av s = some w → kc j av s (fun r u => (r, u) = w)) {t1 : Nat} {σ : zSt} (h : j_sayFact_63 n call h0 qs ks t1 σ = some v) : X 63 [some (.ref h0), none, none] [.ref t1, .ref h0] σ := by
  rw [j_sayFact_63] at h
  obtain ⟨s1, e2, h⟩ := zcv_e h
  refine zc_sayWord hX dX13_sayFact_63 (Nat.le_of_ble_eq_true rfl) (hc _ _ _ _ e2) (fun u9 h9 => ?_)
  cases h9
  refine zs_aload_n hX dX13_sayFact_66 rfl rfl ?_
  refine zg_uTimes hX dX13_sayFact_67 ?_
  refine zs_if_ne (tgt := 82) hX dX13_sayFact_70 (by decide) (fun c3 => ?_) (fun c3 => ?_)
  · rw [if_neg c3] at h
    refine zs_aload_n hX dX13_sayFact_82 rfl rfl ?_
    refine zg_uTimes hX dX13_sayFact_83 ?_
    refine zs_if_ge (tgt := 95) hX dX13_sayFact_86 (by decide) (fun c4 => ?_) (fun c4 => ?_)
    · rw [if_pos c4] at h
      exact pj_sayFact_95 hX hc h
    · rw [if_neg c4] at h
      refine zs_aload_n hX dX13_sayFact_89 rfl rfl ?_
      refine zs_bipush (v := 45) hX dX13_sayFact_90 (by decide) ?_
      obtain ⟨s5, e6, h⟩ := zcv_e h
      refine zc_say hX dX13_sayFact_92 (Nat.le_of_ble_eq_true rfl) (hc _ _ _ _ e6) (fun u9 h9 => ?_)
      cases h9
      exact pj_sayFact_95 hX hc h
  · rw [if_pos c3] at h
    refine zs_aload_n hX dX13_sayFact_73 rfl rfl ?_
    refine zs_aload_n hX dX13_sayFact_74 rfl rfl ?_
    refine zg_uNumber hX dX13_sayFact_75 ?_
    obtain ⟨s7, e8, h⟩ := zcv_e h
    refine zc_sayNumber hX dX13_sayFact_78 (Nat.le_of_ble_eq_true rfl) (hc _ _ _ _ e8) (fun u9 h9 => ?_)
    cases h9
    exact zs_vret hX dX13_sayFact_81 rfl (Option.some.inj h)
set_option maxHeartbeats 4000000 in
theorem pj_sayFact_10 {h0 : Nat} {qs : List Nat} {ks : Nat → Nat} {n : Nat} {call : zCl} {kc : Nat → List Value → zSt → (Option Value → zSt → Prop) → Prop} {v : Option Value × zSt} {X : Nat → zLv → List Value → zSt → Prop} (hX : zSem cX13_sayFact 3 none h0 qs ks kc (fun r u => (r, u) = v) X) (hc : ∀ j av s w, call j av s = some w → kc j av s (fun r u => (r, u) = w)) {x1 : Int32} {σ : zSt} (h : j_sayFact_10 n call h0 qs ks x1 σ = some v) : X 10 [some (.ref h0), some (.int x1), none] [] σ := by
  rw [j_sayFact_10] at h
  refine zs_aload_n hX dX13_sayFact_10 rfl rfl ?_
  refine zs_bipush (v := 118) hX dX13_sayFact_11 (by decide) ?_
  obtain ⟨s1, e2, h⟩ := zcv_e h
  refine zc_say hX dX13_sayFact_13 (Nat.le_of_ble_eq_true rfl) (hc _ _ _ _ e2) (fun u9 h9 => ?_)
  cases h9
  refine zs_aload_n hX dX13_sayFact_16 rfl rfl ?_
  refine zs_iload_n hX dX13_sayFact_17 rfl rfl ?_
  refine zs_if_ne (tgt := 27) hX dX13_sayFact_18 (by decide) (fun c3 => ?_) (fun c3 => ?_)
  · rw [if_neg c3] at h
    refine zs_iload_n hX dX13_sayFact_27 rfl rfl ?_
    refine zs_iconst (v := 1) hX dX13_sayFact_28 (by decide) ?_
    refine zs_icmp_ne (tgt := 38) hX dX13_sayFact_29 (by decide) (fun c4 => ?_) (fun c4 => ?_)
    · rw [if_neg c4] at h
      refine zs_iload_n hX dX13_sayFact_38 rfl rfl ?_
      refine zs_iconst (v := 2) hX dX13_sayFact_39 (by decide) ?_
      refine zs_icmp_ne (tgt := 49) hX dX13_sayFact_40 (by decide) (fun c5 => ?_) (fun c5 => ?_)
      · rw [if_neg c5] at h
        refine zs_iload_n hX dX13_sayFact_49 rfl rfl ?_
        refine zs_iconst (v := 3) hX dX13_sayFact_50 (by decide) ?_
        refine zs_icmp_ne (tgt := 60) hX dX13_sayFact_51 (by decide) (fun c6 => ?_) (fun c6 => ?_)
        · rw [if_neg c6] at h
          refine zs_ldcS hX dX13_sayFact_60 (List.mem_of_getElem? (i := 11) rfl) ?_
          refine zs_weak hX (lw := [some (.ref h0), none, none]) ⟨rfl, trivial⟩ ?_
          exact pj_sayFact_63 hX hc h
        · rw [if_pos c6] at h
          refine zs_ldcS hX dX13_sayFact_54 (List.mem_of_getElem? (i := 10) rfl) ?_
          refine zs_goto (tgt := 63) hX dX13_sayFact_57 (by decide) ?_
          refine zs_weak hX (lw := [some (.ref h0), none, none]) ⟨rfl, trivial⟩ ?_
          exact pj_sayFact_63 hX hc h
      · rw [if_pos c5] at h
        refine zs_ldcS hX dX13_sayFact_43 (List.mem_of_getElem? (i := 9) rfl) ?_
        refine zs_goto (tgt := 63) hX dX13_sayFact_46 (by decide) ?_
        refine zs_weak hX (lw := [some (.ref h0), none, none]) ⟨rfl, trivial⟩ ?_
        exact pj_sayFact_63 hX hc h
    · rw [if_pos c4] at h
      refine zs_ldcS hX dX13_sayFact_32 (List.mem_of_getElem? (i := 8) rfl) ?_
      refine zs_goto (tgt := 63) hX dX13_sayFact_35 (by decide) ?_
      refine zs_weak hX (lw := [some (.ref h0), none, none]) ⟨rfl, trivial⟩ ?_
      exact pj_sayFact_63 hX hc h
  · rw [if_pos c3] at h
    refine zs_ldcS hX dX13_sayFact_21 (List.mem_of_getElem? (i := 7) rfl) ?_
    refine zs_goto (tgt := 63) hX dX13_sayFact_24 (by decide) ?_
    refine zs_weak hX (lw := [some (.ref h0), none, none]) ⟨rfl, trivial⟩ ?_
    exact pj_sayFact_63 hX hc h
set_option maxHeartbeats 4000000 in
theorem pb_sayFact {h0 : Nat} {qs : List Nat} {ks : Nat → Nat} {n : Nat} {call : zCl} {kc : Nat → List Value → zSt → (Option Value → zSt → Prop) → Prop} {v : Option Value × zSt} {X : Nat → zLv → List Value → zSt → Prop} (hX : zSem cX13_sayFact 3 none h0 qs ks kc (fun r u => (r, u) = v) X) (hc : ∀ j av s w, call j av s = some w → kc j av s (fun r u => (r, u) = w)) {x1 : Int32} {x2 : Int32} {σ : zSt} (h : b_sayFact n call h0 qs ks x1 x2 σ = some v) : X 0 [some (.ref h0), some (.int x1), some (.int x2)] [] σ := by
  rw [b_sayFact] at h
  refine zs_iload_n hX dX13_sayFact_0 rfl rfl ?_
  refine zs_if_ne (tgt := 10) hX dX13_sayFact_1 (by decide) (fun c1 => ?_) (fun c1 => ?_)
  · rw [if_neg c1] at h
    refine zs_weak hX (lw := [some (.ref h0), some (.int x1), none]) ⟨rfl, rfl, trivial⟩ ?_
    exact pj_sayFact_10 hX hc h
  · rw [if_pos c1] at h
    refine zs_aload_n hX dX13_sayFact_4 rfl rfl ?_
    refine zs_bipush (v := 38) hX dX13_sayFact_5 (by decide) ?_
    obtain ⟨s2, e3, h⟩ := zcv_e h
    refine zc_say hX dX13_sayFact_7 (Nat.le_of_ble_eq_true rfl) (hc _ _ _ _ e3) (fun u9 h9 => ?_)
    cases h9
    refine zs_weak hX (lw := [some (.ref h0), some (.int x1), none]) ⟨rfl, rfl, trivial⟩ ?_
    exact pj_sayFact_10 hX hc h
def j_sayType_315 (n : Nat) (call : zCl) (h0 : Nat) (qs : List Nat) (ks : Nat → Nat) (x1 : Int32) (σ : zSt) : zRs :=
  zgd (zin x1 40000) (
  if (σ.2.2.1 42 (x1).toNatClampNeg) = 3 then
    zcv (call 113 [.ref h0, .ref (ks 489)] σ) fun s9 =>
    some (none, s9)
  else
    zgd (zin x1 40000) (
    if (σ.2.2.1 42 (x1).toNatClampNeg) = 5 then
      zcv (call 113 [.ref h0, .ref (ks 491)] σ) fun s7 =>
      some (none, s7)
    else
      zcv (call 113 [.ref h0, .ref (ks 493)] σ) fun s5 =>
      some (none, s5)))
def j_sayType_305 (n : Nat) (call : zCl) (h0 : Nat) (qs : List Nat) (ks : Nat → Nat) (x1 : Int32) (x3 : Int32) (σ : zSt) : zRs :=
  if x3 = 0 then
    zcv (call 112 [.ref h0, .int 125] σ) fun s2 =>
    j_sayType_315 n call h0 qs ks x1 s2
  else
    j_sayType_315 n call h0 qs ks x1 σ
def j_sayType_299 (n : Nat) (call : zCl) (h0 : Nat) (qs : List Nat) (ks : Nat → Nat) (k228 : Int32 → Int32 → Int32 → Int32 → Int32 → zSt → zRs) (x1 : Int32) (x2 : Int32) (x3 : Int32) (x4 : Int32) (x5 : Int32) (σ : zSt) : zRs :=
  k228 x1 x2 x3 x4 (x5 + 1) σ
def j_sayType_268 (n : Nat) (call : zCl) (h0 : Nat) (qs : List Nat) (ks : Nat → Nat) (k228 : Int32 → Int32 → Int32 → Int32 → Int32 → zSt → zRs) (x1 : Int32) (x2 : Int32) (x3 : Int32) (x4 : Int32) (x5 : Int32) (σ : zSt) : zRs :=
  zgd (zin x2 24000) (
  zcv (call 93 [.ref h0, .int x5, .int (σ.2.2.1 49 (x2).toNatClampNeg)] σ) fun s2 =>
  zgd (zin x5 8000) (
  zgd (zin (s2.2.2.1 63 (x5).toNatClampNeg) 6) (
  zcv (call 116 [.ref h0, .int (s2.2.2.1 23 ((s2.2.2.1 63 (x5).toNatClampNeg)).toNatClampNeg), .int x3] s2) fun s6 =>
  j_sayType_299 n call h0 qs ks k228 x1 x2 0 x4 x5 s6)))
def l_sayType_228 (n : Nat) (call : zCl) (h0 : Nat) (qs : List Nat) (ks : Nat → Nat) : Nat → Int32 → Int32 → Int32 → Int32 → Int32 → zSt → zRs
  | 0, _, _, _, _, _, _ => none
  | f + 1, x1, x2, x3, x4, x5, σ =>
    if x4 < 0 then
      j_sayType_305 n call h0 qs ks x1 x3 σ
    else
      zgd (zin x4 64) (
      if (σ.2.2.1 62 (x4).toNatClampNeg) ≤ x5 then
        j_sayType_305 n call h0 qs ks x1 x3 σ
      else
        zgd (zin x5 8000) (
        if (σ.2.2.1 65 (x5).toNatClampNeg) = 0 then
          j_sayType_299 n call h0 qs ks (l_sayType_228 n call h0 qs ks f) x1 x2 x3 x4 x5 σ
        else
          if x3 = 0 then
            j_sayType_268 n call h0 qs ks (l_sayType_228 n call h0 qs ks f) x1 x2 x3 x4 x5 σ
          else
            zcv (call 112 [.ref h0, .int 123] σ) fun s7 =>
            j_sayType_268 n call h0 qs ks (l_sayType_228 n call h0 qs ks f) x1 x2 x3 x4 x5 s7))
def j_sayType_226 (n : Nat) (call : zCl) (h0 : Nat) (qs : List Nat) (ks : Nat → Nat) (x1 : Int32) (x2 : Int32) (x3 : Int32) (x4 : Int32) (t0 : Int32) (σ : zSt) : zRs :=
  l_sayType_228 n call h0 qs ks n x1 x2 x3 x4 t0 σ
def j_sayType_145 (n : Nat) (call : zCl) (h0 : Nat) (qs : List Nat) (ks : Nat → Nat) (k130 : Int32 → Int32 → Int32 → Int32 → zSt → zRs) (x1 : Int32) (x2 : Int32) (x3 : Int32) (x4 : Int32) (σ : zSt) : zRs :=
  zgd (zin x4 12000) (
  zgd (zin x4 12000) (
  zgd (zin x4 12000) (
  zgd (zin x2 24000) (
  zcv (call 92 [.ref h0, .int (σ.2.2.1 51 (x4).toNatClampNeg), .int (σ.2.2.1 52 (x4).toNatClampNeg), .long (σ.2.2.2 54 (x4).toNatClampNeg), .int (σ.2.2.1 49 (x2).toNatClampNeg)] σ) fun s5 =>
  zgd (zin x4 12000) (
  zcv (call 116 [.ref h0, .int (s5.2.2.1 50 (x4).toNatClampNeg), .int x3] s5) fun s8 =>
  zgd (zin x4 12000) (
  k130 x1 x2 0 (s8.2.2.1 53 (x4).toNatClampNeg) s8))))))
def l_sayType_130 (n : Nat) (call : zCl) (h0 : Nat) (qs : List Nat) (ks : Nat → Nat) : Nat → Int32 → Int32 → Int32 → Int32 → zSt → zRs
  | 0, _, _, _, _, _ => none
  | f + 1, x1, x2, x3, x4, σ =>
    if x4 < 0 then
      zgd (zin x2 24000) (
      if 0 ≤ (σ.2.2.1 47 (x2).toNatClampNeg) then
        zgd (zin (σ.2.2.1 47 (x2).toNatClampNeg) 64) (
        j_sayType_226 n call h0 qs ks x1 x2 x3 (σ.2.2.1 47 (x2).toNatClampNeg) (σ.2.2.1 61 ((σ.2.2.1 47 (x2).toNatClampNeg)).toNatClampNeg) σ)
      else
        j_sayType_226 n call h0 qs ks x1 x2 x3 (σ.2.2.1 47 (x2).toNatClampNeg) 0 σ)
    else
      if x3 = 0 then
        j_sayType_145 n call h0 qs ks (l_sayType_130 n call h0 qs ks f) x1 x2 x3 x4 σ
      else
        zcv (call 112 [.ref h0, .int 123] σ) fun s6 =>
        j_sayType_145 n call h0 qs ks (l_sayType_130 n call h0 qs ks f) x1 x2 x3 x4 s6
def j_sayType_95 (n : Nat) (call : zCl) (h0 : Nat) (qs : List Nat) (ks : Nat → Nat) (x1 : Int32) (σ : zSt) : zRs :=
  zcv (call 113 [.ref h0, .ref (ks 545)] σ) fun s1 =>
  zgd (zin x1 40000) (
  zcv (call 117 [.ref h0, .int (s1.2.2.1 46 (x1).toNatClampNeg)] s1) fun s4 =>
  some (none, s4))
def j_sayType_75 (n : Nat) (call : zCl) (h0 : Nat) (qs : List Nat) (ks : Nat → Nat) (x1 : Int32) (x2 : Int32) (σ : zSt) : zRs :=
  zgd (zin x1 40000) (
  zcv (call 117 [.ref h0, .int (σ.2.2.1 45 (x1).toNatClampNeg)] σ) fun s2 =>
  if x2 = 0 then
    j_sayType_95 n call h0 qs ks x1 s2
  else
    zcv (call 112 [.ref h0, .int 41] s2) fun s5 =>
    j_sayType_95 n call h0 qs ks x1 s5)
def j_sayType_64 (n : Nat) (call : zCl) (h0 : Nat) (qs : List Nat) (ks : Nat → Nat) (x1 : Int32) (t0 : Int32) (σ : zSt) : zRs :=
  if t0 = 0 then
    j_sayType_75 n call h0 qs ks x1 t0 σ
  else
    zcv (call 112 [.ref h0, .int 40] σ) fun s2 =>
    j_sayType_75 n call h0 qs ks x1 t0 s2
def b_sayType (n : Nat) (call : zCl) (h0 : Nat) (qs : List Nat) (ks : Nat → Nat) (x1 : Int32) (σ : zSt) : zRs :=
  zgd (zin x1 40000) (
  if (σ.2.2.1 42 (x1).toNatClampNeg) = 2 then
    zcv (call 113 [.ref h0, .ref (ks 522)] σ) fun s15 =>
    some (none, s15)
  else
    zgd (zin x1 40000) (
    if (σ.2.2.1 42 (x1).toNatClampNeg) = 4 then
      zgd (zin x1 40000) (
      zcv (call 115 [.ref h0, .int (σ.2.2.1 44 (x1).toNatClampNeg)] σ) fun s8 =>
      zcv (call 112 [.ref h0, .int 58] s8) fun s10 =>
      zgd (zin x1 40000) (
      zgd (zin (s10.2.2.1 45 (x1).toNatClampNeg) 40000) (
      if (s10.2.2.1 42 ((s10.2.2.1 45 (x1).toNatClampNeg)).toNatClampNeg) = 4 then
        j_sayType_64 n call h0 qs ks x1 1 s10
      else
        j_sayType_64 n call h0 qs ks x1 0 s10)))
    else
      zgd (zin x1 40000) (
      zgd (zin (σ.2.2.1 43 (x1).toNatClampNeg) 24000) (
      l_sayType_130 n call h0 qs ks n x1 (σ.2.2.1 43 (x1).toNatClampNeg) 1 (σ.2.2.1 48 ((σ.2.2.1 43 (x1).toNatClampNeg)).toNatClampNeg) σ))))
set_option maxHeartbeats 4000000 in
theorem pj_sayType_315 {h0 : Nat} {qs : List Nat} {ks : Nat → Nat} {n : Nat} {call : zCl} {kc : Nat → List Value → zSt → (Option Value → zSt → Prop) → Prop} {v : Option Value × zSt} {X : Nat → zLv → List Value → zSt → Prop} (hX : zSem cX13_sayType 6 none h0 qs ks kc (fun r u => (r, u) = v) X) (hc : ∀ j av s w, call j av s = some w → kc j av s (fun r u => (r, u) = w)) {x1 : Int32} {σ : zSt} (h : j_sayType_315 n call h0 qs ks x1 σ = some v) : X 315 [some (.ref h0), some (.int x1), none, none, none, none] [] σ := by
  rw [j_sayType_315] at h
  refine zs_aload_n hX dX13_sayType_315 rfl rfl ?_
  refine zs_aload_n hX dX13_sayType_316 rfl rfl ?_
  refine zg_rKind hX dX13_sayType_317 ?_
  refine zs_iload_n hX dX13_sayType_320 rfl rfl ?_
  obtain ⟨b1, h⟩ := zgd_e h
  refine zl_rKind hX dX13_sayType_321 (zin_ok b1) ?_
  refine zs_iconst (v := 3) hX dX13_sayType_322 (by decide) ?_
  refine zs_icmp_ne (tgt := 332) hX dX13_sayType_323 (by decide) (fun c2 => ?_) (fun c2 => ?_)
  · rw [if_neg c2] at h
    refine zs_aload_n hX dX13_sayType_332 rfl rfl ?_
    refine zg_rKind hX dX13_sayType_333 ?_
    refine zs_iload_n hX dX13_sayType_336 rfl rfl ?_
    obtain ⟨b3, h⟩ := zgd_e h
    refine zl_rKind hX dX13_sayType_337 (zin_ok b3) ?_
    refine zs_iconst (v := 5) hX dX13_sayType_338 (by decide) ?_
    refine zs_icmp_ne (tgt := 348) hX dX13_sayType_339 (by decide) (fun c4 => ?_) (fun c4 => ?_)
    · rw [if_neg c4] at h
      refine zs_ldcS hX dX13_sayType_348 (List.mem_of_getElem? (i := 4) rfl) ?_
      obtain ⟨s5, e6, h⟩ := zcv_e h
      refine zc_sayWord hX dX13_sayType_351 (Nat.le_of_ble_eq_true rfl) (hc _ _ _ _ e6) (fun u9 h9 => ?_)
      cases h9
      exact zs_vret hX dX13_sayType_354 rfl (Option.some.inj h)
    · rw [if_pos c4] at h
      refine zs_ldcS hX dX13_sayType_342 (List.mem_of_getElem? (i := 3) rfl) ?_
      refine zs_goto (tgt := 351) hX dX13_sayType_345 (by decide) ?_
      obtain ⟨s7, e8, h⟩ := zcv_e h
      refine zc_sayWord hX dX13_sayType_351 (Nat.le_of_ble_eq_true rfl) (hc _ _ _ _ e8) (fun u9 h9 => ?_)
      cases h9
      exact zs_vret hX dX13_sayType_354 rfl (Option.some.inj h)
  · rw [if_pos c2] at h
    refine zs_ldcS hX dX13_sayType_326 (List.mem_of_getElem? (i := 2) rfl) ?_
    refine zs_goto (tgt := 351) hX dX13_sayType_329 (by decide) ?_
    obtain ⟨s9, e10, h⟩ := zcv_e h
    refine zc_sayWord hX dX13_sayType_351 (Nat.le_of_ble_eq_true rfl) (hc _ _ _ _ e10) (fun u9 h9 => ?_)
    cases h9
    exact zs_vret hX dX13_sayType_354 rfl (Option.some.inj h)
set_option maxHeartbeats 4000000 in
theorem pj_sayType_305 {h0 : Nat} {qs : List Nat} {ks : Nat → Nat} {n : Nat} {call : zCl} {kc : Nat → List Value → zSt → (Option Value → zSt → Prop) → Prop} {v : Option Value × zSt} {X : Nat → zLv → List Value → zSt → Prop} (hX : zSem cX13_sayType 6 none h0 qs ks kc (fun r u => (r, u) = v) X) (hc : ∀ j av s w, call j av s = some w → kc j av s (fun r u => (r, u) = w)) {x1 : Int32} {x3 : Int32} {σ : zSt} (h : j_sayType_305 n call h0 qs ks x1 x3 σ = some v) : X 305 [some (.ref h0), some (.int x1), none, some (.int x3), none, none] [] σ := by
  rw [j_sayType_305] at h
  refine zs_iload_n hX dX13_sayType_305 rfl rfl ?_
  refine zs_if_ne (tgt := 315) hX dX13_sayType_306 (by decide) (fun c1 => ?_) (fun c1 => ?_)
  · rw [if_neg c1] at h
    refine zs_weak hX (lw := [some (.ref h0), some (.int x1), none, none, none, none]) ⟨rfl, rfl, trivial⟩ ?_
    exact pj_sayType_315 hX hc h
  · rw [if_pos c1] at h
    refine zs_aload_n hX dX13_sayType_309 rfl rfl ?_
    refine zs_bipush (v := 125) hX dX13_sayType_310 (by decide) ?_
    obtain ⟨s2, e3, h⟩ := zcv_e h
    refine zc_say hX dX13_sayType_312 (Nat.le_of_ble_eq_true rfl) (hc _ _ _ _ e3) (fun u9 h9 => ?_)
    cases h9
    refine zs_weak hX (lw := [some (.ref h0), some (.int x1), none, none, none, none]) ⟨rfl, rfl, trivial⟩ ?_
    exact pj_sayType_315 hX hc h
set_option maxHeartbeats 4000000 in
theorem pj_sayType_299 {h0 : Nat} {qs : List Nat} {ks : Nat → Nat} {n : Nat} {call : zCl} {kc : Nat → List Value → zSt → (Option Value → zSt → Prop) → Prop} {v : Option Value × zSt} {X : Nat → zLv → List Value → zSt → Prop} (hX : zSem cX13_sayType 6 none h0 qs ks kc (fun r u => (r, u) = v) X) (hc : ∀ j av s w, call j av s = some w → kc j av s (fun r u => (r, u) = w)) {k228 : Int32 → Int32 → Int32 → Int32 → Int32 → zSt → zRs} (hk228 : ∀ (x1 : Int32) (x2 : Int32) (x3 : Int32) (x4 : Int32) (x5 : Int32) (s : zSt), k228 x1 x2 x3 x4 x5 s = some v → X 228 [some (.ref h0), some (.int x1), some (.int x2), some (.int x3), some (.int x4), some (.int x5)] [] s) {x1 : Int32} {x2 : Int32} {x3 : Int32} {x4 : Int32} {x5 : Int32} {σ : zSt} (h : j_sayType_299 n call h0 qs ks k228 x1 x2 x3 x4 x5 σ = some v) : X 299 [some (.ref h0), some (.int x1), some (.int x2), some (.int x3), some (.int x4), some (.int x5)] [] σ := by
  rw [j_sayType_299] at h
  refine zs_iinc (v := x5 + 1) hX dX13_sayType_299 rfl rfl (by decide) rfl ?_
  dsimp only [List.set]
  refine zs_goto (tgt := 228) hX dX13_sayType_302 (by decide) ?_
  exact hk228 _ _ _ _ _ _ h
set_option maxHeartbeats 4000000 in
theorem pj_sayType_268 {h0 : Nat} {qs : List Nat} {ks : Nat → Nat} {n : Nat} {call : zCl} {kc : Nat → List Value → zSt → (Option Value → zSt → Prop) → Prop} {v : Option Value × zSt} {X : Nat → zLv → List Value → zSt → Prop} (hX : zSem cX13_sayType 6 none h0 qs ks kc (fun r u => (r, u) = v) X) (hc : ∀ j av s w, call j av s = some w → kc j av s (fun r u => (r, u) = w)) {k228 : Int32 → Int32 → Int32 → Int32 → Int32 → zSt → zRs} (hk228 : ∀ (x1 : Int32) (x2 : Int32) (x3 : Int32) (x4 : Int32) (x5 : Int32) (s : zSt), k228 x1 x2 x3 x4 x5 s = some v → X 228 [some (.ref h0), some (.int x1), some (.int x2), some (.int x3), some (.int x4), some (.int x5)] [] s) {x1 : Int32} {x2 : Int32} {x3 : Int32} {x4 : Int32} {x5 : Int32} {σ : zSt} (h : j_sayType_268 n call h0 qs ks k228 x1 x2 x3 x4 x5 σ = some v) : X 268 [some (.ref h0), some (.int x1), some (.int x2), some (.int x3), some (.int x4), some (.int x5)] [] σ := by
  rw [j_sayType_268] at h
  refine zs_aload_n hX dX13_sayType_268 rfl rfl ?_
  refine zs_iload hX dX13_sayType_269 rfl ?_
  refine zs_aload_n hX dX13_sayType_271 rfl rfl ?_
  refine zg_saidPut hX dX13_sayType_272 ?_
  refine zs_iload_n hX dX13_sayType_275 rfl rfl ?_
  obtain ⟨b1, h⟩ := zgd_e h
  refine zl_saidPut hX dX13_sayType_276 (zin_ok b1) ?_
  obtain ⟨s2, e3, h⟩ := zcv_e h
  refine zc_instanceTerm hX dX13_sayType_277 (Nat.le_of_ble_eq_true rfl) (hc _ _ _ _ e3) (fun u9 h9 => ?_)
  cases h9
  refine zs_aload_n hX dX13_sayType_280 rfl rfl ?_
  refine zs_aload_n hX dX13_sayType_281 rfl rfl ?_
  refine zg_qRel hX dX13_sayType_282 ?_
  refine zs_aload_n hX dX13_sayType_285 rfl rfl ?_
  refine zg_byQual hX dX13_sayType_286 ?_
  refine zs_iload hX dX13_sayType_289 rfl ?_
  obtain ⟨b4, h⟩ := zgd_e h
  refine zl_byQual hX dX13_sayType_291 (zin_ok b4) ?_
  obtain ⟨b5, h⟩ := zgd_e h
  refine zl_qRel hX dX13_sayType_292 (zin_ok b5) ?_
  refine zs_iload_n hX dX13_sayType_293 rfl rfl ?_
  obtain ⟨s6, e7, h⟩ := zcv_e h
  refine zc_sayFact hX dX13_sayType_294 (Nat.le_of_ble_eq_true rfl) (hc _ _ _ _ e7) (fun u9 h9 => ?_)
  cases h9
  refine zs_iconst (v := 0) hX dX13_sayType_297 (by decide) ?_
  refine zs_istore_n hX dX13_sayType_298 rfl (by decide) rfl ?_
  dsimp only [List.set]
  exact pj_sayType_299 hX hc hk228 h
set_option maxHeartbeats 4000000 in
theorem pl_sayType_228 {h0 : Nat} {qs : List Nat} {ks : Nat → Nat} {n : Nat} {call : zCl} {kc : Nat → List Value → zSt → (Option Value → zSt → Prop) → Prop} {v : Option Value × zSt} {X : Nat → zLv → List Value → zSt → Prop} (hX : zSem cX13_sayType 6 none h0 qs ks kc (fun r u => (r, u) = v) X) (hc : ∀ j av s w, call j av s = some w → kc j av s (fun r u => (r, u) = w)) : ∀ (f : Nat) (x1 : Int32) (x2 : Int32) (x3 : Int32) (x4 : Int32) (x5 : Int32) (σ : zSt), l_sayType_228 n call h0 qs ks f x1 x2 x3 x4 x5 σ = some v → X 228 [some (.ref h0), some (.int x1), some (.int x2), some (.int x3), some (.int x4), some (.int x5)] [] σ := by
  intro f
  induction f with
  | zero => intro x1 x2 x3 x4 x5 σ h; cases h
  | succ f hk228 =>
    intro x1 x2 x3 x4 x5 σ h
    rw [l_sayType_228] at h
    refine zs_iload hX dX13_sayType_228 rfl ?_
    refine zs_if_lt (tgt := 305) hX dX13_sayType_230 (by decide) (fun c1 => ?_) (fun c1 => ?_)
    · rw [if_pos c1] at h
      refine zs_weak hX (lw := [some (.ref h0), some (.int x1), none, some (.int x3), none, none]) ⟨rfl, rfl, rfl, trivial⟩ ?_
      exact pj_sayType_305 hX hc h
    · rw [if_neg c1] at h
      refine zs_iload hX dX13_sayType_233 rfl ?_
      refine zs_aload_n hX dX13_sayType_235 rfl rfl ?_
      refine zg_caseTo hX dX13_sayType_236 ?_
      refine zs_iload hX dX13_sayType_239 rfl ?_
      obtain ⟨b2, h⟩ := zgd_e h
      refine zl_caseTo hX dX13_sayType_241 (zin_ok b2) ?_
      refine zs_icmp_ge (tgt := 305) hX dX13_sayType_242 (by decide) (fun c3 => ?_) (fun c3 => ?_)
      · rw [if_pos c3] at h
        refine zs_weak hX (lw := [some (.ref h0), some (.int x1), none, some (.int x3), none, none]) ⟨rfl, rfl, rfl, trivial⟩ ?_
        exact pj_sayType_305 hX hc h
      · rw [if_neg c3] at h
        refine zs_aload_n hX dX13_sayType_245 rfl rfl ?_
        refine zg_alive hX dX13_sayType_246 ?_
        refine zs_iload hX dX13_sayType_249 rfl ?_
        obtain ⟨b4, h⟩ := zgd_e h
        refine zl_alive hX dX13_sayType_251 (zin_ok b4) ?_
        refine zs_if_ne (tgt := 258) hX dX13_sayType_252 (by decide) (fun c5 => ?_) (fun c5 => ?_)
        · rw [if_neg c5] at h
          refine zs_iload_n hX dX13_sayType_258 rfl rfl ?_
          refine zs_if_eq (tgt := 268) hX dX13_sayType_259 (by decide) (fun c6 => ?_) (fun c6 => ?_)
          · rw [if_pos c6] at h
            exact pj_sayType_268 hX hc hk228 h
          · rw [if_neg c6] at h
            refine zs_aload_n hX dX13_sayType_262 rfl rfl ?_
            refine zs_bipush (v := 123) hX dX13_sayType_263 (by decide) ?_
            obtain ⟨s7, e8, h⟩ := zcv_e h
            refine zc_say hX dX13_sayType_265 (Nat.le_of_ble_eq_true rfl) (hc _ _ _ _ e8) (fun u9 h9 => ?_)
            cases h9
            exact pj_sayType_268 hX hc hk228 h
        · rw [if_pos c5] at h
          refine zs_goto (tgt := 299) hX dX13_sayType_255 (by decide) ?_
          exact pj_sayType_299 hX hc hk228 h
set_option maxHeartbeats 4000000 in
theorem pj_sayType_226 {h0 : Nat} {qs : List Nat} {ks : Nat → Nat} {n : Nat} {call : zCl} {kc : Nat → List Value → zSt → (Option Value → zSt → Prop) → Prop} {v : Option Value × zSt} {X : Nat → zLv → List Value → zSt → Prop} (hX : zSem cX13_sayType 6 none h0 qs ks kc (fun r u => (r, u) = v) X) (hc : ∀ j av s w, call j av s = some w → kc j av s (fun r u => (r, u) = w)) {x1 : Int32} {x2 : Int32} {x3 : Int32} {x4 : Int32} {t0 : Int32} {σ : zSt} (h : j_sayType_226 n call h0 qs ks x1 x2 x3 x4 t0 σ = some v) : X 226 [some (.ref h0), some (.int x1), some (.int x2), some (.int x3), some (.int x4), none] [.int t0] σ := by
  rw [j_sayType_226] at h
  refine zs_istore hX dX13_sayType_226 (by decide) rfl ?_
  dsimp only [List.set]
  exact pl_sayType_228 hX hc n _ _ _ _ _ _ h
set_option maxHeartbeats 4000000 in
theorem pj_sayType_145 {h0 : Nat} {qs : List Nat} {ks : Nat → Nat} {n : Nat} {call : zCl} {kc : Nat → List Value → zSt → (Option Value → zSt → Prop) → Prop} {v : Option Value × zSt} {X : Nat → zLv → List Value → zSt → Prop} (hX : zSem cX13_sayType 6 none h0 qs ks kc (fun r u => (r, u) = v) X) (hc : ∀ j av s w, call j av s = some w → kc j av s (fun r u => (r, u) = w)) {k130 : Int32 → Int32 → Int32 → Int32 → zSt → zRs} (hk130 : ∀ (x1 : Int32) (x2 : Int32) (x3 : Int32) (x4 : Int32) (s : zSt), k130 x1 x2 x3 x4 s = some v → X 130 [some (.ref h0), some (.int x1), some (.int x2), some (.int x3), some (.int x4), none] [] s) {x1 : Int32} {x2 : Int32} {x3 : Int32} {x4 : Int32} {σ : zSt} (h : j_sayType_145 n call h0 qs ks k130 x1 x2 x3 x4 σ = some v) : X 145 [some (.ref h0), some (.int x1), some (.int x2), some (.int x3), some (.int x4), none] [] σ := by
  rw [j_sayType_145] at h
  refine zs_aload_n hX dX13_sayType_145 rfl rfl ?_
  refine zs_aload_n hX dX13_sayType_146 rfl rfl ?_
  refine zg_factName hX dX13_sayType_147 ?_
  refine zs_iload hX dX13_sayType_150 rfl ?_
  obtain ⟨b1, h⟩ := zgd_e h
  refine zl_factName hX dX13_sayType_152 (zin_ok b1) ?_
  refine zs_aload_n hX dX13_sayType_153 rfl rfl ?_
  refine zg_factTimes hX dX13_sayType_154 ?_
  refine zs_iload hX dX13_sayType_157 rfl ?_
  obtain ⟨b2, h⟩ := zgd_e h
  refine zl_factTimes hX dX13_sayType_159 (zin_ok b2) ?_
  refine zs_aload_n hX dX13_sayType_160 rfl rfl ?_
  refine zg_factNumber hX dX13_sayType_161 ?_
  refine zs_iload hX dX13_sayType_164 rfl ?_
  obtain ⟨b3, h⟩ := zgd_e h
  refine zl_factNumber hX dX13_sayType_166 (zin_ok b3) ?_
  refine zs_aload_n hX dX13_sayType_167 rfl rfl ?_
  refine zg_saidPut hX dX13_sayType_168 ?_
  refine zs_iload_n hX dX13_sayType_171 rfl rfl ?_
  obtain ⟨b4, h⟩ := zgd_e h
  refine zl_saidPut hX dX13_sayType_172 (zin_ok b4) ?_
  obtain ⟨s5, e6, h⟩ := zcv_e h
  refine zc_termOf hX dX13_sayType_173 (Nat.le_of_ble_eq_true rfl) (hc _ _ _ _ e6) (fun u9 h9 => ?_)
  cases h9
  refine zs_aload_n hX dX13_sayType_176 rfl rfl ?_
  refine zs_aload_n hX dX13_sayType_177 rfl rfl ?_
  refine zg_factRel hX dX13_sayType_178 ?_
  refine zs_iload hX dX13_sayType_181 rfl ?_
  obtain ⟨b7, h⟩ := zgd_e h
  refine zl_factRel hX dX13_sayType_183 (zin_ok b7) ?_
  refine zs_iload_n hX dX13_sayType_184 rfl rfl ?_
  obtain ⟨s8, e9, h⟩ := zcv_e h
  refine zc_sayFact hX dX13_sayType_185 (Nat.le_of_ble_eq_true rfl) (hc _ _ _ _ e9) (fun u9 h9 => ?_)
  cases h9
  refine zs_iconst (v := 0) hX dX13_sayType_188 (by decide) ?_
  refine zs_istore_n hX dX13_sayType_189 rfl (by decide) rfl ?_
  dsimp only [List.set]
  refine zs_aload_n hX dX13_sayType_190 rfl rfl ?_
  refine zg_factNext hX dX13_sayType_191 ?_
  refine zs_iload hX dX13_sayType_194 rfl ?_
  obtain ⟨b10, h⟩ := zgd_e h
  refine zl_factNext hX dX13_sayType_196 (zin_ok b10) ?_
  refine zs_istore hX dX13_sayType_197 (by decide) rfl ?_
  dsimp only [List.set]
  refine zs_goto (tgt := 130) hX dX13_sayType_199 (by decide) ?_
  exact hk130 _ _ _ _ _ h
set_option maxHeartbeats 4000000 in
theorem pl_sayType_130 {h0 : Nat} {qs : List Nat} {ks : Nat → Nat} {n : Nat} {call : zCl} {kc : Nat → List Value → zSt → (Option Value → zSt → Prop) → Prop} {v : Option Value × zSt} {X : Nat → zLv → List Value → zSt → Prop} (hX : zSem cX13_sayType 6 none h0 qs ks kc (fun r u => (r, u) = v) X) (hc : ∀ j av s w, call j av s = some w → kc j av s (fun r u => (r, u) = w)) : ∀ (f : Nat) (x1 : Int32) (x2 : Int32) (x3 : Int32) (x4 : Int32) (σ : zSt), l_sayType_130 n call h0 qs ks f x1 x2 x3 x4 σ = some v → X 130 [some (.ref h0), some (.int x1), some (.int x2), some (.int x3), some (.int x4), none] [] σ := by
  intro f
  induction f with
  | zero => intro x1 x2 x3 x4 σ h; cases h
  | succ f hk130 =>
    intro x1 x2 x3 x4 σ h
    rw [l_sayType_130] at h
    refine zs_iload hX dX13_sayType_130 rfl ?_
    refine zs_if_lt (tgt := 202) hX dX13_sayType_132 (by decide) (fun c1 => ?_) (fun c1 => ?_)
    · rw [if_pos c1] at h
      refine zs_aload_n hX dX13_sayType_202 rfl rfl ?_
      refine zg_saidCase hX dX13_sayType_203 ?_
      refine zs_iload_n hX dX13_sayType_206 rfl rfl ?_
      obtain ⟨b2, h⟩ := zgd_e h
      refine zl_saidCase hX dX13_sayType_207 (zin_ok b2) ?_
      refine zs_istore hX dX13_sayType_208 (by decide) rfl ?_
      dsimp only [List.set]
      refine zs_iload hX dX13_sayType_210 rfl ?_
      refine zs_if_ge (tgt := 219) hX dX13_sayType_212 (by decide) (fun c3 => ?_) (fun c3 => ?_)
      · rw [if_pos c3] at h
        refine zs_aload_n hX dX13_sayType_219 rfl rfl ?_
        refine zg_caseFrom hX dX13_sayType_220 ?_
        refine zs_iload hX dX13_sayType_223 rfl ?_
        obtain ⟨b4, h⟩ := zgd_e h
        refine zl_caseFrom hX dX13_sayType_225 (zin_ok b4) ?_
        exact pj_sayType_226 hX hc h
      · rw [if_neg c3] at h
        refine zs_iconst (v := 0) hX dX13_sayType_215 (by decide) ?_
        refine zs_goto (tgt := 226) hX dX13_sayType_216 (by decide) ?_
        exact pj_sayType_226 hX hc h
    · rw [if_neg c1] at h
      refine zs_iload_n hX dX13_sayType_135 rfl rfl ?_
      refine zs_if_eq (tgt := 145) hX dX13_sayType_136 (by decide) (fun c5 => ?_) (fun c5 => ?_)
      · rw [if_pos c5] at h
        exact pj_sayType_145 hX hc hk130 h
      · rw [if_neg c5] at h
        refine zs_aload_n hX dX13_sayType_139 rfl rfl ?_
        refine zs_bipush (v := 123) hX dX13_sayType_140 (by decide) ?_
        obtain ⟨s6, e7, h⟩ := zcv_e h
        refine zc_say hX dX13_sayType_142 (Nat.le_of_ble_eq_true rfl) (hc _ _ _ _ e7) (fun u9 h9 => ?_)
        cases h9
        exact pj_sayType_145 hX hc hk130 h
set_option maxHeartbeats 4000000 in
theorem pj_sayType_95 {h0 : Nat} {qs : List Nat} {ks : Nat → Nat} {n : Nat} {call : zCl} {kc : Nat → List Value → zSt → (Option Value → zSt → Prop) → Prop} {v : Option Value × zSt} {X : Nat → zLv → List Value → zSt → Prop} (hX : zSem cX13_sayType 6 none h0 qs ks kc (fun r u => (r, u) = v) X) (hc : ∀ j av s w, call j av s = some w → kc j av s (fun r u => (r, u) = w)) {x1 : Int32} {σ : zSt} (h : j_sayType_95 n call h0 qs ks x1 σ = some v) : X 95 [some (.ref h0), some (.int x1), none, none, none, none] [] σ := by
  rw [j_sayType_95] at h
  refine zs_aload_n hX dX13_sayType_95 rfl rfl ?_
  refine zs_ldcS hX dX13_sayType_96 (List.mem_of_getElem? (i := 23) rfl) ?_
  obtain ⟨s1, e2, h⟩ := zcv_e h
  refine zc_sayWord hX dX13_sayType_99 (Nat.le_of_ble_eq_true rfl) (hc _ _ _ _ e2) (fun u9 h9 => ?_)
  cases h9
  refine zs_aload_n hX dX13_sayType_102 rfl rfl ?_
  refine zs_aload_n hX dX13_sayType_103 rfl rfl ?_
  refine zg_rRight hX dX13_sayType_104 ?_
  refine zs_iload_n hX dX13_sayType_107 rfl rfl ?_
  obtain ⟨b3, h⟩ := zgd_e h
  refine zl_rRight hX dX13_sayType_108 (zin_ok b3) ?_
  obtain ⟨s4, e5, h⟩ := zcv_e h
  refine zc_sayType hX dX13_sayType_109 (Nat.le_of_ble_eq_true rfl) (hc _ _ _ _ e5) (fun u9 h9 => ?_)
  cases h9
  exact zs_vret hX dX13_sayType_112 rfl (Option.some.inj h)
set_option maxHeartbeats 4000000 in
theorem pj_sayType_75 {h0 : Nat} {qs : List Nat} {ks : Nat → Nat} {n : Nat} {call : zCl} {kc : Nat → List Value → zSt → (Option Value → zSt → Prop) → Prop} {v : Option Value × zSt} {X : Nat → zLv → List Value → zSt → Prop} (hX : zSem cX13_sayType 6 none h0 qs ks kc (fun r u => (r, u) = v) X) (hc : ∀ j av s w, call j av s = some w → kc j av s (fun r u => (r, u) = w)) {x1 : Int32} {x2 : Int32} {σ : zSt} (h : j_sayType_75 n call h0 qs ks x1 x2 σ = some v) : X 75 [some (.ref h0), some (.int x1), some (.int x2), none, none, none] [] σ := by
  rw [j_sayType_75] at h
  refine zs_aload_n hX dX13_sayType_75 rfl rfl ?_
  refine zs_aload_n hX dX13_sayType_76 rfl rfl ?_
  refine zg_rLeft hX dX13_sayType_77 ?_
  refine zs_iload_n hX dX13_sayType_80 rfl rfl ?_
  obtain ⟨b1, h⟩ := zgd_e h
  refine zl_rLeft hX dX13_sayType_81 (zin_ok b1) ?_
  obtain ⟨s2, e3, h⟩ := zcv_e h
  refine zc_sayType hX dX13_sayType_82 (Nat.le_of_ble_eq_true rfl) (hc _ _ _ _ e3) (fun u9 h9 => ?_)
  cases h9
  refine zs_iload_n hX dX13_sayType_85 rfl rfl ?_
  refine zs_if_eq (tgt := 95) hX dX13_sayType_86 (by decide) (fun c4 => ?_) (fun c4 => ?_)
  · rw [if_pos c4] at h
    refine zs_weak hX (lw := [some (.ref h0), some (.int x1), none, none, none, none]) ⟨rfl, rfl, trivial⟩ ?_
    exact pj_sayType_95 hX hc h
  · rw [if_neg c4] at h
    refine zs_aload_n hX dX13_sayType_89 rfl rfl ?_
    refine zs_bipush (v := 41) hX dX13_sayType_90 (by decide) ?_
    obtain ⟨s5, e6, h⟩ := zcv_e h
    refine zc_say hX dX13_sayType_92 (Nat.le_of_ble_eq_true rfl) (hc _ _ _ _ e6) (fun u9 h9 => ?_)
    cases h9
    refine zs_weak hX (lw := [some (.ref h0), some (.int x1), none, none, none, none]) ⟨rfl, rfl, trivial⟩ ?_
    exact pj_sayType_95 hX hc h
set_option maxHeartbeats 4000000 in
theorem pj_sayType_64 {h0 : Nat} {qs : List Nat} {ks : Nat → Nat} {n : Nat} {call : zCl} {kc : Nat → List Value → zSt → (Option Value → zSt → Prop) → Prop} {v : Option Value × zSt} {X : Nat → zLv → List Value → zSt → Prop} (hX : zSem cX13_sayType 6 none h0 qs ks kc (fun r u => (r, u) = v) X) (hc : ∀ j av s w, call j av s = some w → kc j av s (fun r u => (r, u) = w)) {x1 : Int32} {t0 : Int32} {σ : zSt} (h : j_sayType_64 n call h0 qs ks x1 t0 σ = some v) : X 64 [some (.ref h0), some (.int x1), none, none, none, none] [.int t0] σ := by
  rw [j_sayType_64] at h
  refine zs_istore_n hX dX13_sayType_64 rfl (by decide) rfl ?_
  dsimp only [List.set]
  refine zs_iload_n hX dX13_sayType_65 rfl rfl ?_
  refine zs_if_eq (tgt := 75) hX dX13_sayType_66 (by decide) (fun c1 => ?_) (fun c1 => ?_)
  · rw [if_pos c1] at h
    exact pj_sayType_75 hX hc h
  · rw [if_neg c1] at h
    refine zs_aload_n hX dX13_sayType_69 rfl rfl ?_
    refine zs_bipush (v := 40) hX dX13_sayType_70 (by decide) ?_
    obtain ⟨s2, e3, h⟩ := zcv_e h
    refine zc_say hX dX13_sayType_72 (Nat.le_of_ble_eq_true rfl) (hc _ _ _ _ e3) (fun u9 h9 => ?_)
    cases h9
    exact pj_sayType_75 hX hc h
set_option maxHeartbeats 4000000 in
theorem pb_sayType {h0 : Nat} {qs : List Nat} {ks : Nat → Nat} {n : Nat} {call : zCl} {kc : Nat → List Value → zSt → (Option Value → zSt → Prop) → Prop} {v : Option Value × zSt} {X : Nat → zLv → List Value → zSt → Prop} (hX : zSem cX13_sayType 6 none h0 qs ks kc (fun r u => (r, u) = v) X) (hc : ∀ j av s w, call j av s = some w → kc j av s (fun r u => (r, u) = w)) {x1 : Int32} {σ : zSt} (h : b_sayType n call h0 qs ks x1 σ = some v) : X 0 [some (.ref h0), some (.int x1), none, none, none, none] [] σ := by
  rw [b_sayType] at h
  refine zs_aload_n hX dX13_sayType_0 rfl rfl ?_
  refine zg_rKind hX dX13_sayType_1 ?_
  refine zs_iload_n hX dX13_sayType_4 rfl rfl ?_
  obtain ⟨b1, h⟩ := zgd_e h
  refine zl_rKind hX dX13_sayType_5 (zin_ok b1) ?_
  refine zs_iconst (v := 2) hX dX13_sayType_6 (by decide) ?_
  refine zs_icmp_ne (tgt := 18) hX dX13_sayType_7 (by decide) (fun c2 => ?_) (fun c2 => ?_)
  · rw [if_neg c2] at h
    refine zs_aload_n hX dX13_sayType_18 rfl rfl ?_
    refine zg_rKind hX dX13_sayType_19 ?_
    refine zs_iload_n hX dX13_sayType_22 rfl rfl ?_
    obtain ⟨b3, h⟩ := zgd_e h
    refine zl_rKind hX dX13_sayType_23 (zin_ok b3) ?_
    refine zs_iconst (v := 4) hX dX13_sayType_24 (by decide) ?_
    refine zs_icmp_ne (tgt := 113) hX dX13_sayType_25 (by decide) (fun c4 => ?_) (fun c4 => ?_)
    · rw [if_neg c4] at h
      refine zs_aload_n hX dX13_sayType_113 rfl rfl ?_
      refine zg_rSaid hX dX13_sayType_114 ?_
      refine zs_iload_n hX dX13_sayType_117 rfl rfl ?_
      obtain ⟨b5, h⟩ := zgd_e h
      refine zl_rSaid hX dX13_sayType_118 (zin_ok b5) ?_
      refine zs_istore_n hX dX13_sayType_119 rfl (by decide) rfl ?_
      dsimp only [List.set]
      refine zs_iconst (v := 1) hX dX13_sayType_120 (by decide) ?_
      refine zs_istore_n hX dX13_sayType_121 rfl (by decide) rfl ?_
      dsimp only [List.set]
      refine zs_aload_n hX dX13_sayType_122 rfl rfl ?_
      refine zg_saidFact hX dX13_sayType_123 ?_
      refine zs_iload_n hX dX13_sayType_126 rfl rfl ?_
      obtain ⟨b6, h⟩ := zgd_e h
      refine zl_saidFact hX dX13_sayType_127 (zin_ok b6) ?_
      refine zs_istore hX dX13_sayType_128 (by decide) rfl ?_
      dsimp only [List.set]
      exact pl_sayType_130 hX hc n _ _ _ _ _ h
    · rw [if_pos c4] at h
      refine zs_aload_n hX dX13_sayType_28 rfl rfl ?_
      refine zs_aload_n hX dX13_sayType_29 rfl rfl ?_
      refine zg_rName hX dX13_sayType_30 ?_
      refine zs_iload_n hX dX13_sayType_33 rfl rfl ?_
      obtain ⟨b7, h⟩ := zgd_e h
      refine zl_rName hX dX13_sayType_34 (zin_ok b7) ?_
      obtain ⟨s8, e9, h⟩ := zcv_e h
      refine zc_sayName hX dX13_sayType_35 (Nat.le_of_ble_eq_true rfl) (hc _ _ _ _ e9) (fun u9 h9 => ?_)
      cases h9
      refine zs_aload_n hX dX13_sayType_38 rfl rfl ?_
      refine zs_bipush (v := 58) hX dX13_sayType_39 (by decide) ?_
      obtain ⟨s10, e11, h⟩ := zcv_e h
      refine zc_say hX dX13_sayType_41 (Nat.le_of_ble_eq_true rfl) (hc _ _ _ _ e11) (fun u9 h9 => ?_)
      cases h9
      refine zs_aload_n hX dX13_sayType_44 rfl rfl ?_
      refine zg_rKind hX dX13_sayType_45 ?_
      refine zs_aload_n hX dX13_sayType_48 rfl rfl ?_
      refine zg_rLeft hX dX13_sayType_49 ?_
      refine zs_iload_n hX dX13_sayType_52 rfl rfl ?_
      obtain ⟨b12, h⟩ := zgd_e h
      refine zl_rLeft hX dX13_sayType_53 (zin_ok b12) ?_
      obtain ⟨b13, h⟩ := zgd_e h
      refine zl_rKind hX dX13_sayType_54 (zin_ok b13) ?_
      refine zs_iconst (v := 4) hX dX13_sayType_55 (by decide) ?_
      refine zs_icmp_ne (tgt := 63) hX dX13_sayType_56 (by decide) (fun c14 => ?_) (fun c14 => ?_)
      · rw [if_neg c14] at h
        refine zs_iconst (v := 0) hX dX13_sayType_63 (by decide) ?_
        exact pj_sayType_64 hX hc h
      · rw [if_pos c14] at h
        refine zs_iconst (v := 1) hX dX13_sayType_59 (by decide) ?_
        refine zs_goto (tgt := 64) hX dX13_sayType_60 (by decide) ?_
        exact pj_sayType_64 hX hc h
  · rw [if_pos c2] at h
    refine zs_aload_n hX dX13_sayType_10 rfl rfl ?_
    refine zs_ldcS hX dX13_sayType_11 (List.mem_of_getElem? (i := 18) rfl) ?_
    obtain ⟨s15, e16, h⟩ := zcv_e h
    refine zc_sayWord hX dX13_sayType_14 (Nat.le_of_ble_eq_true rfl) (hc _ _ _ _ e16) (fun u9 h9 => ?_)
    cases h9
    exact zs_vret hX dX13_sayType_17 rfl (Option.some.inj h)
def l_type_84 (n : Nat) (call : zCl) (h0 : Nat) (qs : List Nat) (ks : Nat → Nat) : Nat → Int32 → zSt → zRs
  | 0, _, _ => none
  | f + 1, x2, σ =>
    if (σ.1 158) ≤ x2 then
      zlet (zI σ 5 (σ.1 158)) fun s2 =>
      some (some (.int (s2.1 5)), s2)
    else
      zgd (zin x2 16000) (
      zgd (zin x2 16000) (zlet (zA σ 2 (upd (σ.2.2.1 2) (x2).toNatClampNeg (vp_nar .byte (σ.2.2.1 101 (x2).toNatClampNeg)))) fun s6 =>
      l_type_84 n call h0 qs ks f (x2 + 1) s6))
def l_type_40 (n : Nat) (call : zCl) (h0 : Nat) (qs : List Nat) (ks : Nat → Nat) : Nat → Int32 → Int32 → zSt → zRs
  | 0, _, _, _ => none
  | f + 1, x1, x2, σ =>
    if 800 ≤ x2 then
      zgd (zin x1 700) (
      zcv (call 117 [.ref h0, .int (σ.2.2.1 74 (x1).toNatClampNeg)] σ) fun s3 =>
      if (s3.1 158) ≤ 16000 then
        l_type_84 n call h0 qs ks n 0 s3
      else
        some (some (.int (-1)), s3))
    else
      zgd (zin x2 800) (zlet (zA σ 102 (upd (σ.2.2.1 102) (x2).toNatClampNeg (-1))) fun s7 =>
      l_type_40 n call h0 qs ks f x1 (x2 + 1) s7)
def b_type (n : Nat) (call : zCl) (h0 : Nat) (qs : List Nat) (ks : Nat → Nat) (x1 : Int32) (σ : zSt) : zRs :=
  if (σ.1 66) = 0 then
    some (some (.int (-1)), σ)
  else
    if (σ.1 67) = 0 then
      some (some (.int (-1)), σ)
    else
      if x1 < 0 then
        some (some (.int (-1)), σ)
      else
        if x1 < (σ.1 50) then
          zlet (zI σ 158 0) fun s5 =>
          zlet (zI s5 160 0) fun s7 =>
          l_type_40 n call h0 qs ks n x1 0 s7
        else
          some (some (.int (-1)), σ)
set_option maxHeartbeats 4000000 in
theorem pl_type_84 {h0 : Nat} {qs : List Nat} {ks : Nat → Nat} {n : Nat} {call : zCl} {kc : Nat → List Value → zSt → (Option Value → zSt → Prop) → Prop} {v : Option Value × zSt} {X : Nat → zLv → List Value → zSt → Prop} (hX : zSem cX13_type 3 (some .int) h0 qs ks kc (fun r u => (r, u) = v) X) (hc : ∀ j av s w, call j av s = some w → kc j av s (fun r u => (r, u) = w)) : ∀ (f : Nat) (x2 : Int32) (σ : zSt), l_type_84 n call h0 qs ks f x2 σ = some v → X 84 [some (.ref h0), none, some (.int x2)] [] σ := by
  intro f
  induction f with
  | zero => intro x2 σ h; cases h
  | succ f hk84 =>
    intro x2 σ h
    rw [l_type_84] at h
    refine zs_iload_n hX dX13_type_84 rfl rfl ?_
    refine zs_aload_n hX dX13_type_85 rfl rfl ?_
    refine zg_sayMany hX dX13_type_86 ?_
    refine zs_icmp_ge (tgt := 110) hX dX13_type_89 (by decide) (fun c1 => ?_) (fun c1 => ?_)
    · rw [if_pos c1] at h
      refine zs_aload_n hX dX13_type_110 rfl rfl ?_
      refine zs_aload_n hX dX13_type_111 rfl rfl ?_
      refine zg_sayMany hX dX13_type_112 ?_
      obtain ⟨s2, e3, h⟩ := zlet_e h
      refine zp_outMany hX dX13_type_115 ?_
      rw [← e3]
      refine zs_aload_n hX dX13_type_118 rfl rfl ?_
      refine zg_outMany hX dX13_type_119 ?_
      exact zs_iret hX dX13_type_122 rfl (Option.some.inj h)
    · rw [if_neg c1] at h
      refine zs_aload_n hX dX13_type_92 rfl rfl ?_
      refine zg_outs hX dX13_type_93 ?_
      refine zs_iload_n hX dX13_type_96 rfl rfl ?_
      refine zs_aload_n hX dX13_type_97 rfl rfl ?_
      refine zg_saying hX dX13_type_98 ?_
      refine zs_iload_n hX dX13_type_101 rfl rfl ?_
      obtain ⟨b4, h⟩ := zgd_e h
      refine zl_saying hX dX13_type_102 (zin_ok b4) ?_
      obtain ⟨b5, h⟩ := zgd_e h
      obtain ⟨s6, e7, h⟩ := zlet_e h
      refine zt_outs hX dX13_type_103 (zin_ok b5) ?_
      rw [← e7]
      refine zs_iinc (v := x2 + 1) hX dX13_type_104 rfl rfl (by decide) rfl ?_
      dsimp only [List.set]
      refine zs_goto (tgt := 84) hX dX13_type_107 (by decide) ?_
      exact hk84 _ _ h
set_option maxHeartbeats 4000000 in
theorem pl_type_40 {h0 : Nat} {qs : List Nat} {ks : Nat → Nat} {n : Nat} {call : zCl} {kc : Nat → List Value → zSt → (Option Value → zSt → Prop) → Prop} {v : Option Value × zSt} {X : Nat → zLv → List Value → zSt → Prop} (hX : zSem cX13_type 3 (some .int) h0 qs ks kc (fun r u => (r, u) = v) X) (hc : ∀ j av s w, call j av s = some w → kc j av s (fun r u => (r, u) = w)) : ∀ (f : Nat) (x1 : Int32) (x2 : Int32) (σ : zSt), l_type_40 n call h0 qs ks f x1 x2 σ = some v → X 40 [some (.ref h0), some (.int x1), some (.int x2)] [] σ := by
  intro f
  induction f with
  | zero => intro x1 x2 σ h; cases h
  | succ f hk40 =>
    intro x1 x2 σ h
    rw [l_type_40] at h
    refine zs_iload_n hX dX13_type_40 rfl rfl ?_
    refine zs_sipush (v := 800) hX dX13_type_41 (by decide) ?_
    refine zs_icmp_ge (tgt := 60) hX dX13_type_44 (by decide) (fun c1 => ?_) (fun c1 => ?_)
    · rw [if_pos c1] at h
      refine zs_aload_n hX dX13_type_60 rfl rfl ?_
      refine zs_aload_n hX dX13_type_61 rfl rfl ?_
      refine zg_dRich hX dX13_type_62 ?_
      refine zs_iload_n hX dX13_type_65 rfl rfl ?_
      obtain ⟨b2, h⟩ := zgd_e h
      refine zl_dRich hX dX13_type_66 (zin_ok b2) ?_
      obtain ⟨s3, e4, h⟩ := zcv_e h
      refine zc_sayType hX dX13_type_67 (Nat.le_of_ble_eq_true rfl) (hc _ _ _ _ e4) (fun u9 h9 => ?_)
      cases h9
      refine zs_aload_n hX dX13_type_70 rfl rfl ?_
      refine zg_sayMany hX dX13_type_71 ?_
      refine zs_sipush (v := 16000) hX dX13_type_74 (by decide) ?_
      refine zs_icmp_le (tgt := 82) hX dX13_type_77 (by decide) (fun c5 => ?_) (fun c5 => ?_)
      · rw [if_pos c5] at h
        refine zs_iconst (v := 0) hX dX13_type_82 (by decide) ?_
        refine zs_istore_n hX dX13_type_83 rfl (by decide) rfl ?_
        dsimp only [List.set]
        refine zs_weak hX (lw := [some (.ref h0), none, some (.int 0)]) ⟨rfl, rfl, trivial⟩ ?_
        exact pl_type_84 hX hc n _ _ h
      · rw [if_neg c5] at h
        refine zs_iconst (v := (-1)) hX dX13_type_80 (by decide) ?_
        exact zs_iret hX dX13_type_81 rfl (Option.some.inj h)
    · rw [if_neg c1] at h
      refine zs_aload_n hX dX13_type_47 rfl rfl ?_
      refine zg_dollar hX dX13_type_48 ?_
      refine zs_iload_n hX dX13_type_51 rfl rfl ?_
      refine zs_iconst (v := (-1)) hX dX13_type_52 (by decide) ?_
      obtain ⟨b6, h⟩ := zgd_e h
      obtain ⟨s7, e8, h⟩ := zlet_e h
      refine zt_dollar hX dX13_type_53 (zin_ok b6) ?_
      rw [← e8]
      refine zs_iinc (v := x2 + 1) hX dX13_type_54 rfl rfl (by decide) rfl ?_
      dsimp only [List.set]
      refine zs_goto (tgt := 40) hX dX13_type_57 (by decide) ?_
      exact hk40 _ _ _ h
set_option maxHeartbeats 4000000 in
theorem pb_type {h0 : Nat} {qs : List Nat} {ks : Nat → Nat} {n : Nat} {call : zCl} {kc : Nat → List Value → zSt → (Option Value → zSt → Prop) → Prop} {v : Option Value × zSt} {X : Nat → zLv → List Value → zSt → Prop} (hX : zSem cX13_type 3 (some .int) h0 qs ks kc (fun r u => (r, u) = v) X) (hc : ∀ j av s w, call j av s = some w → kc j av s (fun r u => (r, u) = w)) {x1 : Int32} {σ : zSt} (h : b_type n call h0 qs ks x1 σ = some v) : X 0 [some (.ref h0), some (.int x1), none] [] σ := by
  rw [b_type] at h
  refine zs_aload_n hX dX13_type_0 rfl rfl ?_
  refine zg_hasOne hX dX13_type_1 ?_
  refine zs_if_eq (tgt := 26) hX dX13_type_4 (by decide) (fun c1 => ?_) (fun c1 => ?_)
  · rw [if_pos c1] at h
    refine zs_iconst (v := (-1)) hX dX13_type_26 (by decide) ?_
    exact zs_iret hX dX13_type_27 rfl (Option.some.inj h)
  · rw [if_neg c1] at h
    refine zs_aload_n hX dX13_type_7 rfl rfl ?_
    refine zg_wasAsked hX dX13_type_8 ?_
    refine zs_if_eq (tgt := 26) hX dX13_type_11 (by decide) (fun c2 => ?_) (fun c2 => ?_)
    · rw [if_pos c2] at h
      refine zs_iconst (v := (-1)) hX dX13_type_26 (by decide) ?_
      exact zs_iret hX dX13_type_27 rfl (Option.some.inj h)
    · rw [if_neg c2] at h
      refine zs_iload_n hX dX13_type_14 rfl rfl ?_
      refine zs_if_lt (tgt := 26) hX dX13_type_15 (by decide) (fun c3 => ?_) (fun c3 => ?_)
      · rw [if_pos c3] at h
        refine zs_iconst (v := (-1)) hX dX13_type_26 (by decide) ?_
        exact zs_iret hX dX13_type_27 rfl (Option.some.inj h)
      · rw [if_neg c3] at h
        refine zs_iload_n hX dX13_type_18 rfl rfl ?_
        refine zs_aload_n hX dX13_type_19 rfl rfl ?_
        refine zg_told hX dX13_type_20 ?_
        refine zs_icmp_lt (tgt := 28) hX dX13_type_23 (by decide) (fun c4 => ?_) (fun c4 => ?_)
        · rw [if_pos c4] at h
          refine zs_aload_n hX dX13_type_28 rfl rfl ?_
          refine zs_iconst (v := 0) hX dX13_type_29 (by decide) ?_
          obtain ⟨s5, e6, h⟩ := zlet_e h
          refine zp_sayMany hX dX13_type_30 ?_
          rw [← e6]
          refine zs_aload_n hX dX13_type_33 rfl rfl ?_
          refine zs_iconst (v := 0) hX dX13_type_34 (by decide) ?_
          obtain ⟨s7, e8, h⟩ := zlet_e h
          refine zp_dollars hX dX13_type_35 ?_
          rw [← e8]
          refine zs_iconst (v := 0) hX dX13_type_38 (by decide) ?_
          refine zs_istore_n hX dX13_type_39 rfl (by decide) rfl ?_
          dsimp only [List.set]
          exact pl_type_40 hX hc n _ _ _ h
        · rw [if_neg c4] at h
          refine zs_iconst (v := (-1)) hX dX13_type_26 (by decide) ?_
          exact zs_iret hX dX13_type_27 rfl (Option.some.inj h)
def l_give_84 (n : Nat) (call : zCl) (h0 : Nat) (qs : List Nat) (ks : Nat → Nat) : Nat → Int32 → Int32 → zSt → zRs
  | 0, _, _, _ => none
  | f + 1, x1, x3, σ =>
    if 1000 ≤ x3 then
      some (some (.int 1), σ)
    else
      zgd (zin ((1000 * x1) + x3) 6000) (zlet (zG σ 104 (vp_updL (σ.2.2.2 104) (((1000 * x1) + x3)).toNatClampNeg 0)) fun s3 =>
      l_give_84 n call h0 qs ks f x1 (x3 + 1) s3)
def j_give_71 (n : Nat) (call : zCl) (h0 : Nat) (qs : List Nat) (ks : Nat → Nat) (x1 : Int32) (t1 : Int32) (t2 : Int64) (σ : zSt) : zRs :=
  zgd (zin t1 6) (zlet (zG σ 103 (vp_updL (σ.2.2.2 103) (t1).toNatClampNeg t2)) fun s2 =>
  zgd (zin x1 6) (
  if (s2.2.2.1 28 (x1).toNatClampNeg) = 2 then
    l_give_84 n call h0 qs ks n x1 0 s2
  else
    some (some (.int 1), s2)))
def j_give_42 (n : Nat) (call : zCl) (h0 : Nat) (qs : List Nat) (ks : Nat → Nat) (x1 : Int32) (x2 : Int32) (σ : zSt) : zRs :=
  zgd (zin x1 6) (
  if (σ.2.2.1 28 (x1).toNatClampNeg) = 1 then
    if x2 = 0 then
      j_give_71 n call h0 qs ks x1 x1 0 σ
    else
      j_give_71 n call h0 qs ks x1 x1 1 σ
  else
    j_give_71 n call h0 qs ks x1 x1 ((x2).toInt64) σ)
def b_give (n : Nat) (call : zCl) (h0 : Nat) (qs : List Nat) (ks : Nat → Nat) (x1 : Int32) (x2 : Int32) (σ : zSt) : zRs :=
  if (σ.1 66) = 0 then
    some (some (.int 0), σ)
  else
    if x1 < 0 then
      some (some (.int 0), σ)
    else
      if (σ.1 42) ≤ x1 then
        some (some (.int 0), σ)
      else
        zgd (zin x1 6) (
        if (σ.2.2.1 28 (x1).toNatClampNeg) = 2 then
          if x2 < 0 then
            some (some (.int 0), σ)
          else
            if x2 ≤ 1000 then
              j_give_42 n call h0 qs ks x1 x2 σ
            else
              some (some (.int 0), σ)
        else
          j_give_42 n call h0 qs ks x1 x2 σ)
set_option maxHeartbeats 4000000 in
theorem pl_give_84 {h0 : Nat} {qs : List Nat} {ks : Nat → Nat} {n : Nat} {call : zCl} {kc : Nat → List Value → zSt → (Option Value → zSt → Prop) → Prop} {v : Option Value × zSt} {X : Nat → zLv → List Value → zSt → Prop} (hX : zSem cX13_give 4 (some .boolean) h0 qs ks kc (fun r u => (r, u) = v) X) (hc : ∀ j av s w, call j av s = some w → kc j av s (fun r u => (r, u) = w)) : ∀ (f : Nat) (x1 : Int32) (x3 : Int32) (σ : zSt), l_give_84 n call h0 qs ks f x1 x3 σ = some v → X 84 [some (.ref h0), some (.int x1), none, some (.int x3)] [] σ := by
  intro f
  induction f with
  | zero => intro x1 x3 σ h; cases h
  | succ f hk84 =>
    intro x1 x3 σ h
    rw [l_give_84] at h
    refine zs_iload_n hX dX13_give_84 rfl rfl ?_
    refine zs_sipush (v := 1000) hX dX13_give_85 (by decide) ?_
    refine zs_icmp_ge (tgt := 110) hX dX13_give_88 (by decide) (fun c1 => ?_) (fun c1 => ?_)
    · rw [if_pos c1] at h
      refine zs_iconst (v := 1) hX dX13_give_110 (by decide) ?_
      exact zs_zret hX dX13_give_111 rfl (by decide) (Option.some.inj h)
    · rw [if_neg c1] at h
      refine zs_aload_n hX dX13_give_91 rfl rfl ?_
      refine zg_elements hX dX13_give_92 ?_
      refine zs_sipush (v := 1000) hX dX13_give_95 (by decide) ?_
      refine zs_iload_n hX dX13_give_98 rfl rfl ?_
      refine zs_imul hX dX13_give_99 ?_
      refine zs_iload_n hX dX13_give_100 rfl rfl ?_
      refine zs_iadd hX dX13_give_101 ?_
      refine zs_lconst (v := 0) hX dX13_give_102 (by decide) ?_
      obtain ⟨b2, h⟩ := zgd_e h
      obtain ⟨s3, e4, h⟩ := zlet_e h
      refine zt_elements hX dX13_give_103 (zin_ok b2) ?_
      rw [← e4]
      refine zs_iinc (v := x3 + 1) hX dX13_give_104 rfl rfl (by decide) rfl ?_
      dsimp only [List.set]
      refine zs_goto (tgt := 84) hX dX13_give_107 (by decide) ?_
      exact hk84 _ _ _ h
set_option maxHeartbeats 4000000 in
theorem pj_give_71 {h0 : Nat} {qs : List Nat} {ks : Nat → Nat} {n : Nat} {call : zCl} {kc : Nat → List Value → zSt → (Option Value → zSt → Prop) → Prop} {v : Option Value × zSt} {X : Nat → zLv → List Value → zSt → Prop} (hX : zSem cX13_give 4 (some .boolean) h0 qs ks kc (fun r u => (r, u) = v) X) (hc : ∀ j av s w, call j av s = some w → kc j av s (fun r u => (r, u) = w)) {x1 : Int32} {t1 : Int32} {t2 : Int64} {σ : zSt} (h : j_give_71 n call h0 qs ks x1 t1 t2 σ = some v) : X 71 [some (.ref h0), some (.int x1), none, none] [.long t2, .int t1, .ref (qs.getD 103 0)] σ := by
  rw [j_give_71] at h
  obtain ⟨b1, h⟩ := zgd_e h
  obtain ⟨s2, e3, h⟩ := zlet_e h
  refine zt_given hX dX13_give_71 (zin_ok b1) ?_
  rw [← e3]
  refine zs_aload_n hX dX13_give_72 rfl rfl ?_
  refine zg_inSort hX dX13_give_73 ?_
  refine zs_iload_n hX dX13_give_76 rfl rfl ?_
  obtain ⟨b4, h⟩ := zgd_e h
  refine zl_inSort hX dX13_give_77 (zin_ok b4) ?_
  refine zs_iconst (v := 2) hX dX13_give_78 (by decide) ?_
  refine zs_icmp_ne (tgt := 110) hX dX13_give_79 (by decide) (fun c5 => ?_) (fun c5 => ?_)
  · rw [if_neg c5] at h
    refine zs_iconst (v := 1) hX dX13_give_110 (by decide) ?_
    exact zs_zret hX dX13_give_111 rfl (by decide) (Option.some.inj h)
  · rw [if_pos c5] at h
    refine zs_iconst (v := 0) hX dX13_give_82 (by decide) ?_
    refine zs_istore_n hX dX13_give_83 rfl (by decide) rfl ?_
    dsimp only [List.set]
    exact pl_give_84 hX hc n _ _ _ h
set_option maxHeartbeats 4000000 in
theorem pj_give_42 {h0 : Nat} {qs : List Nat} {ks : Nat → Nat} {n : Nat} {call : zCl} {kc : Nat → List Value → zSt → (Option Value → zSt → Prop) → Prop} {v : Option Value × zSt} {X : Nat → zLv → List Value → zSt → Prop} (hX : zSem cX13_give 4 (some .boolean) h0 qs ks kc (fun r u => (r, u) = v) X) (hc : ∀ j av s w, call j av s = some w → kc j av s (fun r u => (r, u) = w)) {x1 : Int32} {x2 : Int32} {σ : zSt} (h : j_give_42 n call h0 qs ks x1 x2 σ = some v) : X 42 [some (.ref h0), some (.int x1), some (.int x2), none] [] σ := by
  rw [j_give_42] at h
  refine zs_aload_n hX dX13_give_42 rfl rfl ?_
  refine zg_given hX dX13_give_43 ?_
  refine zs_iload_n hX dX13_give_46 rfl rfl ?_
  refine zs_aload_n hX dX13_give_47 rfl rfl ?_
  refine zg_inSort hX dX13_give_48 ?_
  refine zs_iload_n hX dX13_give_51 rfl rfl ?_
  obtain ⟨b1, h⟩ := zgd_e h
  refine zl_inSort hX dX13_give_52 (zin_ok b1) ?_
  refine zs_iconst (v := 1) hX dX13_give_53 (by decide) ?_
  refine zs_icmp_ne (tgt := 69) hX dX13_give_54 (by decide) (fun c2 => ?_) (fun c2 => ?_)
  · rw [if_neg c2] at h
    refine zs_iload_n hX dX13_give_69 rfl rfl ?_
    refine zs_i2l hX dX13_give_70 ?_
    refine zs_weak hX (lw := [some (.ref h0), some (.int x1), none, none]) ⟨rfl, rfl, trivial⟩ ?_
    exact pj_give_71 hX hc h
  · rw [if_pos c2] at h
    refine zs_iload_n hX dX13_give_57 rfl rfl ?_
    refine zs_if_eq (tgt := 65) hX dX13_give_58 (by decide) (fun c3 => ?_) (fun c3 => ?_)
    · rw [if_pos c3] at h
      refine zs_lconst (v := 0) hX dX13_give_65 (by decide) ?_
      refine zs_goto (tgt := 71) hX dX13_give_66 (by decide) ?_
      refine zs_weak hX (lw := [some (.ref h0), some (.int x1), none, none]) ⟨rfl, rfl, trivial⟩ ?_
      exact pj_give_71 hX hc h
    · rw [if_neg c3] at h
      refine zs_lconst (v := 1) hX dX13_give_61 (by decide) ?_
      refine zs_goto (tgt := 71) hX dX13_give_62 (by decide) ?_
      refine zs_weak hX (lw := [some (.ref h0), some (.int x1), none, none]) ⟨rfl, rfl, trivial⟩ ?_
      exact pj_give_71 hX hc h
set_option maxHeartbeats 4000000 in
theorem pb_give {h0 : Nat} {qs : List Nat} {ks : Nat → Nat} {n : Nat} {call : zCl} {kc : Nat → List Value → zSt → (Option Value → zSt → Prop) → Prop} {v : Option Value × zSt} {X : Nat → zLv → List Value → zSt → Prop} (hX : zSem cX13_give 4 (some .boolean) h0 qs ks kc (fun r u => (r, u) = v) X) (hc : ∀ j av s w, call j av s = some w → kc j av s (fun r u => (r, u) = w)) {x1 : Int32} {x2 : Int32} {σ : zSt} (h : b_give n call h0 qs ks x1 x2 σ = some v) : X 0 [some (.ref h0), some (.int x1), some (.int x2), none] [] σ := by
  rw [b_give] at h
  refine zs_aload_n hX dX13_give_0 rfl rfl ?_
  refine zg_hasOne hX dX13_give_1 ?_
  refine zs_if_eq (tgt := 40) hX dX13_give_4 (by decide) (fun c1 => ?_) (fun c1 => ?_)
  · rw [if_pos c1] at h
    refine zs_iconst (v := 0) hX dX13_give_40 (by decide) ?_
    exact zs_zret hX dX13_give_41 rfl (by decide) (Option.some.inj h)
  · rw [if_neg c1] at h
    refine zs_iload_n hX dX13_give_7 rfl rfl ?_
    refine zs_if_lt (tgt := 40) hX dX13_give_8 (by decide) (fun c2 => ?_) (fun c2 => ?_)
    · rw [if_pos c2] at h
      refine zs_iconst (v := 0) hX dX13_give_40 (by decide) ?_
      exact zs_zret hX dX13_give_41 rfl (by decide) (Option.some.inj h)
    · rw [if_neg c2] at h
      refine zs_iload_n hX dX13_give_11 rfl rfl ?_
      refine zs_aload_n hX dX13_give_12 rfl rfl ?_
      refine zg_inputs hX dX13_give_13 ?_
      refine zs_icmp_ge (tgt := 40) hX dX13_give_16 (by decide) (fun c3 => ?_) (fun c3 => ?_)
      · rw [if_pos c3] at h
        refine zs_iconst (v := 0) hX dX13_give_40 (by decide) ?_
        exact zs_zret hX dX13_give_41 rfl (by decide) (Option.some.inj h)
      · rw [if_neg c3] at h
        refine zs_aload_n hX dX13_give_19 rfl rfl ?_
        refine zg_inSort hX dX13_give_20 ?_
        refine zs_iload_n hX dX13_give_23 rfl rfl ?_
        obtain ⟨b4, h⟩ := zgd_e h
        refine zl_inSort hX dX13_give_24 (zin_ok b4) ?_
        refine zs_iconst (v := 2) hX dX13_give_25 (by decide) ?_
        refine zs_icmp_ne (tgt := 42) hX dX13_give_26 (by decide) (fun c5 => ?_) (fun c5 => ?_)
        · rw [if_neg c5] at h
          exact pj_give_42 hX hc h
        · rw [if_pos c5] at h
          refine zs_iload_n hX dX13_give_29 rfl rfl ?_
          refine zs_if_lt (tgt := 40) hX dX13_give_30 (by decide) (fun c6 => ?_) (fun c6 => ?_)
          · rw [if_pos c6] at h
            refine zs_iconst (v := 0) hX dX13_give_40 (by decide) ?_
            exact zs_zret hX dX13_give_41 rfl (by decide) (Option.some.inj h)
          · rw [if_neg c6] at h
            refine zs_iload_n hX dX13_give_33 rfl rfl ?_
            refine zs_sipush (v := 1000) hX dX13_give_34 (by decide) ?_
            refine zs_icmp_le (tgt := 42) hX dX13_give_37 (by decide) (fun c7 => ?_) (fun c7 => ?_)
            · rw [if_pos c7] at h
              exact pj_give_42 hX hc h
            · rw [if_neg c7] at h
              refine zs_iconst (v := 0) hX dX13_give_40 (by decide) ?_
              exact zs_zret hX dX13_give_41 rfl (by decide) (Option.some.inj h)
