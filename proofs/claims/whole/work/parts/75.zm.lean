/-! the methods of the reference as plain functions (80 to 99) -/
def b_ofName (n : Nat) (call : zCl) (h0 : Nat) (qs : List Nat) (ks : Nat → Nat) (x1 : Int32) (σ : zSt) : zRs :=
  zgd (zin x1 700) (
  zgd (zin (σ.2.2.1 74 (x1).toNatClampNeg) 40000) (
  zci (call 71 [.int (σ.2.2.1 42 ((σ.2.2.1 74 (x1).toNatClampNeg)).toNatClampNeg)] σ) fun r5 s3 =>
  if r5 = 0 then
    some (some (.int (σ.2.2.1 74 (x1).toNatClampNeg)), s3)
  else
    zgd (zin (σ.2.2.1 74 (x1).toNatClampNeg) 40000) (
    zci (call 69 [.ref h0, .int 0, .int x1, .int 1, .long 0, .int (-1)] s3) fun r10 s8 =>
    zci (call 68 [.ref h0, .int (-1), .int r10, .int (-1)] s8) fun r13 s11 =>
    zci (call 67 [.ref h0, .int (s3.2.2.1 42 ((σ.2.2.1 74 (x1).toNatClampNeg)).toNatClampNeg), .int r13, .int (-1), .int (-1), .int (-1)] s11) fun r16 s14 =>
    some (some (.int r16), s14))))
set_option maxHeartbeats 4000000 in
theorem pb_ofName {h0 : Nat} {qs : List Nat} {ks : Nat → Nat} {n : Nat} {call : zCl} {kc : Nat → List Value → zSt → (Option Value → zSt → Prop) → Prop} {v : Option Value × zSt} {X : Nat → zLv → List Value → zSt → Prop} (hX : zSem cX13_ofName 3 (some .int) h0 qs ks kc (fun r u => (r, u) = v) X) (hc : ∀ j av s w, call j av s = some w → kc j av s (fun r u => (r, u) = w)) {x1 : Int32} {σ : zSt} (h : b_ofName n call h0 qs ks x1 σ = some v) : X 0 [some (.ref h0), some (.int x1), none] [] σ := by
  rw [b_ofName] at h
  refine zs_aload_n hX dX13_ofName_0 rfl rfl ?_
  refine zg_dRich hX dX13_ofName_1 ?_
  refine zs_iload_n hX dX13_ofName_4 rfl rfl ?_
  obtain ⟨b1, h⟩ := zgd_e h
  refine zl_dRich hX dX13_ofName_5 (zin_ok b1) ?_
  refine zs_istore_n hX dX13_ofName_6 rfl (by decide) rfl ?_
  dsimp only [List.set]
  refine zs_aload_n hX dX13_ofName_7 rfl rfl ?_
  refine zg_rKind hX dX13_ofName_8 ?_
  refine zs_iload_n hX dX13_ofName_11 rfl rfl ?_
  obtain ⟨b2, h⟩ := zgd_e h
  refine zl_rKind hX dX13_ofName_12 (zin_ok b2) ?_
  obtain ⟨r5, s3, e4, h⟩ := zci_e h
  refine zc_isSaid hX dX13_ofName_13 (Nat.le_of_ble_eq_true rfl) (hc _ _ _ _ e4) (fun r9 u9 h9 => ?_)
  cases h9
  refine zs_if_eq (tgt := 48) hX dX13_ofName_16 (by decide) (fun c6 => ?_) (fun c6 => ?_)
  · rw [if_pos c6] at h
    refine zs_iload_n hX dX13_ofName_48 rfl rfl ?_
    exact zs_iret hX dX13_ofName_49 rfl (Option.some.inj h)
  · rw [if_neg c6] at h
    refine zs_aload_n hX dX13_ofName_19 rfl rfl ?_
    refine zs_aload_n hX dX13_ofName_20 rfl rfl ?_
    refine zg_rKind hX dX13_ofName_21 ?_
    refine zs_iload_n hX dX13_ofName_24 rfl rfl ?_
    obtain ⟨b7, h⟩ := zgd_e h
    refine zl_rKind hX dX13_ofName_25 (zin_ok b7) ?_
    refine zs_aload_n hX dX13_ofName_26 rfl rfl ?_
    refine zs_iconst (v := (-1)) hX dX13_ofName_27 (by decide) ?_
    refine zs_aload_n hX dX13_ofName_28 rfl rfl ?_
    refine zs_iconst (v := 0) hX dX13_ofName_29 (by decide) ?_
    refine zs_iload_n hX dX13_ofName_30 rfl rfl ?_
    refine zs_iconst (v := 1) hX dX13_ofName_31 (by decide) ?_
    refine zs_lconst (v := 0) hX dX13_ofName_32 (by decide) ?_
    refine zs_iconst (v := (-1)) hX dX13_ofName_33 (by decide) ?_
    obtain ⟨r10, s8, e9, h⟩ := zci_e h
    refine zc_fact hX dX13_ofName_34 (Nat.le_of_ble_eq_true rfl) (hc _ _ _ _ e9) (fun r9 u9 h9 => ?_)
    cases h9
    refine zs_iconst (v := (-1)) hX dX13_ofName_37 (by decide) ?_
    obtain ⟨r13, s11, e12, h⟩ := zci_e h
    refine zc_said hX dX13_ofName_38 (Nat.le_of_ble_eq_true rfl) (hc _ _ _ _ e12) (fun r9 u9 h9 => ?_)
    cases h9
    refine zs_iconst (v := (-1)) hX dX13_ofName_41 (by decide) ?_
    refine zs_iconst (v := (-1)) hX dX13_ofName_42 (by decide) ?_
    refine zs_iconst (v := (-1)) hX dX13_ofName_43 (by decide) ?_
    obtain ⟨r16, s14, e15, h⟩ := zci_e h
    refine zc_rich hX dX13_ofName_44 (Nat.le_of_ble_eq_true rfl) (hc _ _ _ _ e15) (fun r9 u9 h9 => ?_)
    cases h9
    exact zs_iret hX dX13_ofName_47 rfl (Option.some.inj h)
def j_ofSign_263 (n : Nat) (call : zCl) (h0 : Nat) (qs : List Nat) (ks : Nat → Nat) (σ : zSt) : zRs :=
  zci (call 72 [.ref h0, .int 1] σ) fun r3 s1 =>
  some (some (.int r3), s1)
def j_ofSign_195 (n : Nat) (call : zCl) (h0 : Nat) (qs : List Nat) (ks : Nat → Nat) (x1 : Int32) (x4 : Int32) (x6 : Int64) (σ : zSt) : zRs :=
  zcv (call 53 [.ref h0] σ) fun s1 =>
  zgd (zin x1 2100) (
  zcv (call 55 [.ref h0, .int (s1.2.2.1 10 (x1).toNatClampNeg), .int 1] s1) fun s4 =>
  zgd (zin x1 2100) (
  if (s4.2.2.1 6 (x1).toNatClampNeg) = 11 then
    if x4 = 0 then
      j_ofSign_263 n call h0 qs ks s4
    else
      if (s4.1 63) = 0 then
        zci (call 69 [.ref h0, .int 0, .int (-1), .int 0, .long ((s4.2.1 64) * x6), .int (-1)] s4) fun r12 s10 =>
        zci (call 68 [.ref h0, .int (-1), .int r12, .int (-1)] s10) fun r15 s13 =>
        zci (call 67 [.ref h0, .int 1, .int r15, .int (-1), .int (-1), .int (-1)] s13) fun r18 s16 =>
        some (some (.int r18), s16)
      else
        j_ofSign_263 n call h0 qs ks s4
  else
    j_ofSign_263 n call h0 qs ks s4))
def j_ofSign_139 (n : Nat) (call : zCl) (h0 : Nat) (qs : List Nat) (ks : Nat → Nat) (x1 : Int32) (x4 : Int32) (x5 : Int32) (x6 : Int64) (σ : zSt) : zRs :=
  zgd (zin x1 2100) (
  if (σ.2.2.1 6 (x1).toNatClampNeg) = 13 then
    if x5 = 0 then
      j_ofSign_195 n call h0 qs ks x1 x4 x6 σ
    else
      if (lg_cmp x6 0) ≤ 0 then
        j_ofSign_195 n call h0 qs ks x1 x4 x6 σ
      else
        zci (call 69 [.ref h0, .int 1, .int (-1), .int 0, .long x6, .int (-1)] σ) fun r7 s5 =>
        zci (call 69 [.ref h0, .int 4, .int (-1), .int 0, .long 0, .int r7] s5) fun r10 s8 =>
        zci (call 68 [.ref h0, .int (-1), .int r10, .int (-1)] s8) fun r13 s11 =>
        zci (call 67 [.ref h0, .int 1, .int r13, .int (-1), .int (-1), .int (-1)] s11) fun r16 s14 =>
        some (some (.int r16), s14)
  else
    j_ofSign_195 n call h0 qs ks x1 x4 x6 σ)
def j_ofSign_100 (n : Nat) (call : zCl) (h0 : Nat) (qs : List Nat) (ks : Nat → Nat) (x1 : Int32) (x2 : Int32) (x3 : Int32) (x4 : Int32) (t0 : Int32) (σ : zSt) : zRs :=
  zgd (zin x1 2100) (
  if (σ.2.2.1 6 (x1).toNatClampNeg) = 11 then
    j_ofSign_139 n call h0 qs ks x1 x4 t0 (σ.2.1 64) σ
  else
    zgd (zin x1 2100) (
    zgd (zin x1 2100) (
    zcv (call 79 [.ref h0, .int 1, .int (σ.2.2.1 11 (x1).toNatClampNeg), .int (-1), .int x2, .int x3, .int (σ.2.2.1 8 (x1).toNatClampNeg)] σ) fun s5 =>
    j_ofSign_139 n call h0 qs ks x1 x4 t0 (σ.2.1 64) s5)))
def j_ofSign_99 (n : Nat) (call : zCl) (h0 : Nat) (qs : List Nat) (ks : Nat → Nat) (x1 : Int32) (x2 : Int32) (x3 : Int32) (x4 : Int32) (σ : zSt) : zRs :=
  j_ofSign_100 n call h0 qs ks x1 x2 x3 x4 0 σ
def j_ofSign_27 (n : Nat) (call : zCl) (h0 : Nat) (qs : List Nat) (ks : Nat → Nat) (x1 : Int32) (x2 : Int32) (x3 : Int32) (t0 : Int32) (σ : zSt) : zRs :=
  zgd (zin x1 2100) (
  zgd (zin (σ.2.2.1 11 (x1).toNatClampNeg) 2100) (
  zgd (zin x1 2100) (
  zgd (zin (σ.2.2.1 11 (x1).toNatClampNeg) 2100) (
  if ((σ.2.2.1 14 ((σ.2.2.1 11 (x1).toNatClampNeg)).toNatClampNeg) - (σ.2.2.1 13 ((σ.2.2.1 11 (x1).toNatClampNeg)).toNatClampNeg)) = 1 then
    zgd (zin x1 2100) (
    zgd (zin (σ.2.2.1 11 (x1).toNatClampNeg) 2100) (
    zgd (zin (σ.2.2.1 13 ((σ.2.2.1 11 (x1).toNatClampNeg)).toNatClampNeg) 2100) (
    if (σ.2.2.1 16 ((σ.2.2.1 13 ((σ.2.2.1 11 (x1).toNatClampNeg)).toNatClampNeg)).toNatClampNeg) = 0 then
      zgd (zin x1 2100) (
      zgd (zin (σ.2.2.1 11 (x1).toNatClampNeg) 2100) (
      zgd (zin (σ.2.2.1 13 ((σ.2.2.1 11 (x1).toNatClampNeg)).toNatClampNeg) 2100) (
      if (σ.2.2.1 17 ((σ.2.2.1 13 ((σ.2.2.1 11 (x1).toNatClampNeg)).toNatClampNeg)).toNatClampNeg) = 1 then
        j_ofSign_100 n call h0 qs ks x1 x2 x3 t0 1 σ
      else
        j_ofSign_99 n call h0 qs ks x1 x2 x3 t0 σ)))
    else
      j_ofSign_99 n call h0 qs ks x1 x2 x3 t0 σ)))
  else
    j_ofSign_99 n call h0 qs ks x1 x2 x3 t0 σ))))
def b_ofSign (n : Nat) (call : zCl) (h0 : Nat) (qs : List Nat) (ks : Nat → Nat) (x1 : Int32) (x2 : Int32) (x3 : Int32) (σ : zSt) : zRs :=
  zcv (call 53 [.ref h0] σ) fun s1 =>
  zgd (zin x1 2100) (
  zcv (call 55 [.ref h0, .int (s1.2.2.1 11 (x1).toNatClampNeg), .int 1] s1) fun s4 =>
  if (s4.1 63) = 0 then
    j_ofSign_27 n call h0 qs ks x1 x2 x3 1 s4
  else
    j_ofSign_27 n call h0 qs ks x1 x2 x3 0 s4)
set_option maxHeartbeats 4000000 in
theorem pj_ofSign_263 {h0 : Nat} {qs : List Nat} {ks : Nat → Nat} {n : Nat} {call : zCl} {kc : Nat → List Value → zSt → (Option Value → zSt → Prop) → Prop} {v : Option Value × zSt} {X : Nat → zLv → List Value → zSt → Prop} (hX : zSem cX13_ofSign 8 (some .int) h0 qs ks kc (fun r u => (r, u) = v) X) (hc : ∀ j av s w, call j av s = some w → kc j av s (fun r u => (r, u) = w)) {σ : zSt} (h : j_ofSign_263 n call h0 qs ks σ = some v) : X 263 [some (.ref h0), none, none, none, none, none, none, none] [] σ := by
  rw [j_ofSign_263] at h
  refine zs_aload_n hX dX13_ofSign_263 rfl rfl ?_
  refine zs_iconst (v := 1) hX dX13_ofSign_264 (by decide) ?_
  obtain ⟨r3, s1, e2, h⟩ := zci_e h
  refine zc_plainType hX dX13_ofSign_265 (Nat.le_of_ble_eq_true rfl) (hc _ _ _ _ e2) (fun r9 u9 h9 => ?_)
  cases h9
  exact zs_iret hX dX13_ofSign_268 rfl (Option.some.inj h)
set_option maxHeartbeats 4000000 in
theorem pj_ofSign_195 {h0 : Nat} {qs : List Nat} {ks : Nat → Nat} {n : Nat} {call : zCl} {kc : Nat → List Value → zSt → (Option Value → zSt → Prop) → Prop} {v : Option Value × zSt} {X : Nat → zLv → List Value → zSt → Prop} (hX : zSem cX13_ofSign 8 (some .int) h0 qs ks kc (fun r u => (r, u) = v) X) (hc : ∀ j av s w, call j av s = some w → kc j av s (fun r u => (r, u) = w)) {x1 : Int32} {x4 : Int32} {x6 : Int64} {σ : zSt} (h : j_ofSign_195 n call h0 qs ks x1 x4 x6 σ = some v) : X 195 [some (.ref h0), some (.int x1), none, none, some (.int x4), none, some (.long x6), none] [] σ := by
  rw [j_ofSign_195] at h
  refine zs_aload_n hX dX13_ofSign_195 rfl rfl ?_
  obtain ⟨s1, e2, h⟩ := zcv_e h
  refine zc_clearLine hX dX13_ofSign_196 (Nat.le_of_ble_eq_true rfl) (hc _ _ _ _ e2) (fun u9 h9 => ?_)
  cases h9
  refine zs_aload_n hX dX13_ofSign_199 rfl rfl ?_
  refine zs_aload_n hX dX13_ofSign_200 rfl rfl ?_
  refine zg_x2 hX dX13_ofSign_201 ?_
  refine zs_iload_n hX dX13_ofSign_204 rfl rfl ?_
  obtain ⟨b3, h⟩ := zgd_e h
  refine zl_x2 hX dX13_ofSign_205 (zin_ok b3) ?_
  refine zs_iconst (v := 1) hX dX13_ofSign_206 (by decide) ?_
  obtain ⟨s4, e5, h⟩ := zcv_e h
  refine zc_addSum hX dX13_ofSign_207 (Nat.le_of_ble_eq_true rfl) (hc _ _ _ _ e5) (fun u9 h9 => ?_)
  cases h9
  refine zs_aload_n hX dX13_ofSign_210 rfl rfl ?_
  refine zg_kind hX dX13_ofSign_211 ?_
  refine zs_iload_n hX dX13_ofSign_214 rfl rfl ?_
  obtain ⟨b6, h⟩ := zgd_e h
  refine zl_kind hX dX13_ofSign_215 (zin_ok b6) ?_
  refine zs_bipush (v := 11) hX dX13_ofSign_216 (by decide) ?_
  refine zs_icmp_ne (tgt := 263) hX dX13_ofSign_218 (by decide) (fun c7 => ?_) (fun c7 => ?_)
  · rw [if_neg c7] at h
    refine zs_weak hX (lw := [some (.ref h0), none, none, none, none, none, none, none]) ⟨rfl, trivial⟩ ?_
    exact pj_ofSign_263 hX hc h
  · rw [if_pos c7] at h
    refine zs_iload hX dX13_ofSign_221 rfl ?_
    refine zs_if_eq (tgt := 263) hX dX13_ofSign_223 (by decide) (fun c8 => ?_) (fun c8 => ?_)
    · rw [if_pos c8] at h
      refine zs_weak hX (lw := [some (.ref h0), none, none, none, none, none, none, none]) ⟨rfl, trivial⟩ ?_
      exact pj_ofSign_263 hX hc h
    · rw [if_neg c8] at h
      refine zs_aload_n hX dX13_ofSign_226 rfl rfl ?_
      refine zg_lMany hX dX13_ofSign_227 ?_
      refine zs_if_ne (tgt := 263) hX dX13_ofSign_230 (by decide) (fun c9 => ?_) (fun c9 => ?_)
      · rw [if_neg c9] at h
        refine zs_weak hX (lw := [some (.ref h0), none, none, none, none, none, none, none]) ⟨rfl, trivial⟩ ?_
        exact pj_ofSign_263 hX hc h
      · rw [if_pos c9] at h
        refine zs_aload_n hX dX13_ofSign_233 rfl rfl ?_
        refine zs_iconst (v := 1) hX dX13_ofSign_234 (by decide) ?_
        refine zs_aload_n hX dX13_ofSign_235 rfl rfl ?_
        refine zs_iconst (v := (-1)) hX dX13_ofSign_236 (by decide) ?_
        refine zs_aload_n hX dX13_ofSign_237 rfl rfl ?_
        refine zs_iconst (v := 0) hX dX13_ofSign_238 (by decide) ?_
        refine zs_iconst (v := (-1)) hX dX13_ofSign_239 (by decide) ?_
        refine zs_iconst (v := 0) hX dX13_ofSign_240 (by decide) ?_
        refine zs_aload_n hX dX13_ofSign_241 rfl rfl ?_
        refine zg_lNumber hX dX13_ofSign_242 ?_
        refine zs_lload hX dX13_ofSign_245 rfl ?_
        refine zs_lmul hX dX13_ofSign_247 ?_
        refine zs_iconst (v := (-1)) hX dX13_ofSign_248 (by decide) ?_
        obtain ⟨r12, s10, e11, h⟩ := zci_e h
        refine zc_fact hX dX13_ofSign_249 (Nat.le_of_ble_eq_true rfl) (hc _ _ _ _ e11) (fun r9 u9 h9 => ?_)
        cases h9
        refine zs_iconst (v := (-1)) hX dX13_ofSign_252 (by decide) ?_
        obtain ⟨r15, s13, e14, h⟩ := zci_e h
        refine zc_said hX dX13_ofSign_253 (Nat.le_of_ble_eq_true rfl) (hc _ _ _ _ e14) (fun r9 u9 h9 => ?_)
        cases h9
        refine zs_iconst (v := (-1)) hX dX13_ofSign_256 (by decide) ?_
        refine zs_iconst (v := (-1)) hX dX13_ofSign_257 (by decide) ?_
        refine zs_iconst (v := (-1)) hX dX13_ofSign_258 (by decide) ?_
        obtain ⟨r18, s16, e17, h⟩ := zci_e h
        refine zc_rich hX dX13_ofSign_259 (Nat.le_of_ble_eq_true rfl) (hc _ _ _ _ e17) (fun r9 u9 h9 => ?_)
        cases h9
        exact zs_iret hX dX13_ofSign_262 rfl (Option.some.inj h)
set_option maxHeartbeats 4000000 in
theorem pj_ofSign_139 {h0 : Nat} {qs : List Nat} {ks : Nat → Nat} {n : Nat} {call : zCl} {kc : Nat → List Value → zSt → (Option Value → zSt → Prop) → Prop} {v : Option Value × zSt} {X : Nat → zLv → List Value → zSt → Prop} (hX : zSem cX13_ofSign 8 (some .int) h0 qs ks kc (fun r u => (r, u) = v) X) (hc : ∀ j av s w, call j av s = some w → kc j av s (fun r u => (r, u) = w)) {x1 : Int32} {x4 : Int32} {x5 : Int32} {x6 : Int64} {σ : zSt} (h : j_ofSign_139 n call h0 qs ks x1 x4 x5 x6 σ = some v) : X 139 [some (.ref h0), some (.int x1), none, none, some (.int x4), some (.int x5), some (.long x6), none] [] σ := by
  rw [j_ofSign_139] at h
  refine zs_aload_n hX dX13_ofSign_139 rfl rfl ?_
  refine zg_kind hX dX13_ofSign_140 ?_
  refine zs_iload_n hX dX13_ofSign_143 rfl rfl ?_
  obtain ⟨b1, h⟩ := zgd_e h
  refine zl_kind hX dX13_ofSign_144 (zin_ok b1) ?_
  refine zs_bipush (v := 13) hX dX13_ofSign_145 (by decide) ?_
  refine zs_icmp_ne (tgt := 195) hX dX13_ofSign_147 (by decide) (fun c2 => ?_) (fun c2 => ?_)
  · rw [if_neg c2] at h
    refine zs_weak hX (lw := [some (.ref h0), some (.int x1), none, none, some (.int x4), none, some (.long x6), none]) ⟨rfl, rfl, rfl, rfl, trivial⟩ ?_
    exact pj_ofSign_195 hX hc h
  · rw [if_pos c2] at h
    refine zs_iload hX dX13_ofSign_150 rfl ?_
    refine zs_if_eq (tgt := 195) hX dX13_ofSign_152 (by decide) (fun c3 => ?_) (fun c3 => ?_)
    · rw [if_pos c3] at h
      refine zs_weak hX (lw := [some (.ref h0), some (.int x1), none, none, some (.int x4), none, some (.long x6), none]) ⟨rfl, rfl, rfl, rfl, trivial⟩ ?_
      exact pj_ofSign_195 hX hc h
    · rw [if_neg c3] at h
      refine zs_lload hX dX13_ofSign_155 rfl ?_
      refine zs_lconst (v := 0) hX dX13_ofSign_157 (by decide) ?_
      refine zs_lcmp hX dX13_ofSign_158 ?_
      refine zs_if_le (tgt := 195) hX dX13_ofSign_159 (by decide) (fun c4 => ?_) (fun c4 => ?_)
      · rw [if_pos c4] at h
        refine zs_weak hX (lw := [some (.ref h0), some (.int x1), none, none, some (.int x4), none, some (.long x6), none]) ⟨rfl, rfl, rfl, rfl, trivial⟩ ?_
        exact pj_ofSign_195 hX hc h
      · rw [if_neg c4] at h
        refine zs_aload_n hX dX13_ofSign_162 rfl rfl ?_
        refine zs_iconst (v := 1) hX dX13_ofSign_163 (by decide) ?_
        refine zs_aload_n hX dX13_ofSign_164 rfl rfl ?_
        refine zs_iconst (v := (-1)) hX dX13_ofSign_165 (by decide) ?_
        refine zs_aload_n hX dX13_ofSign_166 rfl rfl ?_
        refine zs_iconst (v := 4) hX dX13_ofSign_167 (by decide) ?_
        refine zs_iconst (v := (-1)) hX dX13_ofSign_168 (by decide) ?_
        refine zs_iconst (v := 0) hX dX13_ofSign_169 (by decide) ?_
        refine zs_lconst (v := 0) hX dX13_ofSign_170 (by decide) ?_
        refine zs_aload_n hX dX13_ofSign_171 rfl rfl ?_
        refine zs_iconst (v := 1) hX dX13_ofSign_172 (by decide) ?_
        refine zs_iconst (v := (-1)) hX dX13_ofSign_173 (by decide) ?_
        refine zs_iconst (v := 0) hX dX13_ofSign_174 (by decide) ?_
        refine zs_lload hX dX13_ofSign_175 rfl ?_
        refine zs_iconst (v := (-1)) hX dX13_ofSign_177 (by decide) ?_
        obtain ⟨r7, s5, e6, h⟩ := zci_e h
        refine zc_fact hX dX13_ofSign_178 (Nat.le_of_ble_eq_true rfl) (hc _ _ _ _ e6) (fun r9 u9 h9 => ?_)
        cases h9
        obtain ⟨r10, s8, e9, h⟩ := zci_e h
        refine zc_fact hX dX13_ofSign_181 (Nat.le_of_ble_eq_true rfl) (hc _ _ _ _ e9) (fun r9 u9 h9 => ?_)
        cases h9
        refine zs_iconst (v := (-1)) hX dX13_ofSign_184 (by decide) ?_
        obtain ⟨r13, s11, e12, h⟩ := zci_e h
        refine zc_said hX dX13_ofSign_185 (Nat.le_of_ble_eq_true rfl) (hc _ _ _ _ e12) (fun r9 u9 h9 => ?_)
        cases h9
        refine zs_iconst (v := (-1)) hX dX13_ofSign_188 (by decide) ?_
        refine zs_iconst (v := (-1)) hX dX13_ofSign_189 (by decide) ?_
        refine zs_iconst (v := (-1)) hX dX13_ofSign_190 (by decide) ?_
        obtain ⟨r16, s14, e15, h⟩ := zci_e h
        refine zc_rich hX dX13_ofSign_191 (Nat.le_of_ble_eq_true rfl) (hc _ _ _ _ e15) (fun r9 u9 h9 => ?_)
        cases h9
        exact zs_iret hX dX13_ofSign_194 rfl (Option.some.inj h)
set_option maxHeartbeats 4000000 in
theorem pj_ofSign_100 {h0 : Nat} {qs : List Nat} {ks : Nat → Nat} {n : Nat} {call : zCl} {kc : Nat → List Value → zSt → (Option Value → zSt → Prop) → Prop} {v : Option Value × zSt} {X : Nat → zLv → List Value → zSt → Prop} (hX : zSem cX13_ofSign 8 (some .int) h0 qs ks kc (fun r u => (r, u) = v) X) (hc : ∀ j av s w, call j av s = some w → kc j av s (fun r u => (r, u) = w)) {x1 : Int32} {x2 : Int32} {x3 : Int32} {x4 : Int32} {t0 : Int32} {σ : zSt} (h : j_ofSign_100 n call h0 qs ks x1 x2 x3 x4 t0 σ = some v) : X 100 [some (.ref h0), some (.int x1), some (.int x2), some (.int x3), some (.int x4), none, none, none] [.int t0] σ := by
  rw [j_ofSign_100] at h
  refine zs_istore hX dX13_ofSign_100 (by decide) rfl ?_
  dsimp only [List.set]
  refine zs_aload_n hX dX13_ofSign_102 rfl rfl ?_
  refine zg_lNumber hX dX13_ofSign_103 ?_
  refine zs_lstore hX dX13_ofSign_106 (by decide) rfl ?_
  dsimp only [List.set]
  refine zs_aload_n hX dX13_ofSign_108 rfl rfl ?_
  refine zg_kind hX dX13_ofSign_109 ?_
  refine zs_iload_n hX dX13_ofSign_112 rfl rfl ?_
  obtain ⟨b1, h⟩ := zgd_e h
  refine zl_kind hX dX13_ofSign_113 (zin_ok b1) ?_
  refine zs_bipush (v := 11) hX dX13_ofSign_114 (by decide) ?_
  refine zs_icmp_eq (tgt := 139) hX dX13_ofSign_116 (by decide) (fun c2 => ?_) (fun c2 => ?_)
  · rw [if_pos c2] at h
    refine zs_weak hX (lw := [some (.ref h0), some (.int x1), none, none, some (.int x4), some (.int t0), some (.long (σ.2.1 64)), none]) ⟨rfl, rfl, rfl, rfl, rfl, trivial⟩ ?_
    exact pj_ofSign_139 hX hc h
  · rw [if_neg c2] at h
    refine zs_aload_n hX dX13_ofSign_119 rfl rfl ?_
    refine zs_iconst (v := 1) hX dX13_ofSign_120 (by decide) ?_
    refine zs_aload_n hX dX13_ofSign_121 rfl rfl ?_
    refine zg_x3 hX dX13_ofSign_122 ?_
    refine zs_iload_n hX dX13_ofSign_125 rfl rfl ?_
    obtain ⟨b3, h⟩ := zgd_e h
    refine zl_x3 hX dX13_ofSign_126 (zin_ok b3) ?_
    refine zs_iconst (v := (-1)) hX dX13_ofSign_127 (by decide) ?_
    refine zs_iload_n hX dX13_ofSign_128 rfl rfl ?_
    refine zs_iload_n hX dX13_ofSign_129 rfl rfl ?_
    refine zs_aload_n hX dX13_ofSign_130 rfl rfl ?_
    refine zg_sign hX dX13_ofSign_131 ?_
    refine zs_iload_n hX dX13_ofSign_134 rfl rfl ?_
    obtain ⟨b4, h⟩ := zgd_e h
    refine zl_sign hX dX13_ofSign_135 (zin_ok b4) ?_
    obtain ⟨s5, e6, h⟩ := zcv_e h
    refine zc_mustBeSo hX dX13_ofSign_136 (Nat.le_of_ble_eq_true rfl) (hc _ _ _ _ e6) (fun u9 h9 => ?_)
    cases h9
    refine zs_weak hX (lw := [some (.ref h0), some (.int x1), none, none, some (.int x4), some (.int t0), some (.long (σ.2.1 64)), none]) ⟨rfl, rfl, rfl, rfl, rfl, trivial⟩ ?_
    exact pj_ofSign_139 hX hc h
set_option maxHeartbeats 4000000 in
theorem pj_ofSign_99 {h0 : Nat} {qs : List Nat} {ks : Nat → Nat} {n : Nat} {call : zCl} {kc : Nat → List Value → zSt → (Option Value → zSt → Prop) → Prop} {v : Option Value × zSt} {X : Nat → zLv → List Value → zSt → Prop} (hX : zSem cX13_ofSign 8 (some .int) h0 qs ks kc (fun r u => (r, u) = v) X) (hc : ∀ j av s w, call j av s = some w → kc j av s (fun r u => (r, u) = w)) {x1 : Int32} {x2 : Int32} {x3 : Int32} {x4 : Int32} {σ : zSt} (h : j_ofSign_99 n call h0 qs ks x1 x2 x3 x4 σ = some v) : X 99 [some (.ref h0), some (.int x1), some (.int x2), some (.int x3), some (.int x4), none, none, none] [] σ := by
  rw [j_ofSign_99] at h
  refine zs_iconst (v := 0) hX dX13_ofSign_99 (by decide) ?_
  exact pj_ofSign_100 hX hc h
set_option maxHeartbeats 4000000 in
theorem pj_ofSign_27 {h0 : Nat} {qs : List Nat} {ks : Nat → Nat} {n : Nat} {call : zCl} {kc : Nat → List Value → zSt → (Option Value → zSt → Prop) → Prop} {v : Option Value × zSt} {X : Nat → zLv → List Value → zSt → Prop} (hX : zSem cX13_ofSign 8 (some .int) h0 qs ks kc (fun r u => (r, u) = v) X) (hc : ∀ j av s w, call j av s = some w → kc j av s (fun r u => (r, u) = w)) {x1 : Int32} {x2 : Int32} {x3 : Int32} {t0 : Int32} {σ : zSt} (h : j_ofSign_27 n call h0 qs ks x1 x2 x3 t0 σ = some v) : X 27 [some (.ref h0), some (.int x1), some (.int x2), some (.int x3), none, none, none, none] [.int t0] σ := by
  rw [j_ofSign_27] at h
  refine zs_istore hX dX13_ofSign_27 (by decide) rfl ?_
  dsimp only [List.set]
  refine zs_aload_n hX dX13_ofSign_29 rfl rfl ?_
  refine zg_sTo hX dX13_ofSign_30 ?_
  refine zs_aload_n hX dX13_ofSign_33 rfl rfl ?_
  refine zg_x3 hX dX13_ofSign_34 ?_
  refine zs_iload_n hX dX13_ofSign_37 rfl rfl ?_
  obtain ⟨b1, h⟩ := zgd_e h
  refine zl_x3 hX dX13_ofSign_38 (zin_ok b1) ?_
  obtain ⟨b2, h⟩ := zgd_e h
  refine zl_sTo hX dX13_ofSign_39 (zin_ok b2) ?_
  refine zs_aload_n hX dX13_ofSign_40 rfl rfl ?_
  refine zg_sFrom hX dX13_ofSign_41 ?_
  refine zs_aload_n hX dX13_ofSign_44 rfl rfl ?_
  refine zg_x3 hX dX13_ofSign_45 ?_
  refine zs_iload_n hX dX13_ofSign_48 rfl rfl ?_
  obtain ⟨b3, h⟩ := zgd_e h
  refine zl_x3 hX dX13_ofSign_49 (zin_ok b3) ?_
  obtain ⟨b4, h⟩ := zgd_e h
  refine zl_sFrom hX dX13_ofSign_50 (zin_ok b4) ?_
  refine zs_isub hX dX13_ofSign_51 ?_
  refine zs_iconst (v := 1) hX dX13_ofSign_52 (by decide) ?_
  refine zs_icmp_ne (tgt := 99) hX dX13_ofSign_53 (by decide) (fun c5 => ?_) (fun c5 => ?_)
  · rw [if_neg c5] at h
    exact pj_ofSign_99 hX hc h
  · rw [if_pos c5] at h
    refine zs_aload_n hX dX13_ofSign_56 rfl rfl ?_
    refine zg_pKind hX dX13_ofSign_57 ?_
    refine zs_aload_n hX dX13_ofSign_60 rfl rfl ?_
    refine zg_sFrom hX dX13_ofSign_61 ?_
    refine zs_aload_n hX dX13_ofSign_64 rfl rfl ?_
    refine zg_x3 hX dX13_ofSign_65 ?_
    refine zs_iload_n hX dX13_ofSign_68 rfl rfl ?_
    obtain ⟨b6, h⟩ := zgd_e h
    refine zl_x3 hX dX13_ofSign_69 (zin_ok b6) ?_
    obtain ⟨b7, h⟩ := zgd_e h
    refine zl_sFrom hX dX13_ofSign_70 (zin_ok b7) ?_
    obtain ⟨b8, h⟩ := zgd_e h
    refine zl_pKind hX dX13_ofSign_71 (zin_ok b8) ?_
    refine zs_if_ne (tgt := 99) hX dX13_ofSign_72 (by decide) (fun c9 => ?_) (fun c9 => ?_)
    · rw [if_neg c9] at h
      exact pj_ofSign_99 hX hc h
    · rw [if_pos c9] at h
      refine zs_aload_n hX dX13_ofSign_75 rfl rfl ?_
      refine zg_pSign hX dX13_ofSign_76 ?_
      refine zs_aload_n hX dX13_ofSign_79 rfl rfl ?_
      refine zg_sFrom hX dX13_ofSign_80 ?_
      refine zs_aload_n hX dX13_ofSign_83 rfl rfl ?_
      refine zg_x3 hX dX13_ofSign_84 ?_
      refine zs_iload_n hX dX13_ofSign_87 rfl rfl ?_
      obtain ⟨b10, h⟩ := zgd_e h
      refine zl_x3 hX dX13_ofSign_88 (zin_ok b10) ?_
      obtain ⟨b11, h⟩ := zgd_e h
      refine zl_sFrom hX dX13_ofSign_89 (zin_ok b11) ?_
      obtain ⟨b12, h⟩ := zgd_e h
      refine zl_pSign hX dX13_ofSign_90 (zin_ok b12) ?_
      refine zs_iconst (v := 1) hX dX13_ofSign_91 (by decide) ?_
      refine zs_icmp_ne (tgt := 99) hX dX13_ofSign_92 (by decide) (fun c13 => ?_) (fun c13 => ?_)
      · rw [if_neg c13] at h
        exact pj_ofSign_99 hX hc h
      · rw [if_pos c13] at h
        refine zs_iconst (v := 1) hX dX13_ofSign_95 (by decide) ?_
        refine zs_goto (tgt := 100) hX dX13_ofSign_96 (by decide) ?_
        exact pj_ofSign_100 hX hc h
set_option maxHeartbeats 4000000 in
theorem pb_ofSign {h0 : Nat} {qs : List Nat} {ks : Nat → Nat} {n : Nat} {call : zCl} {kc : Nat → List Value → zSt → (Option Value → zSt → Prop) → Prop} {v : Option Value × zSt} {X : Nat → zLv → List Value → zSt → Prop} (hX : zSem cX13_ofSign 8 (some .int) h0 qs ks kc (fun r u => (r, u) = v) X) (hc : ∀ j av s w, call j av s = some w → kc j av s (fun r u => (r, u) = w)) {x1 : Int32} {x2 : Int32} {x3 : Int32} {σ : zSt} (h : b_ofSign n call h0 qs ks x1 x2 x3 σ = some v) : X 0 [some (.ref h0), some (.int x1), some (.int x2), some (.int x3), none, none, none, none] [] σ := by
  rw [b_ofSign] at h
  refine zs_aload_n hX dX13_ofSign_0 rfl rfl ?_
  obtain ⟨s1, e2, h⟩ := zcv_e h
  refine zc_clearLine hX dX13_ofSign_1 (Nat.le_of_ble_eq_true rfl) (hc _ _ _ _ e2) (fun u9 h9 => ?_)
  cases h9
  refine zs_aload_n hX dX13_ofSign_4 rfl rfl ?_
  refine zs_aload_n hX dX13_ofSign_5 rfl rfl ?_
  refine zg_x3 hX dX13_ofSign_6 ?_
  refine zs_iload_n hX dX13_ofSign_9 rfl rfl ?_
  obtain ⟨b3, h⟩ := zgd_e h
  refine zl_x3 hX dX13_ofSign_10 (zin_ok b3) ?_
  refine zs_iconst (v := 1) hX dX13_ofSign_11 (by decide) ?_
  obtain ⟨s4, e5, h⟩ := zcv_e h
  refine zc_addSum hX dX13_ofSign_12 (Nat.le_of_ble_eq_true rfl) (hc _ _ _ _ e5) (fun u9 h9 => ?_)
  cases h9
  refine zs_aload_n hX dX13_ofSign_15 rfl rfl ?_
  refine zg_lMany hX dX13_ofSign_16 ?_
  refine zs_if_ne (tgt := 26) hX dX13_ofSign_19 (by decide) (fun c6 => ?_) (fun c6 => ?_)
  · rw [if_neg c6] at h
    refine zs_iconst (v := 0) hX dX13_ofSign_26 (by decide) ?_
    exact pj_ofSign_27 hX hc h
  · rw [if_pos c6] at h
    refine zs_iconst (v := 1) hX dX13_ofSign_22 (by decide) ?_
    refine zs_goto (tgt := 27) hX dX13_ofSign_23 (by decide) ?_
    exact pj_ofSign_27 hX hc h
def j_ofCall_268 (n : Nat) (call : zCl) (h0 : Nat) (qs : List Nat) (ks : Nat → Nat) (k21 : Int32 → Int32 → Int32 → Int32 → Int32 → zSt → zRs) (x1 : Int32) (x2 : Int32) (x3 : Int32) (x4 : Int32) (x5 : Int32) (σ : zSt) : zRs :=
  k21 x1 x2 x3 x4 (x5 + 1) σ
def j_ofCall_247 (n : Nat) (call : zCl) (h0 : Nat) (qs : List Nat) (ks : Nat → Nat) (k21 : Int32 → Int32 → Int32 → Int32 → Int32 → zSt → zRs) (x1 : Int32) (x2 : Int32) (x3 : Int32) (x5 : Int32) (t1 : Int32) (t2 : Int32) (t3 : Int32) (t4 : Int32) (σ : zSt) : zRs :=
  zci (call 77 [.ref h0, .int t1, .int t2, .int t3, .int t4, .long (σ.2.1 64)] σ) fun r3 s1 =>
  j_ofCall_268 n call h0 qs ks k21 x1 x2 x3 r3 x5 s1
def j_ofCall_230 (n : Nat) (call : zCl) (h0 : Nat) (qs : List Nat) (ks : Nat → Nat) (k21 : Int32 → Int32 → Int32 → Int32 → Int32 → zSt → zRs) (x1 : Int32) (x2 : Int32) (x3 : Int32) (x5 : Int32) (t1 : Int32) (t2 : Int32) (t3 : Int32) (σ : zSt) : zRs :=
  if (σ.1 63) = 0 then
    j_ofCall_247 n call h0 qs ks k21 x1 x2 x3 x5 t1 t2 t3 0 σ
  else
    zgd (zin 0 40) (
    j_ofCall_247 n call h0 qs ks k21 x1 x2 x3 x5 t1 t2 t3 (σ.2.2.1 41 ((0 : Int32)).toNatClampNeg) σ)
def j_ofCall_154 (n : Nat) (call : zCl) (h0 : Nat) (qs : List Nat) (ks : Nat → Nat) (k21 : Int32 → Int32 → Int32 → Int32 → Int32 → zSt → zRs) (x1 : Int32) (x2 : Int32) (x3 : Int32) (x4 : Int32) (x5 : Int32) (x7 : Int32) (x8 : Int32) (σ : zSt) : zRs :=
  zgd (zin x4 40000) (
  zcv (call 78 [.ref h0, .int x8, .int (σ.2.2.1 45 (x4).toNatClampNeg), .int x2, .int x3] σ) fun s2 =>
  zgd (zin x4 40000) (
  zgd (zin (s2.2.2.1 45 (x4).toNatClampNeg) 40000) (
  zci (call 71 [.int (s2.2.2.1 42 ((s2.2.2.1 45 (x4).toNatClampNeg)).toNatClampNeg)] s2) fun r8 s6 =>
  if r8 = 0 then
    zgd (zin x4 40000) (
    j_ofCall_268 n call h0 qs ks k21 x1 x2 x3 (s6.2.2.1 46 (x4).toNatClampNeg) x5 s6)
  else
    zci (call 57 [.ref h0, .int x7] s6) fun r13 s11 =>
    zgd (zin x4 40000) (
    zgd (zin x4 40000) (
    if (s11.1 63) = 0 then
      j_ofCall_230 n call h0 qs ks k21 x1 x2 x3 x5 (s11.2.2.1 46 (x4).toNatClampNeg) (s11.2.2.1 44 (x4).toNatClampNeg) (-1) s11
    else
      zgd (zin 0 40) (
      j_ofCall_230 n call h0 qs ks k21 x1 x2 x3 x5 (s11.2.2.1 46 (x4).toNatClampNeg) (s11.2.2.1 44 (x4).toNatClampNeg) (s11.2.2.1 40 ((0 : Int32)).toNatClampNeg) s11))))))
def l_ofCall_21 (n : Nat) (call : zCl) (h0 : Nat) (qs : List Nat) (ks : Nat → Nat) : Nat → Int32 → Int32 → Int32 → Int32 → Int32 → zSt → zRs
  | 0, _, _, _, _, _, _ => none
  | f + 1, x1, x2, x3, x4, x5, σ =>
    zgd (zin x1 2100) (
    if (σ.2.2.1 11 (x1).toNatClampNeg) ≤ x5 then
      some (some (.int x4), σ)
    else
      zgd (zin x1 2100) (
      zgd (zin ((σ.2.2.1 10 (x1).toNatClampNeg) + x5) 2100) (
      zgd (zin ((σ.2.2.1 10 (x1).toNatClampNeg) + x5) 2100) (
      if (σ.2.2.1 19 (((σ.2.2.1 10 (x1).toNatClampNeg) + x5)).toNatClampNeg) = 1 then
        zci (call 83 [.ref h0, .int (σ.2.2.1 20 (((σ.2.2.1 10 (x1).toNatClampNeg) + x5)).toNatClampNeg), .int x2, .int x3] σ) fun r33 s31 =>
        j_ofCall_154 n call h0 qs ks (l_ofCall_21 n call h0 qs ks f) x1 x2 x3 x4 x5 (σ.2.2.1 20 (((σ.2.2.1 10 (x1).toNatClampNeg) + x5)).toNatClampNeg) r33 s31
      else
        zgd (zin ((σ.2.2.1 10 (x1).toNatClampNeg) + x5) 2100) (
        if (σ.2.2.1 19 (((σ.2.2.1 10 (x1).toNatClampNeg) + x5)).toNatClampNeg) ≤ 1 then
          zci (call 48 [.ref h0, .int (σ.2.2.1 20 (((σ.2.2.1 10 (x1).toNatClampNeg) + x5)).toNatClampNeg)] σ) fun r11 s9 =>
          if r11 = 0 then
            zci (call 70 [.ref h0, .int (σ.2.2.1 20 (((σ.2.2.1 10 (x1).toNatClampNeg) + x5)).toNatClampNeg)] s9) fun r15 s13 =>
            zci (call 68 [.ref h0, .int (-1), .int r15, .int (-1)] s13) fun r18 s16 =>
            zci (call 67 [.ref h0, .int 1, .int r18, .int (-1), .int (-1), .int (-1)] s16) fun r21 s19 =>
            j_ofCall_154 n call h0 qs ks (l_ofCall_21 n call h0 qs ks f) x1 x2 x3 x4 x5 (σ.2.2.1 20 (((σ.2.2.1 10 (x1).toNatClampNeg) + x5)).toNatClampNeg) r21 s19
          else
            zgd (zin (σ.2.2.1 20 (((σ.2.2.1 10 (x1).toNatClampNeg) + x5)).toNatClampNeg) 2100) (
            zgd (zin (s9.2.2.1 13 ((σ.2.2.1 20 (((σ.2.2.1 10 (x1).toNatClampNeg) + x5)).toNatClampNeg)).toNatClampNeg) 2100) (
            zgd (zin (s9.2.2.1 18 ((s9.2.2.1 13 ((σ.2.2.1 20 (((σ.2.2.1 10 (x1).toNatClampNeg) + x5)).toNatClampNeg)).toNatClampNeg)).toNatClampNeg) 2010) (
            zci (call 80 [.ref h0, .int (s9.2.2.1 32 ((s9.2.2.1 18 ((s9.2.2.1 13 ((σ.2.2.1 20 (((σ.2.2.1 10 (x1).toNatClampNeg) + x5)).toNatClampNeg)).toNatClampNeg)).toNatClampNeg)).toNatClampNeg)] s9) fun r27 s25 =>
            j_ofCall_154 n call h0 qs ks (l_ofCall_21 n call h0 qs ks f) x1 x2 x3 x4 x5 (σ.2.2.1 20 (((σ.2.2.1 10 (x1).toNatClampNeg) + x5)).toNatClampNeg) r27 s25)))
        else
          zci (call 72 [.ref h0, .int 2] σ) fun r30 s28 =>
          j_ofCall_154 n call h0 qs ks (l_ofCall_21 n call h0 qs ks f) x1 x2 x3 x4 x5 (σ.2.2.1 20 (((σ.2.2.1 10 (x1).toNatClampNeg) + x5)).toNatClampNeg) r30 s28)))))
def b_ofCall (n : Nat) (call : zCl) (h0 : Nat) (qs : List Nat) (ks : Nat → Nat) (x1 : Int32) (x2 : Int32) (x3 : Int32) (σ : zSt) : zRs :=
  zgd (zin x1 2100) (
  zgd (zin (σ.2.2.1 9 (x1).toNatClampNeg) 2010) (
  zgd (zin (σ.2.2.1 32 ((σ.2.2.1 9 (x1).toNatClampNeg)).toNatClampNeg) 700) (
  l_ofCall_21 n call h0 qs ks n x1 x2 x3 (σ.2.2.1 74 ((σ.2.2.1 32 ((σ.2.2.1 9 (x1).toNatClampNeg)).toNatClampNeg)).toNatClampNeg) 0 σ)))
set_option maxHeartbeats 4000000 in
theorem pj_ofCall_268 {h0 : Nat} {qs : List Nat} {ks : Nat → Nat} {n : Nat} {call : zCl} {kc : Nat → List Value → zSt → (Option Value → zSt → Prop) → Prop} {v : Option Value × zSt} {X : Nat → zLv → List Value → zSt → Prop} (hX : zSem cX13_ofCall 10 (some .int) h0 qs ks kc (fun r u => (r, u) = v) X) (hc : ∀ j av s w, call j av s = some w → kc j av s (fun r u => (r, u) = w)) {k21 : Int32 → Int32 → Int32 → Int32 → Int32 → zSt → zRs} (hk21 : ∀ (x1 : Int32) (x2 : Int32) (x3 : Int32) (x4 : Int32) (x5 : Int32) (s : zSt), k21 x1 x2 x3 x4 x5 s = some v → X 21 [some (.ref h0), some (.int x1), some (.int x2), some (.int x3), some (.int x4), some (.int x5), none, none, none, none] [] s) {x1 : Int32} {x2 : Int32} {x3 : Int32} {x4 : Int32} {x5 : Int32} {σ : zSt} (h : j_ofCall_268 n call h0 qs ks k21 x1 x2 x3 x4 x5 σ = some v) : X 268 [some (.ref h0), some (.int x1), some (.int x2), some (.int x3), some (.int x4), some (.int x5), none, none, none, none] [] σ := by
  rw [j_ofCall_268] at h
  refine zs_iinc (v := x5 + 1) hX dX13_ofCall_268 rfl rfl (by decide) rfl ?_
  dsimp only [List.set]
  refine zs_goto (tgt := 21) hX dX13_ofCall_271 (by decide) ?_
  exact hk21 _ _ _ _ _ _ h
set_option maxHeartbeats 4000000 in
theorem pj_ofCall_247 {h0 : Nat} {qs : List Nat} {ks : Nat → Nat} {n : Nat} {call : zCl} {kc : Nat → List Value → zSt → (Option Value → zSt → Prop) → Prop} {v : Option Value × zSt} {X : Nat → zLv → List Value → zSt → Prop} (hX : zSem cX13_ofCall 10 (some .int) h0 qs ks kc (fun r u => (r, u) = v) X) (hc : ∀ j av s w, call j av s = some w → kc j av s (fun r u => (r, u) = w)) {k21 : Int32 → Int32 → Int32 → Int32 → Int32 → zSt → zRs} (hk21 : ∀ (x1 : Int32) (x2 : Int32) (x3 : Int32) (x4 : Int32) (x5 : Int32) (s : zSt), k21 x1 x2 x3 x4 x5 s = some v → X 21 [some (.ref h0), some (.int x1), some (.int x2), some (.int x3), some (.int x4), some (.int x5), none, none, none, none] [] s) {x1 : Int32} {x2 : Int32} {x3 : Int32} {x5 : Int32} {t1 : Int32} {t2 : Int32} {t3 : Int32} {t4 : Int32} {σ : zSt} (h : j_ofCall_247 n call h0 qs ks k21 x1 x2 x3 x5 t1 t2 t3 t4 σ = some v) : X 247 [some (.ref h0), some (.int x1), some (.int x2), some (.int x3), none, some (.int x5), none, none, none, none] [.int t4, .int t3, .int t2, .int t1, .ref h0] σ := by
  rw [j_ofCall_247] at h
  refine zs_aload_n hX dX13_ofCall_247 rfl rfl ?_
  refine zg_lNumber hX dX13_ofCall_248 ?_
  obtain ⟨r3, s1, e2, h⟩ := zci_e h
  refine zc_put hX dX13_ofCall_251 (Nat.le_of_ble_eq_true rfl) (hc _ _ _ _ e2) (fun r9 u9 h9 => ?_)
  cases h9
  refine zs_istore hX dX13_ofCall_254 (by decide) rfl ?_
  dsimp only [List.set]
  refine zs_goto (tgt := 268) hX dX13_ofCall_256 (by decide) ?_
  exact pj_ofCall_268 hX hc hk21 h
set_option maxHeartbeats 4000000 in
theorem pj_ofCall_230 {h0 : Nat} {qs : List Nat} {ks : Nat → Nat} {n : Nat} {call : zCl} {kc : Nat → List Value → zSt → (Option Value → zSt → Prop) → Prop} {v : Option Value × zSt} {X : Nat → zLv → List Value → zSt → Prop} (hX : zSem cX13_ofCall 10 (some .int) h0 qs ks kc (fun r u => (r, u) = v) X) (hc : ∀ j av s w, call j av s = some w → kc j av s (fun r u => (r, u) = w)) {k21 : Int32 → Int32 → Int32 → Int32 → Int32 → zSt → zRs} (hk21 : ∀ (x1 : Int32) (x2 : Int32) (x3 : Int32) (x4 : Int32) (x5 : Int32) (s : zSt), k21 x1 x2 x3 x4 x5 s = some v → X 21 [some (.ref h0), some (.int x1), some (.int x2), some (.int x3), some (.int x4), some (.int x5), none, none, none, none] [] s) {x1 : Int32} {x2 : Int32} {x3 : Int32} {x5 : Int32} {t1 : Int32} {t2 : Int32} {t3 : Int32} {σ : zSt} (h : j_ofCall_230 n call h0 qs ks k21 x1 x2 x3 x5 t1 t2 t3 σ = some v) : X 230 [some (.ref h0), some (.int x1), some (.int x2), some (.int x3), none, some (.int x5), none, none, none, none] [.int t3, .int t2, .int t1, .ref h0] σ := by
  rw [j_ofCall_230] at h
  refine zs_aload_n hX dX13_ofCall_230 rfl rfl ?_
  refine zg_lMany hX dX13_ofCall_231 ?_
  refine zs_if_ne (tgt := 241) hX dX13_ofCall_234 (by decide) (fun c1 => ?_) (fun c1 => ?_)
  · rw [if_neg c1] at h
    refine zs_aload_n hX dX13_ofCall_241 rfl rfl ?_
    refine zg_lTimes hX dX13_ofCall_242 ?_
    refine zs_iconst (v := 0) hX dX13_ofCall_245 (by decide) ?_
    obtain ⟨b2, h⟩ := zgd_e h
    refine zl_lTimes hX dX13_ofCall_246 (zin_ok b2) ?_
    exact pj_ofCall_247 hX hc hk21 h
  · rw [if_pos c1] at h
    refine zs_iconst (v := 0) hX dX13_ofCall_237 (by decide) ?_
    refine zs_goto (tgt := 247) hX dX13_ofCall_238 (by decide) ?_
    exact pj_ofCall_247 hX hc hk21 h
set_option maxHeartbeats 4000000 in
theorem pj_ofCall_154 {h0 : Nat} {qs : List Nat} {ks : Nat → Nat} {n : Nat} {call : zCl} {kc : Nat → List Value → zSt → (Option Value → zSt → Prop) → Prop} {v : Option Value × zSt} {X : Nat → zLv → List Value → zSt → Prop} (hX : zSem cX13_ofCall 10 (some .int) h0 qs ks kc (fun r u => (r, u) = v) X) (hc : ∀ j av s w, call j av s = some w → kc j av s (fun r u => (r, u) = w)) {k21 : Int32 → Int32 → Int32 → Int32 → Int32 → zSt → zRs} (hk21 : ∀ (x1 : Int32) (x2 : Int32) (x3 : Int32) (x4 : Int32) (x5 : Int32) (s : zSt), k21 x1 x2 x3 x4 x5 s = some v → X 21 [some (.ref h0), some (.int x1), some (.int x2), some (.int x3), some (.int x4), some (.int x5), none, none, none, none] [] s) {x1 : Int32} {x2 : Int32} {x3 : Int32} {x4 : Int32} {x5 : Int32} {x7 : Int32} {x8 : Int32} {σ : zSt} (h : j_ofCall_154 n call h0 qs ks k21 x1 x2 x3 x4 x5 x7 x8 σ = some v) : X 154 [some (.ref h0), some (.int x1), some (.int x2), some (.int x3), some (.int x4), some (.int x5), none, some (.int x7), some (.int x8), none] [] σ := by
  rw [j_ofCall_154] at h
  refine zs_aload_n hX dX13_ofCall_154 rfl rfl ?_
  refine zs_iload hX dX13_ofCall_155 rfl ?_
  refine zs_aload_n hX dX13_ofCall_157 rfl rfl ?_
  refine zg_rLeft hX dX13_ofCall_158 ?_
  refine zs_iload hX dX13_ofCall_161 rfl ?_
  obtain ⟨b1, h⟩ := zgd_e h
  refine zl_rLeft hX dX13_ofCall_163 (zin_ok b1) ?_
  refine zs_iload_n hX dX13_ofCall_164 rfl rfl ?_
  refine zs_iload_n hX dX13_ofCall_165 rfl rfl ?_
  obtain ⟨s2, e3, h⟩ := zcv_e h
  refine zc_mustFit hX dX13_ofCall_166 (Nat.le_of_ble_eq_true rfl) (hc _ _ _ _ e3) (fun u9 h9 => ?_)
  cases h9
  refine zs_aload_n hX dX13_ofCall_169 rfl rfl ?_
  refine zg_rKind hX dX13_ofCall_170 ?_
  refine zs_aload_n hX dX13_ofCall_173 rfl rfl ?_
  refine zg_rLeft hX dX13_ofCall_174 ?_
  refine zs_iload hX dX13_ofCall_177 rfl ?_
  obtain ⟨b4, h⟩ := zgd_e h
  refine zl_rLeft hX dX13_ofCall_179 (zin_ok b4) ?_
  obtain ⟨b5, h⟩ := zgd_e h
  refine zl_rKind hX dX13_ofCall_180 (zin_ok b5) ?_
  obtain ⟨r8, s6, e7, h⟩ := zci_e h
  refine zc_isSaid hX dX13_ofCall_181 (Nat.le_of_ble_eq_true rfl) (hc _ _ _ _ e7) (fun r9 u9 h9 => ?_)
  cases h9
  refine zs_istore hX dX13_ofCall_184 (by decide) rfl ?_
  dsimp only [List.set]
  refine zs_iload hX dX13_ofCall_186 rfl ?_
  refine zs_if_eq (tgt := 259) hX dX13_ofCall_188 (by decide) (fun c9 => ?_) (fun c9 => ?_)
  · rw [if_pos c9] at h
    refine zs_aload_n hX dX13_ofCall_259 rfl rfl ?_
    refine zg_rRight hX dX13_ofCall_260 ?_
    refine zs_iload hX dX13_ofCall_263 rfl ?_
    obtain ⟨b10, h⟩ := zgd_e h
    refine zl_rRight hX dX13_ofCall_265 (zin_ok b10) ?_
    refine zs_istore hX dX13_ofCall_266 (by decide) rfl ?_
    dsimp only [List.set]
    refine zs_weak hX (lw := [some (.ref h0), some (.int x1), some (.int x2), some (.int x3), some (.int (s6.2.2.1 46 (x4).toNatClampNeg)), some (.int x5), none, none, none, none]) ⟨rfl, rfl, rfl, rfl, rfl, rfl, trivial⟩ ?_
    exact pj_ofCall_268 hX hc hk21 h
  · rw [if_neg c9] at h
    refine zs_aload_n hX dX13_ofCall_191 rfl rfl ?_
    refine zs_iload hX dX13_ofCall_192 rfl ?_
    obtain ⟨r13, s11, e12, h⟩ := zci_e h
    refine zc_isTerm hX dX13_ofCall_194 (Nat.le_of_ble_eq_true rfl) (hc _ _ _ _ e12) (fun r9 u9 h9 => ?_)
    cases h9
    refine zs_pop hX dX13_ofCall_197 rfl ?_
    refine zs_aload_n hX dX13_ofCall_198 rfl rfl ?_
    refine zs_aload_n hX dX13_ofCall_199 rfl rfl ?_
    refine zg_rRight hX dX13_ofCall_200 ?_
    refine zs_iload hX dX13_ofCall_203 rfl ?_
    obtain ⟨b14, h⟩ := zgd_e h
    refine zl_rRight hX dX13_ofCall_205 (zin_ok b14) ?_
    refine zs_aload_n hX dX13_ofCall_206 rfl rfl ?_
    refine zg_rName hX dX13_ofCall_207 ?_
    refine zs_iload hX dX13_ofCall_210 rfl ?_
    obtain ⟨b15, h⟩ := zgd_e h
    refine zl_rName hX dX13_ofCall_212 (zin_ok b15) ?_
    refine zs_aload_n hX dX13_ofCall_213 rfl rfl ?_
    refine zg_lMany hX dX13_ofCall_214 ?_
    refine zs_if_ne (tgt := 224) hX dX13_ofCall_217 (by decide) (fun c16 => ?_) (fun c16 => ?_)
    · rw [if_neg c16] at h
      refine zs_aload_n hX dX13_ofCall_224 rfl rfl ?_
      refine zg_lName hX dX13_ofCall_225 ?_
      refine zs_iconst (v := 0) hX dX13_ofCall_228 (by decide) ?_
      obtain ⟨b17, h⟩ := zgd_e h
      refine zl_lName hX dX13_ofCall_229 (zin_ok b17) ?_
      refine zs_weak hX (lw := [some (.ref h0), some (.int x1), some (.int x2), some (.int x3), none, some (.int x5), none, none, none, none]) ⟨rfl, rfl, rfl, rfl, rfl, trivial⟩ ?_
      exact pj_ofCall_230 hX hc hk21 h
    · rw [if_pos c16] at h
      refine zs_iconst (v := (-1)) hX dX13_ofCall_220 (by decide) ?_
      refine zs_goto (tgt := 230) hX dX13_ofCall_221 (by decide) ?_
      refine zs_weak hX (lw := [some (.ref h0), some (.int x1), some (.int x2), some (.int x3), none, some (.int x5), none, none, none, none]) ⟨rfl, rfl, rfl, rfl, rfl, trivial⟩ ?_
      exact pj_ofCall_230 hX hc hk21 h
set_option maxHeartbeats 4000000 in
theorem pl_ofCall_21 {h0 : Nat} {qs : List Nat} {ks : Nat → Nat} {n : Nat} {call : zCl} {kc : Nat → List Value → zSt → (Option Value → zSt → Prop) → Prop} {v : Option Value × zSt} {X : Nat → zLv → List Value → zSt → Prop} (hX : zSem cX13_ofCall 10 (some .int) h0 qs ks kc (fun r u => (r, u) = v) X) (hc : ∀ j av s w, call j av s = some w → kc j av s (fun r u => (r, u) = w)) : ∀ (f : Nat) (x1 : Int32) (x2 : Int32) (x3 : Int32) (x4 : Int32) (x5 : Int32) (σ : zSt), l_ofCall_21 n call h0 qs ks f x1 x2 x3 x4 x5 σ = some v → X 21 [some (.ref h0), some (.int x1), some (.int x2), some (.int x3), some (.int x4), some (.int x5), none, none, none, none] [] σ := by
  intro f
  induction f with
  | zero => intro x1 x2 x3 x4 x5 σ h; cases h
  | succ f hk21 =>
    intro x1 x2 x3 x4 x5 σ h
    rw [l_ofCall_21] at h
    refine zs_iload hX dX13_ofCall_21 rfl ?_
    refine zs_aload_n hX dX13_ofCall_23 rfl rfl ?_
    refine zg_x3 hX dX13_ofCall_24 ?_
    refine zs_iload_n hX dX13_ofCall_27 rfl rfl ?_
    obtain ⟨b1, h⟩ := zgd_e h
    refine zl_x3 hX dX13_ofCall_28 (zin_ok b1) ?_
    refine zs_icmp_ge (tgt := 274) hX dX13_ofCall_29 (by decide) (fun c2 => ?_) (fun c2 => ?_)
    · rw [if_pos c2] at h
      refine zs_iload hX dX13_ofCall_274 rfl ?_
      exact zs_iret hX dX13_ofCall_276 rfl (Option.some.inj h)
    · rw [if_neg c2] at h
      refine zs_aload_n hX dX13_ofCall_32 rfl rfl ?_
      refine zg_x2 hX dX13_ofCall_33 ?_
      refine zs_iload_n hX dX13_ofCall_36 rfl rfl ?_
      obtain ⟨b3, h⟩ := zgd_e h
      refine zl_x2 hX dX13_ofCall_37 (zin_ok b3) ?_
      refine zs_iload hX dX13_ofCall_38 rfl ?_
      refine zs_iadd hX dX13_ofCall_40 ?_
      refine zs_istore hX dX13_ofCall_41 (by decide) rfl ?_
      dsimp only [List.set]
      refine zs_aload_n hX dX13_ofCall_43 rfl rfl ?_
      refine zg_aWhat hX dX13_ofCall_44 ?_
      refine zs_iload hX dX13_ofCall_47 rfl ?_
      obtain ⟨b4, h⟩ := zgd_e h
      refine zl_aWhat hX dX13_ofCall_49 (zin_ok b4) ?_
      refine zs_istore hX dX13_ofCall_50 (by decide) rfl ?_
      dsimp only [List.set]
      refine zs_aload_n hX dX13_ofCall_52 rfl rfl ?_
      refine zg_aKind hX dX13_ofCall_53 ?_
      refine zs_iload hX dX13_ofCall_56 rfl ?_
      obtain ⟨b5, h⟩ := zgd_e h
      refine zl_aKind hX dX13_ofCall_58 (zin_ok b5) ?_
      refine zs_iconst (v := 1) hX dX13_ofCall_59 (by decide) ?_
      refine zs_icmp_ne (tgt := 76) hX dX13_ofCall_60 (by decide) (fun c6 => ?_) (fun c6 => ?_)
      · rw [if_neg c6] at h
        refine zs_aload_n hX dX13_ofCall_76 rfl rfl ?_
        refine zg_aKind hX dX13_ofCall_77 ?_
        refine zs_iload hX dX13_ofCall_80 rfl ?_
        obtain ⟨b7, h⟩ := zgd_e h
        refine zl_aKind hX dX13_ofCall_82 (zin_ok b7) ?_
        refine zs_iconst (v := 1) hX dX13_ofCall_83 (by decide) ?_
        refine zs_icmp_le (tgt := 97) hX dX13_ofCall_84 (by decide) (fun c8 => ?_) (fun c8 => ?_)
        · rw [if_pos c8] at h
          refine zs_aload_n hX dX13_ofCall_97 rfl rfl ?_
          refine zs_iload hX dX13_ofCall_98 rfl ?_
          obtain ⟨r11, s9, e10, h⟩ := zci_e h
          refine zc_isName hX dX13_ofCall_100 (Nat.le_of_ble_eq_true rfl) (hc _ _ _ _ e10) (fun r9 u9 h9 => ?_)
          cases h9
          refine zs_if_eq (tgt := 132) hX dX13_ofCall_103 (by decide) (fun c12 => ?_) (fun c12 => ?_)
          · rw [if_pos c12] at h
            refine zs_aload_n hX dX13_ofCall_132 rfl rfl ?_
            refine zs_iconst (v := 1) hX dX13_ofCall_133 (by decide) ?_
            refine zs_aload_n hX dX13_ofCall_134 rfl rfl ?_
            refine zs_iconst (v := (-1)) hX dX13_ofCall_135 (by decide) ?_
            refine zs_aload_n hX dX13_ofCall_136 rfl rfl ?_
            refine zs_iload hX dX13_ofCall_137 rfl ?_
            obtain ⟨r15, s13, e14, h⟩ := zci_e h
            refine zc_isSum hX dX13_ofCall_139 (Nat.le_of_ble_eq_true rfl) (hc _ _ _ _ e14) (fun r9 u9 h9 => ?_)
            cases h9
            refine zs_iconst (v := (-1)) hX dX13_ofCall_142 (by decide) ?_
            obtain ⟨r18, s16, e17, h⟩ := zci_e h
            refine zc_said hX dX13_ofCall_143 (Nat.le_of_ble_eq_true rfl) (hc _ _ _ _ e17) (fun r9 u9 h9 => ?_)
            cases h9
            refine zs_iconst (v := (-1)) hX dX13_ofCall_146 (by decide) ?_
            refine zs_iconst (v := (-1)) hX dX13_ofCall_147 (by decide) ?_
            refine zs_iconst (v := (-1)) hX dX13_ofCall_148 (by decide) ?_
            obtain ⟨r21, s19, e20, h⟩ := zci_e h
            refine zc_rich hX dX13_ofCall_149 (Nat.le_of_ble_eq_true rfl) (hc _ _ _ _ e20) (fun r9 u9 h9 => ?_)
            cases h9
            refine zs_istore hX dX13_ofCall_152 (by decide) rfl ?_
            dsimp only [List.set]
            refine zs_weak hX (lw := [some (.ref h0), some (.int x1), some (.int x2), some (.int x3), some (.int x4), some (.int x5), none, some (.int (σ.2.2.1 20 (((σ.2.2.1 10 (x1).toNatClampNeg) + x5)).toNatClampNeg)), some (.int r21), none]) ⟨rfl, rfl, rfl, rfl, rfl, rfl, rfl, rfl, trivial⟩ ?_
            exact pj_ofCall_154 hX hc hk21 h
          · rw [if_neg c12] at h
            refine zs_aload_n hX dX13_ofCall_106 rfl rfl ?_
            refine zs_aload_n hX dX13_ofCall_107 rfl rfl ?_
            refine zg_whose hX dX13_ofCall_108 ?_
            refine zs_aload_n hX dX13_ofCall_111 rfl rfl ?_
            refine zg_pWord hX dX13_ofCall_112 ?_
            refine zs_aload_n hX dX13_ofCall_115 rfl rfl ?_
            refine zg_sFrom hX dX13_ofCall_116 ?_
            refine zs_iload hX dX13_ofCall_119 rfl ?_
            obtain ⟨b22, h⟩ := zgd_e h
            refine zl_sFrom hX dX13_ofCall_121 (zin_ok b22) ?_
            obtain ⟨b23, h⟩ := zgd_e h
            refine zl_pWord hX dX13_ofCall_122 (zin_ok b23) ?_
            obtain ⟨b24, h⟩ := zgd_e h
            refine zl_whose hX dX13_ofCall_123 (zin_ok b24) ?_
            obtain ⟨r27, s25, e26, h⟩ := zci_e h
            refine zc_ofName hX dX13_ofCall_124 (Nat.le_of_ble_eq_true rfl) (hc _ _ _ _ e26) (fun r9 u9 h9 => ?_)
            cases h9
            refine zs_istore hX dX13_ofCall_127 (by decide) rfl ?_
            dsimp only [List.set]
            refine zs_goto (tgt := 154) hX dX13_ofCall_129 (by decide) ?_
            refine zs_weak hX (lw := [some (.ref h0), some (.int x1), some (.int x2), some (.int x3), some (.int x4), some (.int x5), none, some (.int (σ.2.2.1 20 (((σ.2.2.1 10 (x1).toNatClampNeg) + x5)).toNatClampNeg)), some (.int r27), none]) ⟨rfl, rfl, rfl, rfl, rfl, rfl, rfl, rfl, trivial⟩ ?_
            exact pj_ofCall_154 hX hc hk21 h
        · rw [if_neg c8] at h
          refine zs_aload_n hX dX13_ofCall_87 rfl rfl ?_
          refine zs_iconst (v := 2) hX dX13_ofCall_88 (by decide) ?_
          obtain ⟨r30, s28, e29, h⟩ := zci_e h
          refine zc_plainType hX dX13_ofCall_89 (Nat.le_of_ble_eq_true rfl) (hc _ _ _ _ e29) (fun r9 u9 h9 => ?_)
          cases h9
          refine zs_istore hX dX13_ofCall_92 (by decide) rfl ?_
          dsimp only [List.set]
          refine zs_goto (tgt := 154) hX dX13_ofCall_94 (by decide) ?_
          refine zs_weak hX (lw := [some (.ref h0), some (.int x1), some (.int x2), some (.int x3), some (.int x4), some (.int x5), none, some (.int (σ.2.2.1 20 (((σ.2.2.1 10 (x1).toNatClampNeg) + x5)).toNatClampNeg)), some (.int r30), none]) ⟨rfl, rfl, rfl, rfl, rfl, rfl, rfl, rfl, trivial⟩ ?_
          exact pj_ofCall_154 hX hc hk21 h
      · rw [if_pos c6] at h
        refine zs_aload_n hX dX13_ofCall_63 rfl rfl ?_
        refine zs_iload hX dX13_ofCall_64 rfl ?_
        refine zs_iload_n hX dX13_ofCall_66 rfl rfl ?_
        refine zs_iload_n hX dX13_ofCall_67 rfl rfl ?_
        obtain ⟨r33, s31, e32, h⟩ := zci_e h
        refine zc_richOf hX dX13_ofCall_68 (Nat.le_of_ble_eq_true rfl) (hc _ _ _ _ e32) (fun r9 u9 h9 => ?_)
        cases h9
        refine zs_istore hX dX13_ofCall_71 (by decide) rfl ?_
        dsimp only [List.set]
        refine zs_goto (tgt := 154) hX dX13_ofCall_73 (by decide) ?_
        refine zs_weak hX (lw := [some (.ref h0), some (.int x1), some (.int x2), some (.int x3), some (.int x4), some (.int x5), none, some (.int (σ.2.2.1 20 (((σ.2.2.1 10 (x1).toNatClampNeg) + x5)).toNatClampNeg)), some (.int r33), none]) ⟨rfl, rfl, rfl, rfl, rfl, rfl, rfl, rfl, trivial⟩ ?_
        exact pj_ofCall_154 hX hc hk21 h
set_option maxHeartbeats 4000000 in
theorem pb_ofCall {h0 : Nat} {qs : List Nat} {ks : Nat → Nat} {n : Nat} {call : zCl} {kc : Nat → List Value → zSt → (Option Value → zSt → Prop) → Prop} {v : Option Value × zSt} {X : Nat → zLv → List Value → zSt → Prop} (hX : zSem cX13_ofCall 10 (some .int) h0 qs ks kc (fun r u => (r, u) = v) X) (hc : ∀ j av s w, call j av s = some w → kc j av s (fun r u => (r, u) = w)) {x1 : Int32} {x2 : Int32} {x3 : Int32} {σ : zSt} (h : b_ofCall n call h0 qs ks x1 x2 x3 σ = some v) : X 0 [some (.ref h0), some (.int x1), some (.int x2), some (.int x3), none, none, none, none, none, none] [] σ := by
  rw [b_ofCall] at h
  refine zs_aload_n hX dX13_ofCall_0 rfl rfl ?_
  refine zg_dRich hX dX13_ofCall_1 ?_
  refine zs_aload_n hX dX13_ofCall_4 rfl rfl ?_
  refine zg_whose hX dX13_ofCall_5 ?_
  refine zs_aload_n hX dX13_ofCall_8 rfl rfl ?_
  refine zg_x1 hX dX13_ofCall_9 ?_
  refine zs_iload_n hX dX13_ofCall_12 rfl rfl ?_
  obtain ⟨b1, h⟩ := zgd_e h
  refine zl_x1 hX dX13_ofCall_13 (zin_ok b1) ?_
  obtain ⟨b2, h⟩ := zgd_e h
  refine zl_whose hX dX13_ofCall_14 (zin_ok b2) ?_
  obtain ⟨b3, h⟩ := zgd_e h
  refine zl_dRich hX dX13_ofCall_15 (zin_ok b3) ?_
  refine zs_istore hX dX13_ofCall_16 (by decide) rfl ?_
  dsimp only [List.set]
  refine zs_iconst (v := 0) hX dX13_ofCall_18 (by decide) ?_
  refine zs_istore hX dX13_ofCall_19 (by decide) rfl ?_
  dsimp only [List.set]
  exact pl_ofCall_21 hX hc n _ _ _ _ _ _ h
def l_richOf_290 (n : Nat) (call : zCl) (h0 : Nat) (qs : List Nat) (ks : Nat → Nat) : Nat → Int32 → Int32 → Int32 → Int32 → Int32 → Int32 → Int32 → Int32 → zSt → zRs
  | 0, _, _, _, _, _, _, _, _, _ => none
  | f + 1, x1, x3, x4, x6, x7, x8, x9, x10, σ =>
    if x6 ≤ x10 then
      zgd (zin x1 2100) (
      zci (call 83 [.ref h0, .int (σ.2.2.1 11 (x1).toNatClampNeg), .int x8, .int x3] σ) fun r5 s3 =>
      zcv (call 78 [.ref h0, .int r5, .int x9, .int x8, .int x3] s3) fun s6 =>
      zgd (zin x1 2100) (
      zci (call 83 [.ref h0, .int (s6.2.2.1 12 (x1).toNatClampNeg), .int x7, .int x3] s6) fun r11 s9 =>
      zcv (call 78 [.ref h0, .int r11, .int x4, .int x7, .int x3] s9) fun s12 =>
      some (some (.int x4), s12)))
    else
      zgd (zin x1 2100) (
      zgd (zin ((σ.2.2.1 10 (x1).toNatClampNeg) + x10) 2010) (
      zgd (zin x9 40000) (
      zgd (zin (σ.2.2.1 32 (((σ.2.2.1 10 (x1).toNatClampNeg) + x10)).toNatClampNeg) 700) (zlet (zA σ 74 (upd (σ.2.2.1 74) ((σ.2.2.1 32 (((σ.2.2.1 10 (x1).toNatClampNeg) + x10)).toNatClampNeg)).toNatClampNeg (σ.2.2.1 45 (x9).toNatClampNeg))) fun s18 =>
      zgd (zin (σ.2.2.1 32 (((σ.2.2.1 10 (x1).toNatClampNeg) + x10)).toNatClampNeg) 700) (
      zci (call 73 [.ref h0, .int x8, .int (σ.2.2.1 32 (((σ.2.2.1 10 (x1).toNatClampNeg) + x10)).toNatClampNeg), .int (s18.2.2.1 74 ((σ.2.2.1 32 (((σ.2.2.1 10 (x1).toNatClampNeg) + x10)).toNatClampNeg)).toNatClampNeg)] s18) fun r23 s21 =>
      zgd (zin x9 40000) (
      l_richOf_290 n call h0 qs ks f x1 x3 x4 x6 x7 r23 (s21.2.2.1 46 (x9).toNatClampNeg) (x10 + 1) s21))))))
def b_richOf (n : Nat) (call : zCl) (h0 : Nat) (qs : List Nat) (ks : Nat → Nat) (x1 : Int32) (x2 : Int32) (x3 : Int32) (σ : zSt) : zRs :=
  zgd (zin x1 2100) (
  if (σ.2.2.1 6 (x1).toNatClampNeg) = 1 then
    zcv (call 75 [.ref h0, .int x2] σ) fun s3 =>
    zgd (zin x1 2100) (
    zci (call 76 [.ref h0, .int (s3.2.2.1 39 (x1).toNatClampNeg), .int (-1), .int 0] s3) fun r8 s6 =>
    zgd (zin x1 2100) (
    zgd (zin (s6.2.2.1 9 (x1).toNatClampNeg) 2010) (
    zgd (zin x1 2100) (
    zci (call 83 [.ref h0, .int (s6.2.2.1 11 (x1).toNatClampNeg), .int x2, .int x3] s6) fun r14 s12 =>
    zgd (zin (s6.2.2.1 32 ((s6.2.2.1 9 (x1).toNatClampNeg)).toNatClampNeg) 700) (zlet (zA s12 74 (upd (s12.2.2.1 74) ((s6.2.2.1 32 ((s6.2.2.1 9 (x1).toNatClampNeg)).toNatClampNeg)).toNatClampNeg r14)) fun s16 =>
    zgd (zin (s6.2.2.1 32 ((s6.2.2.1 9 (x1).toNatClampNeg)).toNatClampNeg) 700) (
    zci (call 73 [.ref h0, .int x2, .int (s6.2.2.1 32 ((s6.2.2.1 9 (x1).toNatClampNeg)).toNatClampNeg), .int (s16.2.2.1 74 ((s6.2.2.1 32 ((s6.2.2.1 9 (x1).toNatClampNeg)).toNatClampNeg)).toNatClampNeg)] s16) fun r21 s19 =>
    zgd (zin x1 2100) (
    zci (call 83 [.ref h0, .int (s19.2.2.1 12 (x1).toNatClampNeg), .int r21, .int x3] s19) fun r25 s23 =>
    zcv (call 78 [.ref h0, .int r25, .int r8, .int r21, .int x3] s23) fun s26 =>
    some (some (.int r8), s26))))))))
  else
  if (σ.2.2.1 6 (x1).toNatClampNeg) = 2 then
    zcv (call 75 [.ref h0, .int x2] σ) fun s29 =>
    zgd (zin x1 2100) (
    zci (call 76 [.ref h0, .int (s29.2.2.1 39 (x1).toNatClampNeg), .int (-1), .int 0] s29) fun r34 s32 =>
    zgd (zin x1 2100) (
    zgd (zin (s32.2.2.1 9 (x1).toNatClampNeg) 2010) (
    zci (call 38 [.ref h0, .int x1] s32) fun r39 s37 =>
    zcv (call 75 [.ref h0, .int x2] s37) fun s40 =>
    zgd (zin (s32.2.2.1 32 ((s32.2.2.1 9 (x1).toNatClampNeg)).toNatClampNeg) 700) (
    zgd (zin x1 2100) (
    zci (call 76 [.ref h0, .int (s40.2.2.1 31 ((s32.2.2.1 32 ((s32.2.2.1 9 (x1).toNatClampNeg)).toNatClampNeg)).toNatClampNeg), .int (s40.2.2.1 10 (x1).toNatClampNeg), .int r39] s40) fun r46 s44 =>
    zgd (zin (s32.2.2.1 32 ((s32.2.2.1 9 (x1).toNatClampNeg)).toNatClampNeg) 700) (zlet (zA s44 74 (upd (s44.2.2.1 74) ((s32.2.2.1 32 ((s32.2.2.1 9 (x1).toNatClampNeg)).toNatClampNeg)).toNatClampNeg r46)) fun s48 =>
    zgd (zin (s32.2.2.1 32 ((s32.2.2.1 9 (x1).toNatClampNeg)).toNatClampNeg) 700) (
    zci (call 73 [.ref h0, .int x2, .int (s32.2.2.1 32 ((s32.2.2.1 9 (x1).toNatClampNeg)).toNatClampNeg), .int (s48.2.2.1 74 ((s32.2.2.1 32 ((s32.2.2.1 9 (x1).toNatClampNeg)).toNatClampNeg)).toNatClampNeg)] s48) fun r53 s51 =>
    zgd (zin (s32.2.2.1 32 ((s32.2.2.1 9 (x1).toNatClampNeg)).toNatClampNeg) 700) (
    l_richOf_290 n call h0 qs ks n x1 x3 r34 r39 r53 r53 (s51.2.2.1 74 ((s32.2.2.1 32 ((s32.2.2.1 9 (x1).toNatClampNeg)).toNatClampNeg)).toNatClampNeg) 0 s51))))))))
  else
  if (σ.2.2.1 6 (x1).toNatClampNeg) = 3 then
    zcv (call 75 [.ref h0, .int x2] σ) fun s56 =>
    zgd (zin x1 2100) (
    zgd (zin x1 2100) (
    zci (call 76 [.ref h0, .int (s56.2.2.1 39 (x1).toNatClampNeg), .int (s56.2.2.1 9 (x1).toNatClampNeg), .int 1] s56) fun r62 s60 =>
    zgd (zin x1 2100) (
    zgd (zin (s60.2.2.1 9 (x1).toNatClampNeg) 2010) (
    zgd (zin r62 40000) (
    zgd (zin (s60.2.2.1 32 ((s60.2.2.1 9 (x1).toNatClampNeg)).toNatClampNeg) 700) (zlet (zA s60 74 (upd (s60.2.2.1 74) ((s60.2.2.1 32 ((s60.2.2.1 9 (x1).toNatClampNeg)).toNatClampNeg)).toNatClampNeg (s60.2.2.1 45 (r62).toNatClampNeg))) fun s67 =>
    zgd (zin (s60.2.2.1 32 ((s60.2.2.1 9 (x1).toNatClampNeg)).toNatClampNeg) 700) (
    zci (call 73 [.ref h0, .int x2, .int (s60.2.2.1 32 ((s60.2.2.1 9 (x1).toNatClampNeg)).toNatClampNeg), .int (s67.2.2.1 74 ((s60.2.2.1 32 ((s60.2.2.1 9 (x1).toNatClampNeg)).toNatClampNeg)).toNatClampNeg)] s67) fun r72 s70 =>
    zgd (zin x1 2100) (
    zci (call 83 [.ref h0, .int (s70.2.2.1 11 (x1).toNatClampNeg), .int r72, .int x3] s70) fun r76 s74 =>
    zgd (zin r62 40000) (
    zcv (call 78 [.ref h0, .int r76, .int (s74.2.2.1 46 (r62).toNatClampNeg), .int r72, .int x3] s74) fun s78 =>
    some (some (.int r62), s78))))))))))
  else
  if (σ.2.2.1 6 (x1).toNatClampNeg) = 4 then
    zcv (call 75 [.ref h0, .int x2] σ) fun s81 =>
    zgd (zin x1 2100) (
    zci (call 76 [.ref h0, .int (s81.2.2.1 39 (x1).toNatClampNeg), .int (-1), .int 0] s81) fun r86 s84 =>
    zgd (zin x1 2100) (
    zci (call 74 [.ref h0, .int x3, .int (s84.2.2.1 9 (x1).toNatClampNeg), .int 1] s84) fun r90 s88 =>
    zgd (zin x1 2100) (
    zci (call 83 [.ref h0, .int (s88.2.2.1 11 (x1).toNatClampNeg), .int x2, .int r90] s88) fun r94 s92 =>
    zcv (call 78 [.ref h0, .int r94, .int r86, .int x2, .int r90] s92) fun s95 =>
    zgd (zin x1 2100) (
    zci (call 74 [.ref h0, .int x3, .int (s95.2.2.1 9 (x1).toNatClampNeg), .int 0] s95) fun r100 s98 =>
    zgd (zin x1 2100) (
    zci (call 83 [.ref h0, .int (s98.2.2.1 12 (x1).toNatClampNeg), .int x2, .int r100] s98) fun r104 s102 =>
    zcv (call 78 [.ref h0, .int r104, .int r86, .int x2, .int r100] s102) fun s105 =>
    some (some (.int r86), s105))))))
  else
  if (σ.2.2.1 6 (x1).toNatClampNeg) = 5 then
    zgd (zin x1 2100) (
    zgd (zin x1 2100) (
    zcv (call 79 [.ref h0, .int 0, .int (σ.2.2.1 9 (x1).toNatClampNeg), .int (-1), .int x2, .int x3, .int (σ.2.2.1 7 (x1).toNatClampNeg)] σ) fun s110 =>
    zgd (zin x1 2100) (
    zgd (zin x1 2100) (
    zci (call 74 [.ref h0, .int x3, .int (s110.2.2.1 9 (x1).toNatClampNeg), .int 1] s110) fun r116 s114 =>
    zci (call 83 [.ref h0, .int (s110.2.2.1 11 (x1).toNatClampNeg), .int x2, .int r116] s114) fun r119 s117 =>
    some (some (.int r119), s117)))))
  else
  if (σ.2.2.1 6 (x1).toNatClampNeg) = 6 then
    zgd (zin x1 2100) (
    zgd (zin x1 2100) (
    zcv (call 79 [.ref h0, .int 2, .int (σ.2.2.1 10 (x1).toNatClampNeg), .int (-1), .int x2, .int x3, .int (σ.2.2.1 8 (x1).toNatClampNeg)] σ) fun s123 =>
    zgd (zin x1 2100) (
    zgd (zin x1 2100) (
    zgd (zin (s123.2.2.1 9 (x1).toNatClampNeg) 2010) (
    zgd (zin x1 2100) (
    zcv (call 79 [.ref h0, .int 3, .int (s123.2.2.1 10 (x1).toNatClampNeg), .int (s123.2.2.1 32 ((s123.2.2.1 9 (x1).toNatClampNeg)).toNatClampNeg), .int x2, .int x3, .int (s123.2.2.1 8 (x1).toNatClampNeg)] s123) fun s129 =>
    zgd (zin x1 2100) (
    zci (call 83 [.ref h0, .int (s129.2.2.1 12 (x1).toNatClampNeg), .int x2, .int x3] s129) fun r134 s132 =>
    some (some (.int r134), s132))))))))
  else
  if (σ.2.2.1 6 (x1).toNatClampNeg) = 7 then
    zgd (zin x1 2100) (
    zgd (zin x1 2100) (
    zcv (call 79 [.ref h0, .int 2, .int (σ.2.2.1 10 (x1).toNatClampNeg), .int (-1), .int x2, .int x3, .int (σ.2.2.1 7 (x1).toNatClampNeg)] σ) fun s138 =>
    zgd (zin x1 2100) (
    zci (call 70 [.ref h0, .int (s138.2.2.1 10 (x1).toNatClampNeg)] s138) fun r143 s141 =>
    zci (call 68 [.ref h0, .int (-1), .int r143, .int (-1)] s141) fun r146 s144 =>
    zci (call 67 [.ref h0, .int 3, .int r146, .int (-1), .int (-1), .int (-1)] s144) fun r149 s147 =>
    some (some (.int r149), s147))))
  else
  if (σ.2.2.1 6 (x1).toNatClampNeg) = 8 then
    zci (call 72 [.ref h0, .int 2] σ) fun r153 s151 =>
    some (some (.int r153), s151)
  else
  if (σ.2.2.1 6 (x1).toNatClampNeg) = 9 then
    zci (call 72 [.ref h0, .int 2] σ) fun r157 s155 =>
    some (some (.int r157), s155)
  else
  if (σ.2.2.1 6 (x1).toNatClampNeg) = 10 then
    zgd (zin x1 2100) (
    zci (call 48 [.ref h0, .int (σ.2.2.1 10 (x1).toNatClampNeg)] σ) fun r162 s160 =>
    if r162 = 0 then
      zgd (zin x1 2100) (
      zci (call 70 [.ref h0, .int (s160.2.2.1 10 (x1).toNatClampNeg)] s160) fun r167 s165 =>
      zci (call 68 [.ref h0, .int (-1), .int r167, .int (-1)] s165) fun r170 s168 =>
      zci (call 67 [.ref h0, .int 1, .int r170, .int (-1), .int (-1), .int (-1)] s168) fun r173 s171 =>
      some (some (.int r173), s171))
    else
      zgd (zin x1 2100) (
      zgd (zin (s160.2.2.1 10 (x1).toNatClampNeg) 2100) (
      zgd (zin (s160.2.2.1 13 ((s160.2.2.1 10 (x1).toNatClampNeg)).toNatClampNeg) 2100) (
      zgd (zin (s160.2.2.1 18 ((s160.2.2.1 13 ((s160.2.2.1 10 (x1).toNatClampNeg)).toNatClampNeg)).toNatClampNeg) 2010) (
      zci (call 80 [.ref h0, .int (s160.2.2.1 32 ((s160.2.2.1 18 ((s160.2.2.1 13 ((s160.2.2.1 10 (x1).toNatClampNeg)).toNatClampNeg)).toNatClampNeg)).toNatClampNeg)] s160) fun r180 s178 =>
      some (some (.int r180), s178))))))
  else
  if (σ.2.2.1 6 (x1).toNatClampNeg) = 11 then
    zci (call 81 [.ref h0, .int x1, .int x2, .int x3] σ) fun r184 s182 =>
    some (some (.int r184), s182)
  else
  if (σ.2.2.1 6 (x1).toNatClampNeg) = 12 then
    zci (call 81 [.ref h0, .int x1, .int x2, .int x3] σ) fun r188 s186 =>
    some (some (.int r188), s186)
  else
  if (σ.2.2.1 6 (x1).toNatClampNeg) = 13 then
    zci (call 81 [.ref h0, .int x1, .int x2, .int x3] σ) fun r192 s190 =>
    some (some (.int r192), s190)
  else
  if (σ.2.2.1 6 (x1).toNatClampNeg) = 14 then
    zgd (zin x1 2100) (
    zgd (zin x1 2100) (
    zcv (call 79 [.ref h0, .int 2, .int (σ.2.2.1 10 (x1).toNatClampNeg), .int (-1), .int x2, .int x3, .int (σ.2.2.1 8 (x1).toNatClampNeg)] σ) fun s196 =>
    zgd (zin x1 2100) (
    zgd (zin x1 2100) (
    zgd (zin (s196.2.2.1 9 (x1).toNatClampNeg) 2010) (
    zgd (zin x1 2100) (
    zcv (call 79 [.ref h0, .int 3, .int (s196.2.2.1 10 (x1).toNatClampNeg), .int (s196.2.2.1 32 ((s196.2.2.1 9 (x1).toNatClampNeg)).toNatClampNeg), .int x2, .int x3, .int (s196.2.2.1 8 (x1).toNatClampNeg)] s196) fun s202 =>
    zci (call 72 [.ref h0, .int 1] s202) fun r206 s204 =>
    some (some (.int r206), s204)))))))
  else
  if (σ.2.2.1 6 (x1).toNatClampNeg) = 15 then
    zci (call 82 [.ref h0, .int x1, .int x2, .int x3] σ) fun r210 s208 =>
    some (some (.int r210), s208)
  else
  if (σ.2.2.1 6 (x1).toNatClampNeg) = 16 then
    zgd (zin x1 2100) (
    zci (call 83 [.ref h0, .int (σ.2.2.1 11 (x1).toNatClampNeg), .int x2, .int x3] σ) fun r215 s213 =>
    some (some (.int r215), s213))
  else
  if (σ.2.2.1 6 (x1).toNatClampNeg) = 17 then
    zci (call 69 [.ref h0, .int 0, .int (-1), .int 0, .long 0, .int (-1)] σ) fun r219 s217 =>
    zci (call 68 [.ref h0, .int (-1), .int r219, .int (-1)] s217) fun r222 s220 =>
    zci (call 67 [.ref h0, .int 5, .int r222, .int (-1), .int (-1), .int (-1)] s220) fun r225 s223 =>
    some (some (.int r225), s223)
  else
  if (σ.2.2.1 6 (x1).toNatClampNeg) = 18 then
    zgd (zin x1 2100) (
    zgd (zin (σ.2.2.1 9 (x1).toNatClampNeg) 2010) (
    zci (call 69 [.ref h0, .int 0, .int (σ.2.2.1 32 ((σ.2.2.1 9 (x1).toNatClampNeg)).toNatClampNeg), .int 1, .long 1, .int (-1)] σ) fun r231 s229 =>
    zci (call 68 [.ref h0, .int (-1), .int r231, .int (-1)] s229) fun r234 s232 =>
    zci (call 67 [.ref h0, .int 5, .int r234, .int (-1), .int (-1), .int (-1)] s232) fun r237 s235 =>
    some (some (.int r237), s235)))
  else
  if (σ.2.2.1 6 (x1).toNatClampNeg) = 19 then
    zcv (call 75 [.ref h0, .int x2] σ) fun s239 =>
    zgd (zin x1 2100) (
    zci (call 76 [.ref h0, .int (s239.2.2.1 39 (x1).toNatClampNeg), .int (-1), .int 0] s239) fun r244 s242 =>
    zgd (zin x1 2100) (
    zgd (zin (s242.2.2.1 9 (x1).toNatClampNeg) 2010) (
    zci (call 74 [.ref h0, .int x3, .int ((-2) - (s242.2.2.1 32 ((s242.2.2.1 9 (x1).toNatClampNeg)).toNatClampNeg)), .int 1] s242) fun r249 s247 =>
    zgd (zin x1 2100) (
    zci (call 83 [.ref h0, .int (s247.2.2.1 11 (x1).toNatClampNeg), .int x2, .int r249] s247) fun r253 s251 =>
    zcv (call 78 [.ref h0, .int r253, .int r244, .int x2, .int r249] s251) fun s254 =>
    zci (call 74 [.ref h0, .int x3, .int ((-2) - (s242.2.2.1 32 ((s242.2.2.1 9 (x1).toNatClampNeg)).toNatClampNeg)), .int 0] s254) fun r258 s256 =>
    zgd (zin x1 2100) (
    zgd (zin (s256.2.2.1 10 (x1).toNatClampNeg) 2010) (
    zci (call 72 [.ref h0, .int 1] s256) fun r263 s261 =>
    zgd (zin (s256.2.2.1 32 ((s256.2.2.1 10 (x1).toNatClampNeg)).toNatClampNeg) 700) (zlet (zA s261 74 (upd (s261.2.2.1 74) ((s256.2.2.1 32 ((s256.2.2.1 10 (x1).toNatClampNeg)).toNatClampNeg)).toNatClampNeg r263)) fun s265 =>
    zgd (zin (s256.2.2.1 32 ((s256.2.2.1 10 (x1).toNatClampNeg)).toNatClampNeg) 700) (
    zci (call 73 [.ref h0, .int x2, .int (s256.2.2.1 32 ((s256.2.2.1 10 (x1).toNatClampNeg)).toNatClampNeg), .int (s265.2.2.1 74 ((s256.2.2.1 32 ((s256.2.2.1 10 (x1).toNatClampNeg)).toNatClampNeg)).toNatClampNeg)] s265) fun r270 s268 =>
    zgd (zin x1 2100) (
    zgd (zin ((s268.2.2.1 10 (x1).toNatClampNeg) + 1) 2010) (
    zci (call 69 [.ref h0, .int 0, .int (s242.2.2.1 32 ((s242.2.2.1 9 (x1).toNatClampNeg)).toNatClampNeg), .int 1, .long (-1), .int (-1)] s268) fun r275 s273 =>
    zci (call 68 [.ref h0, .int (-1), .int r275, .int (-1)] s273) fun r278 s276 =>
    zci (call 67 [.ref h0, .int 5, .int r278, .int (-1), .int (-1), .int (-1)] s276) fun r281 s279 =>
    zgd (zin (s268.2.2.1 32 (((s268.2.2.1 10 (x1).toNatClampNeg) + 1)).toNatClampNeg) 700) (zlet (zA s279 74 (upd (s279.2.2.1 74) ((s268.2.2.1 32 (((s268.2.2.1 10 (x1).toNatClampNeg) + 1)).toNatClampNeg)).toNatClampNeg r281)) fun s283 =>
    zgd (zin (s268.2.2.1 32 (((s268.2.2.1 10 (x1).toNatClampNeg) + 1)).toNatClampNeg) 700) (
    zci (call 73 [.ref h0, .int r270, .int (s268.2.2.1 32 (((s268.2.2.1 10 (x1).toNatClampNeg) + 1)).toNatClampNeg), .int (s283.2.2.1 74 ((s268.2.2.1 32 (((s268.2.2.1 10 (x1).toNatClampNeg) + 1)).toNatClampNeg)).toNatClampNeg)] s283) fun r288 s286 =>
    zgd (zin x1 2100) (
    zci (call 83 [.ref h0, .int (s286.2.2.1 12 (x1).toNatClampNeg), .int r288, .int r258] s286) fun r292 s290 =>
    zcv (call 78 [.ref h0, .int r292, .int r244, .int r288, .int r258] s290) fun s293 =>
    some (some (.int r244), s293))))))))))))))
  else
  zgd (zin x1 2100) (
  zci (call 83 [.ref h0, .int (σ.2.2.1 11 (x1).toNatClampNeg), .int x2, .int x3] σ) fun r298 s296 =>
  some (some (.int r298), s296)))
set_option maxHeartbeats 4000000 in
theorem pl_richOf_290 {h0 : Nat} {qs : List Nat} {ks : Nat → Nat} {n : Nat} {call : zCl} {kc : Nat → List Value → zSt → (Option Value → zSt → Prop) → Prop} {v : Option Value × zSt} {X : Nat → zLv → List Value → zSt → Prop} (hX : zSem cX13_richOf 12 (some .int) h0 qs ks kc (fun r u => (r, u) = v) X) (hc : ∀ j av s w, call j av s = some w → kc j av s (fun r u => (r, u) = w)) : ∀ (f : Nat) (x1 : Int32) (x3 : Int32) (x4 : Int32) (x6 : Int32) (x7 : Int32) (x8 : Int32) (x9 : Int32) (x10 : Int32) (σ : zSt), l_richOf_290 n call h0 qs ks f x1 x3 x4 x6 x7 x8 x9 x10 σ = some v → X 290 [some (.ref h0), some (.int x1), none, some (.int x3), some (.int x4), none, some (.int x6), some (.int x7), some (.int x8), some (.int x9), some (.int x10), none] [] σ := by
  intro f
  induction f with
  | zero => intro x1 x3 x4 x6 x7 x8 x9 x10 σ h; cases h
  | succ f hk290 =>
    intro x1 x3 x4 x6 x7 x8 x9 x10 σ h
    rw [l_richOf_290] at h
    refine zs_iload hX dX13_richOf_290 rfl ?_
    refine zs_iload hX dX13_richOf_292 rfl ?_
    refine zs_icmp_ge (tgt := 359) hX dX13_richOf_294 (by decide) (fun c1 => ?_) (fun c1 => ?_)
    · rw [if_pos c1] at h
      refine zs_aload_n hX dX13_richOf_359 rfl rfl ?_
      refine zs_aload_n hX dX13_richOf_360 rfl rfl ?_
      refine zs_aload_n hX dX13_richOf_361 rfl rfl ?_
      refine zg_x3 hX dX13_richOf_362 ?_
      refine zs_iload_n hX dX13_richOf_365 rfl rfl ?_
      obtain ⟨b2, h⟩ := zgd_e h
      refine zl_x3 hX dX13_richOf_366 (zin_ok b2) ?_
      refine zs_iload hX dX13_richOf_367 rfl ?_
      refine zs_iload_n hX dX13_richOf_369 rfl rfl ?_
      obtain ⟨r5, s3, e4, h⟩ := zci_e h
      refine zc_richOf hX dX13_richOf_370 (Nat.le_of_ble_eq_true rfl) (hc _ _ _ _ e4) (fun r9 u9 h9 => ?_)
      cases h9
      refine zs_iload hX dX13_richOf_373 rfl ?_
      refine zs_iload hX dX13_richOf_375 rfl ?_
      refine zs_iload_n hX dX13_richOf_377 rfl rfl ?_
      obtain ⟨s6, e7, h⟩ := zcv_e h
      refine zc_mustFit hX dX13_richOf_378 (Nat.le_of_ble_eq_true rfl) (hc _ _ _ _ e7) (fun u9 h9 => ?_)
      cases h9
      refine zs_aload_n hX dX13_richOf_381 rfl rfl ?_
      refine zs_aload_n hX dX13_richOf_382 rfl rfl ?_
      refine zs_aload_n hX dX13_richOf_383 rfl rfl ?_
      refine zg_x4 hX dX13_richOf_384 ?_
      refine zs_iload_n hX dX13_richOf_387 rfl rfl ?_
      obtain ⟨b8, h⟩ := zgd_e h
      refine zl_x4 hX dX13_richOf_388 (zin_ok b8) ?_
      refine zs_iload hX dX13_richOf_389 rfl ?_
      refine zs_iload_n hX dX13_richOf_391 rfl rfl ?_
      obtain ⟨r11, s9, e10, h⟩ := zci_e h
      refine zc_richOf hX dX13_richOf_392 (Nat.le_of_ble_eq_true rfl) (hc _ _ _ _ e10) (fun r9 u9 h9 => ?_)
      cases h9
      refine zs_iload hX dX13_richOf_395 rfl ?_
      refine zs_iload hX dX13_richOf_397 rfl ?_
      refine zs_iload_n hX dX13_richOf_399 rfl rfl ?_
      obtain ⟨s12, e13, h⟩ := zcv_e h
      refine zc_mustFit hX dX13_richOf_400 (Nat.le_of_ble_eq_true rfl) (hc _ _ _ _ e13) (fun u9 h9 => ?_)
      cases h9
      refine zs_iload hX dX13_richOf_403 rfl ?_
      exact zs_iret hX dX13_richOf_405 rfl (Option.some.inj h)
    · rw [if_neg c1] at h
      refine zs_aload_n hX dX13_richOf_297 rfl rfl ?_
      refine zg_whose hX dX13_richOf_298 ?_
      refine zs_aload_n hX dX13_richOf_301 rfl rfl ?_
      refine zg_x2 hX dX13_richOf_302 ?_
      refine zs_iload_n hX dX13_richOf_305 rfl rfl ?_
      obtain ⟨b14, h⟩ := zgd_e h
      refine zl_x2 hX dX13_richOf_306 (zin_ok b14) ?_
      refine zs_iload hX dX13_richOf_307 rfl ?_
      refine zs_iadd hX dX13_richOf_309 ?_
      obtain ⟨b15, h⟩ := zgd_e h
      refine zl_whose hX dX13_richOf_310 (zin_ok b15) ?_
      refine zs_istore hX dX13_richOf_311 (by decide) rfl ?_
      dsimp only [List.set]
      refine zs_aload_n hX dX13_richOf_313 rfl rfl ?_
      refine zg_dRich hX dX13_richOf_314 ?_
      refine zs_iload hX dX13_richOf_317 rfl ?_
      refine zs_aload_n hX dX13_richOf_319 rfl rfl ?_
      refine zg_rLeft hX dX13_richOf_320 ?_
      refine zs_iload hX dX13_richOf_323 rfl ?_
      obtain ⟨b16, h⟩ := zgd_e h
      refine zl_rLeft hX dX13_richOf_325 (zin_ok b16) ?_
      obtain ⟨b17, h⟩ := zgd_e h
      obtain ⟨s18, e19, h⟩ := zlet_e h
      refine zt_dRich hX dX13_richOf_326 (zin_ok b17) ?_
      rw [← e19]
      refine zs_aload_n hX dX13_richOf_327 rfl rfl ?_
      refine zs_iload hX dX13_richOf_328 rfl ?_
      refine zs_iload hX dX13_richOf_330 rfl ?_
      refine zs_aload_n hX dX13_richOf_332 rfl rfl ?_
      refine zg_dRich hX dX13_richOf_333 ?_
      refine zs_iload hX dX13_richOf_336 rfl ?_
      obtain ⟨b20, h⟩ := zgd_e h
      refine zl_dRich hX dX13_richOf_338 (zin_ok b20) ?_
      obtain ⟨r23, s21, e22, h⟩ := zci_e h
      refine zc_knows hX dX13_richOf_339 (Nat.le_of_ble_eq_true rfl) (hc _ _ _ _ e22) (fun r9 u9 h9 => ?_)
      cases h9
      refine zs_istore hX dX13_richOf_342 (by decide) rfl ?_
      dsimp only [List.set]
      refine zs_aload_n hX dX13_richOf_344 rfl rfl ?_
      refine zg_rRight hX dX13_richOf_345 ?_
      refine zs_iload hX dX13_richOf_348 rfl ?_
      obtain ⟨b24, h⟩ := zgd_e h
      refine zl_rRight hX dX13_richOf_350 (zin_ok b24) ?_
      refine zs_istore hX dX13_richOf_351 (by decide) rfl ?_
      dsimp only [List.set]
      refine zs_iinc (v := x10 + 1) hX dX13_richOf_353 rfl rfl (by decide) rfl ?_
      dsimp only [List.set]
      refine zs_goto (tgt := 290) hX dX13_richOf_356 (by decide) ?_
      refine zs_weak hX (lw := [some (.ref h0), some (.int x1), none, some (.int x3), some (.int x4), none, some (.int x6), some (.int x7), some (.int r23), some (.int (s21.2.2.1 46 (x9).toNatClampNeg)), some (.int (x10 + 1)), none]) ⟨rfl, rfl, rfl, rfl, rfl, rfl, rfl, rfl, rfl, trivial⟩ ?_
      exact hk290 _ _ _ _ _ _ _ _ _ h
set_option maxHeartbeats 4000000 in
theorem pb_richOf {h0 : Nat} {qs : List Nat} {ks : Nat → Nat} {n : Nat} {call : zCl} {kc : Nat → List Value → zSt → (Option Value → zSt → Prop) → Prop} {v : Option Value × zSt} {X : Nat → zLv → List Value → zSt → Prop} (hX : zSem cX13_richOf 12 (some .int) h0 qs ks kc (fun r u => (r, u) = v) X) (hc : ∀ j av s w, call j av s = some w → kc j av s (fun r u => (r, u) = w)) {x1 : Int32} {x2 : Int32} {x3 : Int32} {σ : zSt} (h : b_richOf n call h0 qs ks x1 x2 x3 σ = some v) : X 0 [some (.ref h0), some (.int x1), some (.int x2), some (.int x3), none, none, none, none, none, none, none, none] [] σ := by
  rw [b_richOf] at h
  refine zs_aload_n hX dX13_richOf_0 rfl rfl ?_
  refine zg_kind hX dX13_richOf_1 ?_
  refine zs_iload_n hX dX13_richOf_4 rfl rfl ?_
  obtain ⟨b1, h⟩ := zgd_e h
  refine zl_kind hX dX13_richOf_5 (zin_ok b1) ?_
  by_cases c2 : (σ.2.2.1 6 (x1).toNatClampNeg) = 1
  · rw [if_pos c2] at h
    refine zs_tableIn (tgt := 96) (off := 90) hX dX13_richOf_6 (by rw [c2]; decide) (by rw [c2]; decide) (by rw [c2]; rfl) (by decide) ?_
    refine zs_aload_n hX dX13_richOf_96 rfl rfl ?_
    refine zs_iload_n hX dX13_richOf_97 rfl rfl ?_
    obtain ⟨s3, e4, h⟩ := zcv_e h
    refine zc_namesAt hX dX13_richOf_98 (Nat.le_of_ble_eq_true rfl) (hc _ _ _ _ e4) (fun u9 h9 => ?_)
    cases h9
    refine zs_aload_n hX dX13_richOf_101 rfl rfl ?_
    refine zs_aload_n hX dX13_richOf_102 rfl rfl ?_
    refine zg_nodeType hX dX13_richOf_103 ?_
    refine zs_iload_n hX dX13_richOf_106 rfl rfl ?_
    obtain ⟨b5, h⟩ := zgd_e h
    refine zl_nodeType hX dX13_richOf_107 (zin_ok b5) ?_
    refine zs_iconst (v := (-1)) hX dX13_richOf_108 (by decide) ?_
    refine zs_iconst (v := 0) hX dX13_richOf_109 (by decide) ?_
    obtain ⟨r8, s6, e7, h⟩ := zci_e h
    refine zc_template hX dX13_richOf_110 (Nat.le_of_ble_eq_true rfl) (hc _ _ _ _ e7) (fun r9 u9 h9 => ?_)
    cases h9
    refine zs_istore hX dX13_richOf_113 (by decide) rfl ?_
    dsimp only [List.set]
    refine zs_aload_n hX dX13_richOf_115 rfl rfl ?_
    refine zg_whose hX dX13_richOf_116 ?_
    refine zs_aload_n hX dX13_richOf_119 rfl rfl ?_
    refine zg_x1 hX dX13_richOf_120 ?_
    refine zs_iload_n hX dX13_richOf_123 rfl rfl ?_
    obtain ⟨b9, h⟩ := zgd_e h
    refine zl_x1 hX dX13_richOf_124 (zin_ok b9) ?_
    obtain ⟨b10, h⟩ := zgd_e h
    refine zl_whose hX dX13_richOf_125 (zin_ok b10) ?_
    refine zs_istore hX dX13_richOf_126 (by decide) rfl ?_
    dsimp only [List.set]
    refine zs_aload_n hX dX13_richOf_128 rfl rfl ?_
    refine zg_dRich hX dX13_richOf_129 ?_
    refine zs_iload hX dX13_richOf_132 rfl ?_
    refine zs_aload_n hX dX13_richOf_134 rfl rfl ?_
    refine zs_aload_n hX dX13_richOf_135 rfl rfl ?_
    refine zg_x3 hX dX13_richOf_136 ?_
    refine zs_iload_n hX dX13_richOf_139 rfl rfl ?_
    obtain ⟨b11, h⟩ := zgd_e h
    refine zl_x3 hX dX13_richOf_140 (zin_ok b11) ?_
    refine zs_iload_n hX dX13_richOf_141 rfl rfl ?_
    refine zs_iload_n hX dX13_richOf_142 rfl rfl ?_
    obtain ⟨r14, s12, e13, h⟩ := zci_e h
    refine zc_richOf hX dX13_richOf_143 (Nat.le_of_ble_eq_true rfl) (hc _ _ _ _ e13) (fun r9 u9 h9 => ?_)
    cases h9
    obtain ⟨b15, h⟩ := zgd_e h
    obtain ⟨s16, e17, h⟩ := zlet_e h
    refine zt_dRich hX dX13_richOf_146 (zin_ok b15) ?_
    rw [← e17]
    refine zs_aload_n hX dX13_richOf_147 rfl rfl ?_
    refine zs_iload_n hX dX13_richOf_148 rfl rfl ?_
    refine zs_iload hX dX13_richOf_149 rfl ?_
    refine zs_aload_n hX dX13_richOf_151 rfl rfl ?_
    refine zg_dRich hX dX13_richOf_152 ?_
    refine zs_iload hX dX13_richOf_155 rfl ?_
    obtain ⟨b18, h⟩ := zgd_e h
    refine zl_dRich hX dX13_richOf_157 (zin_ok b18) ?_
    obtain ⟨r21, s19, e20, h⟩ := zci_e h
    refine zc_knows hX dX13_richOf_158 (Nat.le_of_ble_eq_true rfl) (hc _ _ _ _ e20) (fun r9 u9 h9 => ?_)
    cases h9
    refine zs_istore hX dX13_richOf_161 (by decide) rfl ?_
    dsimp only [List.set]
    refine zs_aload_n hX dX13_richOf_163 rfl rfl ?_
    refine zs_aload_n hX dX13_richOf_164 rfl rfl ?_
    refine zs_aload_n hX dX13_richOf_165 rfl rfl ?_
    refine zg_x4 hX dX13_richOf_166 ?_
    refine zs_iload_n hX dX13_richOf_169 rfl rfl ?_
    obtain ⟨b22, h⟩ := zgd_e h
    refine zl_x4 hX dX13_richOf_170 (zin_ok b22) ?_
    refine zs_iload hX dX13_richOf_171 rfl ?_
    refine zs_iload_n hX dX13_richOf_173 rfl rfl ?_
    obtain ⟨r25, s23, e24, h⟩ := zci_e h
    refine zc_richOf hX dX13_richOf_174 (Nat.le_of_ble_eq_true rfl) (hc _ _ _ _ e24) (fun r9 u9 h9 => ?_)
    cases h9
    refine zs_iload hX dX13_richOf_177 rfl ?_
    refine zs_iload hX dX13_richOf_179 rfl ?_
    refine zs_iload_n hX dX13_richOf_181 rfl rfl ?_
    obtain ⟨s26, e27, h⟩ := zcv_e h
    refine zc_mustFit hX dX13_richOf_182 (Nat.le_of_ble_eq_true rfl) (hc _ _ _ _ e27) (fun u9 h9 => ?_)
    cases h9
    refine zs_iload hX dX13_richOf_185 rfl ?_
    exact zs_iret hX dX13_richOf_187 rfl (Option.some.inj h)
  rw [if_neg c2] at h
  by_cases c28 : (σ.2.2.1 6 (x1).toNatClampNeg) = 2
  · rw [if_pos c28] at h
    refine zs_tableIn (tgt := 188) (off := 182) hX dX13_richOf_6 (by rw [c28]; decide) (by rw [c28]; decide) (by rw [c28]; rfl) (by decide) ?_
    refine zs_aload_n hX dX13_richOf_188 rfl rfl ?_
    refine zs_iload_n hX dX13_richOf_189 rfl rfl ?_
    obtain ⟨s29, e30, h⟩ := zcv_e h
    refine zc_namesAt hX dX13_richOf_190 (Nat.le_of_ble_eq_true rfl) (hc _ _ _ _ e30) (fun u9 h9 => ?_)
    cases h9
    refine zs_aload_n hX dX13_richOf_193 rfl rfl ?_
    refine zs_aload_n hX dX13_richOf_194 rfl rfl ?_
    refine zg_nodeType hX dX13_richOf_195 ?_
    refine zs_iload_n hX dX13_richOf_198 rfl rfl ?_
    obtain ⟨b31, h⟩ := zgd_e h
    refine zl_nodeType hX dX13_richOf_199 (zin_ok b31) ?_
    refine zs_iconst (v := (-1)) hX dX13_richOf_200 (by decide) ?_
    refine zs_iconst (v := 0) hX dX13_richOf_201 (by decide) ?_
    obtain ⟨r34, s32, e33, h⟩ := zci_e h
    refine zc_template hX dX13_richOf_202 (Nat.le_of_ble_eq_true rfl) (hc _ _ _ _ e33) (fun r9 u9 h9 => ?_)
    cases h9
    refine zs_istore hX dX13_richOf_205 (by decide) rfl ?_
    dsimp only [List.set]
    refine zs_aload_n hX dX13_richOf_207 rfl rfl ?_
    refine zg_whose hX dX13_richOf_208 ?_
    refine zs_aload_n hX dX13_richOf_211 rfl rfl ?_
    refine zg_x1 hX dX13_richOf_212 ?_
    refine zs_iload_n hX dX13_richOf_215 rfl rfl ?_
    obtain ⟨b35, h⟩ := zgd_e h
    refine zl_x1 hX dX13_richOf_216 (zin_ok b35) ?_
    obtain ⟨b36, h⟩ := zgd_e h
    refine zl_whose hX dX13_richOf_217 (zin_ok b36) ?_
    refine zs_istore hX dX13_richOf_218 (by decide) rfl ?_
    dsimp only [List.set]
    refine zs_aload_n hX dX13_richOf_220 rfl rfl ?_
    refine zs_iload_n hX dX13_richOf_221 rfl rfl ?_
    obtain ⟨r39, s37, e38, h⟩ := zci_e h
    refine zc_parameters hX dX13_richOf_222 (Nat.le_of_ble_eq_true rfl) (hc _ _ _ _ e38) (fun r9 u9 h9 => ?_)
    cases h9
    refine zs_istore hX dX13_richOf_225 (by decide) rfl ?_
    dsimp only [List.set]
    refine zs_aload_n hX dX13_richOf_227 rfl rfl ?_
    refine zs_iload_n hX dX13_richOf_228 rfl rfl ?_
    obtain ⟨s40, e41, h⟩ := zcv_e h
    refine zc_namesAt hX dX13_richOf_229 (Nat.le_of_ble_eq_true rfl) (hc _ _ _ _ e41) (fun u9 h9 => ?_)
    cases h9
    refine zs_aload_n hX dX13_richOf_232 rfl rfl ?_
    refine zg_dRich hX dX13_richOf_233 ?_
    refine zs_iload hX dX13_richOf_236 rfl ?_
    refine zs_aload_n hX dX13_richOf_238 rfl rfl ?_
    refine zs_aload_n hX dX13_richOf_239 rfl rfl ?_
    refine zg_dType hX dX13_richOf_240 ?_
    refine zs_iload hX dX13_richOf_243 rfl ?_
    obtain ⟨b42, h⟩ := zgd_e h
    refine zl_dType hX dX13_richOf_245 (zin_ok b42) ?_
    refine zs_aload_n hX dX13_richOf_246 rfl rfl ?_
    refine zg_x2 hX dX13_richOf_247 ?_
    refine zs_iload_n hX dX13_richOf_250 rfl rfl ?_
    obtain ⟨b43, h⟩ := zgd_e h
    refine zl_x2 hX dX13_richOf_251 (zin_ok b43) ?_
    refine zs_iload hX dX13_richOf_252 rfl ?_
    obtain ⟨r46, s44, e45, h⟩ := zci_e h
    refine zc_template hX dX13_richOf_254 (Nat.le_of_ble_eq_true rfl) (hc _ _ _ _ e45) (fun r9 u9 h9 => ?_)
    cases h9
    obtain ⟨b47, h⟩ := zgd_e h
    obtain ⟨s48, e49, h⟩ := zlet_e h
    refine zt_dRich hX dX13_richOf_257 (zin_ok b47) ?_
    rw [← e49]
    refine zs_aload_n hX dX13_richOf_258 rfl rfl ?_
    refine zs_iload_n hX dX13_richOf_259 rfl rfl ?_
    refine zs_iload hX dX13_richOf_260 rfl ?_
    refine zs_aload_n hX dX13_richOf_262 rfl rfl ?_
    refine zg_dRich hX dX13_richOf_263 ?_
    refine zs_iload hX dX13_richOf_266 rfl ?_
    obtain ⟨b50, h⟩ := zgd_e h
    refine zl_dRich hX dX13_richOf_268 (zin_ok b50) ?_
    obtain ⟨r53, s51, e52, h⟩ := zci_e h
    refine zc_knows hX dX13_richOf_269 (Nat.le_of_ble_eq_true rfl) (hc _ _ _ _ e52) (fun r9 u9 h9 => ?_)
    cases h9
    refine zs_istore hX dX13_richOf_272 (by decide) rfl ?_
    dsimp only [List.set]
    refine zs_iload hX dX13_richOf_274 rfl ?_
    refine zs_istore hX dX13_richOf_276 (by decide) rfl ?_
    dsimp only [List.set]
    refine zs_aload_n hX dX13_richOf_278 rfl rfl ?_
    refine zg_dRich hX dX13_richOf_279 ?_
    refine zs_iload hX dX13_richOf_282 rfl ?_
    obtain ⟨b54, h⟩ := zgd_e h
    refine zl_dRich hX dX13_richOf_284 (zin_ok b54) ?_
    refine zs_istore hX dX13_richOf_285 (by decide) rfl ?_
    dsimp only [List.set]
    refine zs_iconst (v := 0) hX dX13_richOf_287 (by decide) ?_
    refine zs_istore hX dX13_richOf_288 (by decide) rfl ?_
    dsimp only [List.set]
    refine zs_weak hX (lw := [some (.ref h0), some (.int x1), none, some (.int x3), some (.int r34), none, some (.int r39), some (.int r53), some (.int r53), some (.int (s51.2.2.1 74 ((s32.2.2.1 32 ((s32.2.2.1 9 (x1).toNatClampNeg)).toNatClampNeg)).toNatClampNeg)), some (.int 0), none]) ⟨rfl, rfl, rfl, rfl, rfl, rfl, rfl, rfl, rfl, trivial⟩ ?_
    exact pl_richOf_290 hX hc n _ _ _ _ _ _ _ _ _ h
  rw [if_neg c28] at h
  by_cases c55 : (σ.2.2.1 6 (x1).toNatClampNeg) = 3
  · rw [if_pos c55] at h
    refine zs_tableIn (tgt := 406) (off := 400) hX dX13_richOf_6 (by rw [c55]; decide) (by rw [c55]; decide) (by rw [c55]; rfl) (by decide) ?_
    refine zs_aload_n hX dX13_richOf_406 rfl rfl ?_
    refine zs_iload_n hX dX13_richOf_407 rfl rfl ?_
    obtain ⟨s56, e57, h⟩ := zcv_e h
    refine zc_namesAt hX dX13_richOf_408 (Nat.le_of_ble_eq_true rfl) (hc _ _ _ _ e57) (fun u9 h9 => ?_)
    cases h9
    refine zs_aload_n hX dX13_richOf_411 rfl rfl ?_
    refine zs_aload_n hX dX13_richOf_412 rfl rfl ?_
    refine zg_nodeType hX dX13_richOf_413 ?_
    refine zs_iload_n hX dX13_richOf_416 rfl rfl ?_
    obtain ⟨b58, h⟩ := zgd_e h
    refine zl_nodeType hX dX13_richOf_417 (zin_ok b58) ?_
    refine zs_aload_n hX dX13_richOf_418 rfl rfl ?_
    refine zg_x1 hX dX13_richOf_419 ?_
    refine zs_iload_n hX dX13_richOf_422 rfl rfl ?_
    obtain ⟨b59, h⟩ := zgd_e h
    refine zl_x1 hX dX13_richOf_423 (zin_ok b59) ?_
    refine zs_iconst (v := 1) hX dX13_richOf_424 (by decide) ?_
    obtain ⟨r62, s60, e61, h⟩ := zci_e h
    refine zc_template hX dX13_richOf_425 (Nat.le_of_ble_eq_true rfl) (hc _ _ _ _ e61) (fun r9 u9 h9 => ?_)
    cases h9
    refine zs_istore hX dX13_richOf_428 (by decide) rfl ?_
    dsimp only [List.set]
    refine zs_aload_n hX dX13_richOf_430 rfl rfl ?_
    refine zg_whose hX dX13_richOf_431 ?_
    refine zs_aload_n hX dX13_richOf_434 rfl rfl ?_
    refine zg_x1 hX dX13_richOf_435 ?_
    refine zs_iload_n hX dX13_richOf_438 rfl rfl ?_
    obtain ⟨b63, h⟩ := zgd_e h
    refine zl_x1 hX dX13_richOf_439 (zin_ok b63) ?_
    obtain ⟨b64, h⟩ := zgd_e h
    refine zl_whose hX dX13_richOf_440 (zin_ok b64) ?_
    refine zs_istore hX dX13_richOf_441 (by decide) rfl ?_
    dsimp only [List.set]
    refine zs_aload_n hX dX13_richOf_443 rfl rfl ?_
    refine zg_dRich hX dX13_richOf_444 ?_
    refine zs_iload hX dX13_richOf_447 rfl ?_
    refine zs_aload_n hX dX13_richOf_449 rfl rfl ?_
    refine zg_rLeft hX dX13_richOf_450 ?_
    refine zs_iload hX dX13_richOf_453 rfl ?_
    obtain ⟨b65, h⟩ := zgd_e h
    refine zl_rLeft hX dX13_richOf_455 (zin_ok b65) ?_
    obtain ⟨b66, h⟩ := zgd_e h
    obtain ⟨s67, e68, h⟩ := zlet_e h
    refine zt_dRich hX dX13_richOf_456 (zin_ok b66) ?_
    rw [← e68]
    refine zs_aload_n hX dX13_richOf_457 rfl rfl ?_
    refine zs_iload_n hX dX13_richOf_458 rfl rfl ?_
    refine zs_iload hX dX13_richOf_459 rfl ?_
    refine zs_aload_n hX dX13_richOf_461 rfl rfl ?_
    refine zg_dRich hX dX13_richOf_462 ?_
    refine zs_iload hX dX13_richOf_465 rfl ?_
    obtain ⟨b69, h⟩ := zgd_e h
    refine zl_dRich hX dX13_richOf_467 (zin_ok b69) ?_
    obtain ⟨r72, s70, e71, h⟩ := zci_e h
    refine zc_knows hX dX13_richOf_468 (Nat.le_of_ble_eq_true rfl) (hc _ _ _ _ e71) (fun r9 u9 h9 => ?_)
    cases h9
    refine zs_istore hX dX13_richOf_471 (by decide) rfl ?_
    dsimp only [List.set]
    refine zs_aload_n hX dX13_richOf_473 rfl rfl ?_
    refine zs_aload_n hX dX13_richOf_474 rfl rfl ?_
    refine zs_aload_n hX dX13_richOf_475 rfl rfl ?_
    refine zg_x3 hX dX13_richOf_476 ?_
    refine zs_iload_n hX dX13_richOf_479 rfl rfl ?_
    obtain ⟨b73, h⟩ := zgd_e h
    refine zl_x3 hX dX13_richOf_480 (zin_ok b73) ?_
    refine zs_iload hX dX13_richOf_481 rfl ?_
    refine zs_iload_n hX dX13_richOf_483 rfl rfl ?_
    obtain ⟨r76, s74, e75, h⟩ := zci_e h
    refine zc_richOf hX dX13_richOf_484 (Nat.le_of_ble_eq_true rfl) (hc _ _ _ _ e75) (fun r9 u9 h9 => ?_)
    cases h9
    refine zs_aload_n hX dX13_richOf_487 rfl rfl ?_
    refine zg_rRight hX dX13_richOf_488 ?_
    refine zs_iload hX dX13_richOf_491 rfl ?_
    obtain ⟨b77, h⟩ := zgd_e h
    refine zl_rRight hX dX13_richOf_493 (zin_ok b77) ?_
    refine zs_iload hX dX13_richOf_494 rfl ?_
    refine zs_iload_n hX dX13_richOf_496 rfl rfl ?_
    obtain ⟨s78, e79, h⟩ := zcv_e h
    refine zc_mustFit hX dX13_richOf_497 (Nat.le_of_ble_eq_true rfl) (hc _ _ _ _ e79) (fun u9 h9 => ?_)
    cases h9
    refine zs_iload hX dX13_richOf_500 rfl ?_
    exact zs_iret hX dX13_richOf_502 rfl (Option.some.inj h)
  rw [if_neg c55] at h
  by_cases c80 : (σ.2.2.1 6 (x1).toNatClampNeg) = 4
  · rw [if_pos c80] at h
    refine zs_tableIn (tgt := 503) (off := 497) hX dX13_richOf_6 (by rw [c80]; decide) (by rw [c80]; decide) (by rw [c80]; rfl) (by decide) ?_
    refine zs_aload_n hX dX13_richOf_503 rfl rfl ?_
    refine zs_iload_n hX dX13_richOf_504 rfl rfl ?_
    obtain ⟨s81, e82, h⟩ := zcv_e h
    refine zc_namesAt hX dX13_richOf_505 (Nat.le_of_ble_eq_true rfl) (hc _ _ _ _ e82) (fun u9 h9 => ?_)
    cases h9
    refine zs_aload_n hX dX13_richOf_508 rfl rfl ?_
    refine zs_aload_n hX dX13_richOf_509 rfl rfl ?_
    refine zg_nodeType hX dX13_richOf_510 ?_
    refine zs_iload_n hX dX13_richOf_513 rfl rfl ?_
    obtain ⟨b83, h⟩ := zgd_e h
    refine zl_nodeType hX dX13_richOf_514 (zin_ok b83) ?_
    refine zs_iconst (v := (-1)) hX dX13_richOf_515 (by decide) ?_
    refine zs_iconst (v := 0) hX dX13_richOf_516 (by decide) ?_
    obtain ⟨r86, s84, e85, h⟩ := zci_e h
    refine zc_template hX dX13_richOf_517 (Nat.le_of_ble_eq_true rfl) (hc _ _ _ _ e85) (fun r9 u9 h9 => ?_)
    cases h9
    refine zs_istore hX dX13_richOf_520 (by decide) rfl ?_
    dsimp only [List.set]
    refine zs_aload_n hX dX13_richOf_522 rfl rfl ?_
    refine zs_iload_n hX dX13_richOf_523 rfl rfl ?_
    refine zs_aload_n hX dX13_richOf_524 rfl rfl ?_
    refine zg_x1 hX dX13_richOf_525 ?_
    refine zs_iload_n hX dX13_richOf_528 rfl rfl ?_
    obtain ⟨b87, h⟩ := zgd_e h
    refine zl_x1 hX dX13_richOf_529 (zin_ok b87) ?_
    refine zs_iconst (v := 1) hX dX13_richOf_530 (by decide) ?_
    obtain ⟨r90, s88, e89, h⟩ := zci_e h
    refine zc_gone hX dX13_richOf_531 (Nat.le_of_ble_eq_true rfl) (hc _ _ _ _ e89) (fun r9 u9 h9 => ?_)
    cases h9
    refine zs_istore hX dX13_richOf_534 (by decide) rfl ?_
    dsimp only [List.set]
    refine zs_aload_n hX dX13_richOf_536 rfl rfl ?_
    refine zs_aload_n hX dX13_richOf_537 rfl rfl ?_
    refine zs_aload_n hX dX13_richOf_538 rfl rfl ?_
    refine zg_x3 hX dX13_richOf_539 ?_
    refine zs_iload_n hX dX13_richOf_542 rfl rfl ?_
    obtain ⟨b91, h⟩ := zgd_e h
    refine zl_x3 hX dX13_richOf_543 (zin_ok b91) ?_
    refine zs_iload_n hX dX13_richOf_544 rfl rfl ?_
    refine zs_iload hX dX13_richOf_545 rfl ?_
    obtain ⟨r94, s92, e93, h⟩ := zci_e h
    refine zc_richOf hX dX13_richOf_547 (Nat.le_of_ble_eq_true rfl) (hc _ _ _ _ e93) (fun r9 u9 h9 => ?_)
    cases h9
    refine zs_iload hX dX13_richOf_550 rfl ?_
    refine zs_iload_n hX dX13_richOf_552 rfl rfl ?_
    refine zs_iload hX dX13_richOf_553 rfl ?_
    obtain ⟨s95, e96, h⟩ := zcv_e h
    refine zc_mustFit hX dX13_richOf_555 (Nat.le_of_ble_eq_true rfl) (hc _ _ _ _ e96) (fun u9 h9 => ?_)
    cases h9
    refine zs_aload_n hX dX13_richOf_558 rfl rfl ?_
    refine zs_iload_n hX dX13_richOf_559 rfl rfl ?_
    refine zs_aload_n hX dX13_richOf_560 rfl rfl ?_
    refine zg_x1 hX dX13_richOf_561 ?_
    refine zs_iload_n hX dX13_richOf_564 rfl rfl ?_
    obtain ⟨b97, h⟩ := zgd_e h
    refine zl_x1 hX dX13_richOf_565 (zin_ok b97) ?_
    refine zs_iconst (v := 0) hX dX13_richOf_566 (by decide) ?_
    obtain ⟨r100, s98, e99, h⟩ := zci_e h
    refine zc_gone hX dX13_richOf_567 (Nat.le_of_ble_eq_true rfl) (hc _ _ _ _ e99) (fun r9 u9 h9 => ?_)
    cases h9
    refine zs_istore hX dX13_richOf_570 (by decide) rfl ?_
    dsimp only [List.set]
    refine zs_aload_n hX dX13_richOf_572 rfl rfl ?_
    refine zs_aload_n hX dX13_richOf_573 rfl rfl ?_
    refine zs_aload_n hX dX13_richOf_574 rfl rfl ?_
    refine zg_x4 hX dX13_richOf_575 ?_
    refine zs_iload_n hX dX13_richOf_578 rfl rfl ?_
    obtain ⟨b101, h⟩ := zgd_e h
    refine zl_x4 hX dX13_richOf_579 (zin_ok b101) ?_
    refine zs_iload_n hX dX13_richOf_580 rfl rfl ?_
    refine zs_iload hX dX13_richOf_581 rfl ?_
    obtain ⟨r104, s102, e103, h⟩ := zci_e h
    refine zc_richOf hX dX13_richOf_583 (Nat.le_of_ble_eq_true rfl) (hc _ _ _ _ e103) (fun r9 u9 h9 => ?_)
    cases h9
    refine zs_iload hX dX13_richOf_586 rfl ?_
    refine zs_iload_n hX dX13_richOf_588 rfl rfl ?_
    refine zs_iload hX dX13_richOf_589 rfl ?_
    obtain ⟨s105, e106, h⟩ := zcv_e h
    refine zc_mustFit hX dX13_richOf_591 (Nat.le_of_ble_eq_true rfl) (hc _ _ _ _ e106) (fun u9 h9 => ?_)
    cases h9
    refine zs_iload hX dX13_richOf_594 rfl ?_
    exact zs_iret hX dX13_richOf_596 rfl (Option.some.inj h)
  rw [if_neg c80] at h
  by_cases c107 : (σ.2.2.1 6 (x1).toNatClampNeg) = 5
  · rw [if_pos c107] at h
    refine zs_tableIn (tgt := 597) (off := 591) hX dX13_richOf_6 (by rw [c107]; decide) (by rw [c107]; decide) (by rw [c107]; rfl) (by decide) ?_
    refine zs_aload_n hX dX13_richOf_597 rfl rfl ?_
    refine zs_iconst (v := 0) hX dX13_richOf_598 (by decide) ?_
    refine zs_aload_n hX dX13_richOf_599 rfl rfl ?_
    refine zg_x1 hX dX13_richOf_600 ?_
    refine zs_iload_n hX dX13_richOf_603 rfl rfl ?_
    obtain ⟨b108, h⟩ := zgd_e h
    refine zl_x1 hX dX13_richOf_604 (zin_ok b108) ?_
    refine zs_iconst (v := (-1)) hX dX13_richOf_605 (by decide) ?_
    refine zs_iload_n hX dX13_richOf_606 rfl rfl ?_
    refine zs_iload_n hX dX13_richOf_607 rfl rfl ?_
    refine zs_aload_n hX dX13_richOf_608 rfl rfl ?_
    refine zg_at hX dX13_richOf_609 ?_
    refine zs_iload_n hX dX13_richOf_612 rfl rfl ?_
    obtain ⟨b109, h⟩ := zgd_e h
    refine zl_at hX dX13_richOf_613 (zin_ok b109) ?_
    obtain ⟨s110, e111, h⟩ := zcv_e h
    refine zc_mustBeSo hX dX13_richOf_614 (Nat.le_of_ble_eq_true rfl) (hc _ _ _ _ e111) (fun u9 h9 => ?_)
    cases h9
    refine zs_aload_n hX dX13_richOf_617 rfl rfl ?_
    refine zs_aload_n hX dX13_richOf_618 rfl rfl ?_
    refine zg_x3 hX dX13_richOf_619 ?_
    refine zs_iload_n hX dX13_richOf_622 rfl rfl ?_
    obtain ⟨b112, h⟩ := zgd_e h
    refine zl_x3 hX dX13_richOf_623 (zin_ok b112) ?_
    refine zs_iload_n hX dX13_richOf_624 rfl rfl ?_
    refine zs_aload_n hX dX13_richOf_625 rfl rfl ?_
    refine zs_iload_n hX dX13_richOf_626 rfl rfl ?_
    refine zs_aload_n hX dX13_richOf_627 rfl rfl ?_
    refine zg_x1 hX dX13_richOf_628 ?_
    refine zs_iload_n hX dX13_richOf_631 rfl rfl ?_
    obtain ⟨b113, h⟩ := zgd_e h
    refine zl_x1 hX dX13_richOf_632 (zin_ok b113) ?_
    refine zs_iconst (v := 1) hX dX13_richOf_633 (by decide) ?_
    obtain ⟨r116, s114, e115, h⟩ := zci_e h
    refine zc_gone hX dX13_richOf_634 (Nat.le_of_ble_eq_true rfl) (hc _ _ _ _ e115) (fun r9 u9 h9 => ?_)
    cases h9
    obtain ⟨r119, s117, e118, h⟩ := zci_e h
    refine zc_richOf hX dX13_richOf_637 (Nat.le_of_ble_eq_true rfl) (hc _ _ _ _ e118) (fun r9 u9 h9 => ?_)
    cases h9
    exact zs_iret hX dX13_richOf_640 rfl (Option.some.inj h)
  rw [if_neg c107] at h
  by_cases c120 : (σ.2.2.1 6 (x1).toNatClampNeg) = 6
  · rw [if_pos c120] at h
    refine zs_tableIn (tgt := 641) (off := 635) hX dX13_richOf_6 (by rw [c120]; decide) (by rw [c120]; decide) (by rw [c120]; rfl) (by decide) ?_
    refine zs_aload_n hX dX13_richOf_641 rfl rfl ?_
    refine zs_iconst (v := 2) hX dX13_richOf_642 (by decide) ?_
    refine zs_aload_n hX dX13_richOf_643 rfl rfl ?_
    refine zg_x2 hX dX13_richOf_644 ?_
    refine zs_iload_n hX dX13_richOf_647 rfl rfl ?_
    obtain ⟨b121, h⟩ := zgd_e h
    refine zl_x2 hX dX13_richOf_648 (zin_ok b121) ?_
    refine zs_iconst (v := (-1)) hX dX13_richOf_649 (by decide) ?_
    refine zs_iload_n hX dX13_richOf_650 rfl rfl ?_
    refine zs_iload_n hX dX13_richOf_651 rfl rfl ?_
    refine zs_aload_n hX dX13_richOf_652 rfl rfl ?_
    refine zg_sign hX dX13_richOf_653 ?_
    refine zs_iload_n hX dX13_richOf_656 rfl rfl ?_
    obtain ⟨b122, h⟩ := zgd_e h
    refine zl_sign hX dX13_richOf_657 (zin_ok b122) ?_
    obtain ⟨s123, e124, h⟩ := zcv_e h
    refine zc_mustBeSo hX dX13_richOf_658 (Nat.le_of_ble_eq_true rfl) (hc _ _ _ _ e124) (fun u9 h9 => ?_)
    cases h9
    refine zs_aload_n hX dX13_richOf_661 rfl rfl ?_
    refine zs_iconst (v := 3) hX dX13_richOf_662 (by decide) ?_
    refine zs_aload_n hX dX13_richOf_663 rfl rfl ?_
    refine zg_x2 hX dX13_richOf_664 ?_
    refine zs_iload_n hX dX13_richOf_667 rfl rfl ?_
    obtain ⟨b125, h⟩ := zgd_e h
    refine zl_x2 hX dX13_richOf_668 (zin_ok b125) ?_
    refine zs_aload_n hX dX13_richOf_669 rfl rfl ?_
    refine zg_whose hX dX13_richOf_670 ?_
    refine zs_aload_n hX dX13_richOf_673 rfl rfl ?_
    refine zg_x1 hX dX13_richOf_674 ?_
    refine zs_iload_n hX dX13_richOf_677 rfl rfl ?_
    obtain ⟨b126, h⟩ := zgd_e h
    refine zl_x1 hX dX13_richOf_678 (zin_ok b126) ?_
    obtain ⟨b127, h⟩ := zgd_e h
    refine zl_whose hX dX13_richOf_679 (zin_ok b127) ?_
    refine zs_iload_n hX dX13_richOf_680 rfl rfl ?_
    refine zs_iload_n hX dX13_richOf_681 rfl rfl ?_
    refine zs_aload_n hX dX13_richOf_682 rfl rfl ?_
    refine zg_sign hX dX13_richOf_683 ?_
    refine zs_iload_n hX dX13_richOf_686 rfl rfl ?_
    obtain ⟨b128, h⟩ := zgd_e h
    refine zl_sign hX dX13_richOf_687 (zin_ok b128) ?_
    obtain ⟨s129, e130, h⟩ := zcv_e h
    refine zc_mustBeSo hX dX13_richOf_688 (Nat.le_of_ble_eq_true rfl) (hc _ _ _ _ e130) (fun u9 h9 => ?_)
    cases h9
    refine zs_aload_n hX dX13_richOf_691 rfl rfl ?_
    refine zs_aload_n hX dX13_richOf_692 rfl rfl ?_
    refine zg_x4 hX dX13_richOf_693 ?_
    refine zs_iload_n hX dX13_richOf_696 rfl rfl ?_
    obtain ⟨b131, h⟩ := zgd_e h
    refine zl_x4 hX dX13_richOf_697 (zin_ok b131) ?_
    refine zs_iload_n hX dX13_richOf_698 rfl rfl ?_
    refine zs_iload_n hX dX13_richOf_699 rfl rfl ?_
    obtain ⟨r134, s132, e133, h⟩ := zci_e h
    refine zc_richOf hX dX13_richOf_700 (Nat.le_of_ble_eq_true rfl) (hc _ _ _ _ e133) (fun r9 u9 h9 => ?_)
    cases h9
    exact zs_iret hX dX13_richOf_703 rfl (Option.some.inj h)
  rw [if_neg c120] at h
  by_cases c135 : (σ.2.2.1 6 (x1).toNatClampNeg) = 7
  · rw [if_pos c135] at h
    refine zs_tableIn (tgt := 704) (off := 698) hX dX13_richOf_6 (by rw [c135]; decide) (by rw [c135]; decide) (by rw [c135]; rfl) (by decide) ?_
    refine zs_aload_n hX dX13_richOf_704 rfl rfl ?_
    refine zs_iconst (v := 2) hX dX13_richOf_705 (by decide) ?_
    refine zs_aload_n hX dX13_richOf_706 rfl rfl ?_
    refine zg_x2 hX dX13_richOf_707 ?_
    refine zs_iload_n hX dX13_richOf_710 rfl rfl ?_
    obtain ⟨b136, h⟩ := zgd_e h
    refine zl_x2 hX dX13_richOf_711 (zin_ok b136) ?_
    refine zs_iconst (v := (-1)) hX dX13_richOf_712 (by decide) ?_
    refine zs_iload_n hX dX13_richOf_713 rfl rfl ?_
    refine zs_iload_n hX dX13_richOf_714 rfl rfl ?_
    refine zs_aload_n hX dX13_richOf_715 rfl rfl ?_
    refine zg_at hX dX13_richOf_716 ?_
    refine zs_iload_n hX dX13_richOf_719 rfl rfl ?_
    obtain ⟨b137, h⟩ := zgd_e h
    refine zl_at hX dX13_richOf_720 (zin_ok b137) ?_
    obtain ⟨s138, e139, h⟩ := zcv_e h
    refine zc_mustBeSo hX dX13_richOf_721 (Nat.le_of_ble_eq_true rfl) (hc _ _ _ _ e139) (fun u9 h9 => ?_)
    cases h9
    refine zs_aload_n hX dX13_richOf_724 rfl rfl ?_
    refine zs_iconst (v := 3) hX dX13_richOf_725 (by decide) ?_
    refine zs_aload_n hX dX13_richOf_726 rfl rfl ?_
    refine zs_iconst (v := (-1)) hX dX13_richOf_727 (by decide) ?_
    refine zs_aload_n hX dX13_richOf_728 rfl rfl ?_
    refine zs_aload_n hX dX13_richOf_729 rfl rfl ?_
    refine zg_x2 hX dX13_richOf_730 ?_
    refine zs_iload_n hX dX13_richOf_733 rfl rfl ?_
    obtain ⟨b140, h⟩ := zgd_e h
    refine zl_x2 hX dX13_richOf_734 (zin_ok b140) ?_
    obtain ⟨r143, s141, e142, h⟩ := zci_e h
    refine zc_isSum hX dX13_richOf_735 (Nat.le_of_ble_eq_true rfl) (hc _ _ _ _ e142) (fun r9 u9 h9 => ?_)
    cases h9
    refine zs_iconst (v := (-1)) hX dX13_richOf_738 (by decide) ?_
    obtain ⟨r146, s144, e145, h⟩ := zci_e h
    refine zc_said hX dX13_richOf_739 (Nat.le_of_ble_eq_true rfl) (hc _ _ _ _ e145) (fun r9 u9 h9 => ?_)
    cases h9
    refine zs_iconst (v := (-1)) hX dX13_richOf_742 (by decide) ?_
    refine zs_iconst (v := (-1)) hX dX13_richOf_743 (by decide) ?_
    refine zs_iconst (v := (-1)) hX dX13_richOf_744 (by decide) ?_
    obtain ⟨r149, s147, e148, h⟩ := zci_e h
    refine zc_rich hX dX13_richOf_745 (Nat.le_of_ble_eq_true rfl) (hc _ _ _ _ e148) (fun r9 u9 h9 => ?_)
    cases h9
    exact zs_iret hX dX13_richOf_748 rfl (Option.some.inj h)
  rw [if_neg c135] at h
  by_cases c150 : (σ.2.2.1 6 (x1).toNatClampNeg) = 8
  · rw [if_pos c150] at h
    refine zs_tableIn (tgt := 749) (off := 743) hX dX13_richOf_6 (by rw [c150]; decide) (by rw [c150]; decide) (by rw [c150]; rfl) (by decide) ?_
    refine zs_aload_n hX dX13_richOf_749 rfl rfl ?_
    refine zs_iconst (v := 2) hX dX13_richOf_750 (by decide) ?_
    obtain ⟨r153, s151, e152, h⟩ := zci_e h
    refine zc_plainType hX dX13_richOf_751 (Nat.le_of_ble_eq_true rfl) (hc _ _ _ _ e152) (fun r9 u9 h9 => ?_)
    cases h9
    exact zs_iret hX dX13_richOf_754 rfl (Option.some.inj h)
  rw [if_neg c150] at h
  by_cases c154 : (σ.2.2.1 6 (x1).toNatClampNeg) = 9
  · rw [if_pos c154] at h
    refine zs_tableIn (tgt := 749) (off := 743) hX dX13_richOf_6 (by rw [c154]; decide) (by rw [c154]; decide) (by rw [c154]; rfl) (by decide) ?_
    refine zs_aload_n hX dX13_richOf_749 rfl rfl ?_
    refine zs_iconst (v := 2) hX dX13_richOf_750 (by decide) ?_
    obtain ⟨r157, s155, e156, h⟩ := zci_e h
    refine zc_plainType hX dX13_richOf_751 (Nat.le_of_ble_eq_true rfl) (hc _ _ _ _ e156) (fun r9 u9 h9 => ?_)
    cases h9
    exact zs_iret hX dX13_richOf_754 rfl (Option.some.inj h)
  rw [if_neg c154] at h
  by_cases c158 : (σ.2.2.1 6 (x1).toNatClampNeg) = 10
  · rw [if_pos c158] at h
    refine zs_tableIn (tgt := 755) (off := 749) hX dX13_richOf_6 (by rw [c158]; decide) (by rw [c158]; decide) (by rw [c158]; rfl) (by decide) ?_
    refine zs_aload_n hX dX13_richOf_755 rfl rfl ?_
    refine zs_aload_n hX dX13_richOf_756 rfl rfl ?_
    refine zg_x2 hX dX13_richOf_757 ?_
    refine zs_iload_n hX dX13_richOf_760 rfl rfl ?_
    obtain ⟨b159, h⟩ := zgd_e h
    refine zl_x2 hX dX13_richOf_761 (zin_ok b159) ?_
    obtain ⟨r162, s160, e161, h⟩ := zci_e h
    refine zc_isName hX dX13_richOf_762 (Nat.le_of_ble_eq_true rfl) (hc _ _ _ _ e161) (fun r9 u9 h9 => ?_)
    cases h9
    refine zs_if_eq (tgt := 794) hX dX13_richOf_765 (by decide) (fun c163 => ?_) (fun c163 => ?_)
    · rw [if_pos c163] at h
      refine zs_aload_n hX dX13_richOf_794 rfl rfl ?_
      refine zs_iconst (v := 1) hX dX13_richOf_795 (by decide) ?_
      refine zs_aload_n hX dX13_richOf_796 rfl rfl ?_
      refine zs_iconst (v := (-1)) hX dX13_richOf_797 (by decide) ?_
      refine zs_aload_n hX dX13_richOf_798 rfl rfl ?_
      refine zs_aload_n hX dX13_richOf_799 rfl rfl ?_
      refine zg_x2 hX dX13_richOf_800 ?_
      refine zs_iload_n hX dX13_richOf_803 rfl rfl ?_
      obtain ⟨b164, h⟩ := zgd_e h
      refine zl_x2 hX dX13_richOf_804 (zin_ok b164) ?_
      obtain ⟨r167, s165, e166, h⟩ := zci_e h
      refine zc_isSum hX dX13_richOf_805 (Nat.le_of_ble_eq_true rfl) (hc _ _ _ _ e166) (fun r9 u9 h9 => ?_)
      cases h9
      refine zs_iconst (v := (-1)) hX dX13_richOf_808 (by decide) ?_
      obtain ⟨r170, s168, e169, h⟩ := zci_e h
      refine zc_said hX dX13_richOf_809 (Nat.le_of_ble_eq_true rfl) (hc _ _ _ _ e169) (fun r9 u9 h9 => ?_)
      cases h9
      refine zs_iconst (v := (-1)) hX dX13_richOf_812 (by decide) ?_
      refine zs_iconst (v := (-1)) hX dX13_richOf_813 (by decide) ?_
      refine zs_iconst (v := (-1)) hX dX13_richOf_814 (by decide) ?_
      obtain ⟨r173, s171, e172, h⟩ := zci_e h
      refine zc_rich hX dX13_richOf_815 (Nat.le_of_ble_eq_true rfl) (hc _ _ _ _ e172) (fun r9 u9 h9 => ?_)
      cases h9
      exact zs_iret hX dX13_richOf_818 rfl (Option.some.inj h)
    · rw [if_neg c163] at h
      refine zs_aload_n hX dX13_richOf_768 rfl rfl ?_
      refine zs_aload_n hX dX13_richOf_769 rfl rfl ?_
      refine zg_whose hX dX13_richOf_770 ?_
      refine zs_aload_n hX dX13_richOf_773 rfl rfl ?_
      refine zg_pWord hX dX13_richOf_774 ?_
      refine zs_aload_n hX dX13_richOf_777 rfl rfl ?_
      refine zg_sFrom hX dX13_richOf_778 ?_
      refine zs_aload_n hX dX13_richOf_781 rfl rfl ?_
      refine zg_x2 hX dX13_richOf_782 ?_
      refine zs_iload_n hX dX13_richOf_785 rfl rfl ?_
      obtain ⟨b174, h⟩ := zgd_e h
      refine zl_x2 hX dX13_richOf_786 (zin_ok b174) ?_
      obtain ⟨b175, h⟩ := zgd_e h
      refine zl_sFrom hX dX13_richOf_787 (zin_ok b175) ?_
      obtain ⟨b176, h⟩ := zgd_e h
      refine zl_pWord hX dX13_richOf_788 (zin_ok b176) ?_
      obtain ⟨b177, h⟩ := zgd_e h
      refine zl_whose hX dX13_richOf_789 (zin_ok b177) ?_
      obtain ⟨r180, s178, e179, h⟩ := zci_e h
      refine zc_ofName hX dX13_richOf_790 (Nat.le_of_ble_eq_true rfl) (hc _ _ _ _ e179) (fun r9 u9 h9 => ?_)
      cases h9
      exact zs_iret hX dX13_richOf_793 rfl (Option.some.inj h)
  rw [if_neg c158] at h
  by_cases c181 : (σ.2.2.1 6 (x1).toNatClampNeg) = 11
  · rw [if_pos c181] at h
    refine zs_tableIn (tgt := 819) (off := 813) hX dX13_richOf_6 (by rw [c181]; decide) (by rw [c181]; decide) (by rw [c181]; rfl) (by decide) ?_
    refine zs_aload_n hX dX13_richOf_819 rfl rfl ?_
    refine zs_iload_n hX dX13_richOf_820 rfl rfl ?_
    refine zs_iload_n hX dX13_richOf_821 rfl rfl ?_
    refine zs_iload_n hX dX13_richOf_822 rfl rfl ?_
    obtain ⟨r184, s182, e183, h⟩ := zci_e h
    refine zc_ofSign hX dX13_richOf_823 (Nat.le_of_ble_eq_true rfl) (hc _ _ _ _ e183) (fun r9 u9 h9 => ?_)
    cases h9
    exact zs_iret hX dX13_richOf_826 rfl (Option.some.inj h)
  rw [if_neg c181] at h
  by_cases c185 : (σ.2.2.1 6 (x1).toNatClampNeg) = 12
  · rw [if_pos c185] at h
    refine zs_tableIn (tgt := 819) (off := 813) hX dX13_richOf_6 (by rw [c185]; decide) (by rw [c185]; decide) (by rw [c185]; rfl) (by decide) ?_
    refine zs_aload_n hX dX13_richOf_819 rfl rfl ?_
    refine zs_iload_n hX dX13_richOf_820 rfl rfl ?_
    refine zs_iload_n hX dX13_richOf_821 rfl rfl ?_
    refine zs_iload_n hX dX13_richOf_822 rfl rfl ?_
    obtain ⟨r188, s186, e187, h⟩ := zci_e h
    refine zc_ofSign hX dX13_richOf_823 (Nat.le_of_ble_eq_true rfl) (hc _ _ _ _ e187) (fun r9 u9 h9 => ?_)
    cases h9
    exact zs_iret hX dX13_richOf_826 rfl (Option.some.inj h)
  rw [if_neg c185] at h
  by_cases c189 : (σ.2.2.1 6 (x1).toNatClampNeg) = 13
  · rw [if_pos c189] at h
    refine zs_tableIn (tgt := 819) (off := 813) hX dX13_richOf_6 (by rw [c189]; decide) (by rw [c189]; decide) (by rw [c189]; rfl) (by decide) ?_
    refine zs_aload_n hX dX13_richOf_819 rfl rfl ?_
    refine zs_iload_n hX dX13_richOf_820 rfl rfl ?_
    refine zs_iload_n hX dX13_richOf_821 rfl rfl ?_
    refine zs_iload_n hX dX13_richOf_822 rfl rfl ?_
    obtain ⟨r192, s190, e191, h⟩ := zci_e h
    refine zc_ofSign hX dX13_richOf_823 (Nat.le_of_ble_eq_true rfl) (hc _ _ _ _ e191) (fun r9 u9 h9 => ?_)
    cases h9
    exact zs_iret hX dX13_richOf_826 rfl (Option.some.inj h)
  rw [if_neg c189] at h
  by_cases c193 : (σ.2.2.1 6 (x1).toNatClampNeg) = 14
  · rw [if_pos c193] at h
    refine zs_tableIn (tgt := 827) (off := 821) hX dX13_richOf_6 (by rw [c193]; decide) (by rw [c193]; decide) (by rw [c193]; rfl) (by decide) ?_
    refine zs_aload_n hX dX13_richOf_827 rfl rfl ?_
    refine zs_iconst (v := 2) hX dX13_richOf_828 (by decide) ?_
    refine zs_aload_n hX dX13_richOf_829 rfl rfl ?_
    refine zg_x2 hX dX13_richOf_830 ?_
    refine zs_iload_n hX dX13_richOf_833 rfl rfl ?_
    obtain ⟨b194, h⟩ := zgd_e h
    refine zl_x2 hX dX13_richOf_834 (zin_ok b194) ?_
    refine zs_iconst (v := (-1)) hX dX13_richOf_835 (by decide) ?_
    refine zs_iload_n hX dX13_richOf_836 rfl rfl ?_
    refine zs_iload_n hX dX13_richOf_837 rfl rfl ?_
    refine zs_aload_n hX dX13_richOf_838 rfl rfl ?_
    refine zg_sign hX dX13_richOf_839 ?_
    refine zs_iload_n hX dX13_richOf_842 rfl rfl ?_
    obtain ⟨b195, h⟩ := zgd_e h
    refine zl_sign hX dX13_richOf_843 (zin_ok b195) ?_
    obtain ⟨s196, e197, h⟩ := zcv_e h
    refine zc_mustBeSo hX dX13_richOf_844 (Nat.le_of_ble_eq_true rfl) (hc _ _ _ _ e197) (fun u9 h9 => ?_)
    cases h9
    refine zs_aload_n hX dX13_richOf_847 rfl rfl ?_
    refine zs_iconst (v := 3) hX dX13_richOf_848 (by decide) ?_
    refine zs_aload_n hX dX13_richOf_849 rfl rfl ?_
    refine zg_x2 hX dX13_richOf_850 ?_
    refine zs_iload_n hX dX13_richOf_853 rfl rfl ?_
    obtain ⟨b198, h⟩ := zgd_e h
    refine zl_x2 hX dX13_richOf_854 (zin_ok b198) ?_
    refine zs_aload_n hX dX13_richOf_855 rfl rfl ?_
    refine zg_whose hX dX13_richOf_856 ?_
    refine zs_aload_n hX dX13_richOf_859 rfl rfl ?_
    refine zg_x1 hX dX13_richOf_860 ?_
    refine zs_iload_n hX dX13_richOf_863 rfl rfl ?_
    obtain ⟨b199, h⟩ := zgd_e h
    refine zl_x1 hX dX13_richOf_864 (zin_ok b199) ?_
    obtain ⟨b200, h⟩ := zgd_e h
    refine zl_whose hX dX13_richOf_865 (zin_ok b200) ?_
    refine zs_iload_n hX dX13_richOf_866 rfl rfl ?_
    refine zs_iload_n hX dX13_richOf_867 rfl rfl ?_
    refine zs_aload_n hX dX13_richOf_868 rfl rfl ?_
    refine zg_sign hX dX13_richOf_869 ?_
    refine zs_iload_n hX dX13_richOf_872 rfl rfl ?_
    obtain ⟨b201, h⟩ := zgd_e h
    refine zl_sign hX dX13_richOf_873 (zin_ok b201) ?_
    obtain ⟨s202, e203, h⟩ := zcv_e h
    refine zc_mustBeSo hX dX13_richOf_874 (Nat.le_of_ble_eq_true rfl) (hc _ _ _ _ e203) (fun u9 h9 => ?_)
    cases h9
    refine zs_aload_n hX dX13_richOf_877 rfl rfl ?_
    refine zs_iconst (v := 1) hX dX13_richOf_878 (by decide) ?_
    obtain ⟨r206, s204, e205, h⟩ := zci_e h
    refine zc_plainType hX dX13_richOf_879 (Nat.le_of_ble_eq_true rfl) (hc _ _ _ _ e205) (fun r9 u9 h9 => ?_)
    cases h9
    exact zs_iret hX dX13_richOf_882 rfl (Option.some.inj h)
  rw [if_neg c193] at h
  by_cases c207 : (σ.2.2.1 6 (x1).toNatClampNeg) = 15
  · rw [if_pos c207] at h
    refine zs_tableIn (tgt := 1154) (off := 1148) hX dX13_richOf_6 (by rw [c207]; decide) (by rw [c207]; decide) (by rw [c207]; rfl) (by decide) ?_
    refine zs_aload_n hX dX13_richOf_1154 rfl rfl ?_
    refine zs_iload_n hX dX13_richOf_1155 rfl rfl ?_
    refine zs_iload_n hX dX13_richOf_1156 rfl rfl ?_
    refine zs_iload_n hX dX13_richOf_1157 rfl rfl ?_
    obtain ⟨r210, s208, e209, h⟩ := zci_e h
    refine zc_ofCall hX dX13_richOf_1158 (Nat.le_of_ble_eq_true rfl) (hc _ _ _ _ e209) (fun r9 u9 h9 => ?_)
    cases h9
    exact zs_iret hX dX13_richOf_1161 rfl (Option.some.inj h)
  rw [if_neg c207] at h
  by_cases c211 : (σ.2.2.1 6 (x1).toNatClampNeg) = 16
  · rw [if_pos c211] at h
    refine zs_tableIn (tgt := 1162) (off := 1156) hX dX13_richOf_6 (by rw [c211]; decide) (by rw [c211]; decide) (by rw [c211]; rfl) (by decide) ?_
    refine zs_aload_n hX dX13_richOf_1162 rfl rfl ?_
    refine zs_aload_n hX dX13_richOf_1163 rfl rfl ?_
    refine zg_x3 hX dX13_richOf_1164 ?_
    refine zs_iload_n hX dX13_richOf_1167 rfl rfl ?_
    obtain ⟨b212, h⟩ := zgd_e h
    refine zl_x3 hX dX13_richOf_1168 (zin_ok b212) ?_
    refine zs_iload_n hX dX13_richOf_1169 rfl rfl ?_
    refine zs_iload_n hX dX13_richOf_1170 rfl rfl ?_
    obtain ⟨r215, s213, e214, h⟩ := zci_e h
    refine zc_richOf hX dX13_richOf_1171 (Nat.le_of_ble_eq_true rfl) (hc _ _ _ _ e214) (fun r9 u9 h9 => ?_)
    cases h9
    exact zs_iret hX dX13_richOf_1174 rfl (Option.some.inj h)
  rw [if_neg c211] at h
  by_cases c216 : (σ.2.2.1 6 (x1).toNatClampNeg) = 17
  · rw [if_pos c216] at h
    refine zs_tableIn (tgt := 883) (off := 877) hX dX13_richOf_6 (by rw [c216]; decide) (by rw [c216]; decide) (by rw [c216]; rfl) (by decide) ?_
    refine zs_aload_n hX dX13_richOf_883 rfl rfl ?_
    refine zs_iconst (v := 5) hX dX13_richOf_884 (by decide) ?_
    refine zs_aload_n hX dX13_richOf_885 rfl rfl ?_
    refine zs_iconst (v := (-1)) hX dX13_richOf_886 (by decide) ?_
    refine zs_aload_n hX dX13_richOf_887 rfl rfl ?_
    refine zs_iconst (v := 0) hX dX13_richOf_888 (by decide) ?_
    refine zs_iconst (v := (-1)) hX dX13_richOf_889 (by decide) ?_
    refine zs_iconst (v := 0) hX dX13_richOf_890 (by decide) ?_
    refine zs_lconst (v := 0) hX dX13_richOf_891 (by decide) ?_
    refine zs_iconst (v := (-1)) hX dX13_richOf_892 (by decide) ?_
    obtain ⟨r219, s217, e218, h⟩ := zci_e h
    refine zc_fact hX dX13_richOf_893 (Nat.le_of_ble_eq_true rfl) (hc _ _ _ _ e218) (fun r9 u9 h9 => ?_)
    cases h9
    refine zs_iconst (v := (-1)) hX dX13_richOf_896 (by decide) ?_
    obtain ⟨r222, s220, e221, h⟩ := zci_e h
    refine zc_said hX dX13_richOf_897 (Nat.le_of_ble_eq_true rfl) (hc _ _ _ _ e221) (fun r9 u9 h9 => ?_)
    cases h9
    refine zs_iconst (v := (-1)) hX dX13_richOf_900 (by decide) ?_
    refine zs_iconst (v := (-1)) hX dX13_richOf_901 (by decide) ?_
    refine zs_iconst (v := (-1)) hX dX13_richOf_902 (by decide) ?_
    obtain ⟨r225, s223, e224, h⟩ := zci_e h
    refine zc_rich hX dX13_richOf_903 (Nat.le_of_ble_eq_true rfl) (hc _ _ _ _ e224) (fun r9 u9 h9 => ?_)
    cases h9
    exact zs_iret hX dX13_richOf_906 rfl (Option.some.inj h)
  rw [if_neg c216] at h
  by_cases c226 : (σ.2.2.1 6 (x1).toNatClampNeg) = 18
  · rw [if_pos c226] at h
    refine zs_tableIn (tgt := 907) (off := 901) hX dX13_richOf_6 (by rw [c226]; decide) (by rw [c226]; decide) (by rw [c226]; rfl) (by decide) ?_
    refine zs_aload_n hX dX13_richOf_907 rfl rfl ?_
    refine zs_iconst (v := 5) hX dX13_richOf_908 (by decide) ?_
    refine zs_aload_n hX dX13_richOf_909 rfl rfl ?_
    refine zs_iconst (v := (-1)) hX dX13_richOf_910 (by decide) ?_
    refine zs_aload_n hX dX13_richOf_911 rfl rfl ?_
    refine zs_iconst (v := 0) hX dX13_richOf_912 (by decide) ?_
    refine zs_aload_n hX dX13_richOf_913 rfl rfl ?_
    refine zg_whose hX dX13_richOf_914 ?_
    refine zs_aload_n hX dX13_richOf_917 rfl rfl ?_
    refine zg_x1 hX dX13_richOf_918 ?_
    refine zs_iload_n hX dX13_richOf_921 rfl rfl ?_
    obtain ⟨b227, h⟩ := zgd_e h
    refine zl_x1 hX dX13_richOf_922 (zin_ok b227) ?_
    obtain ⟨b228, h⟩ := zgd_e h
    refine zl_whose hX dX13_richOf_923 (zin_ok b228) ?_
    refine zs_iconst (v := 1) hX dX13_richOf_924 (by decide) ?_
    refine zs_lconst (v := 1) hX dX13_richOf_925 (by decide) ?_
    refine zs_iconst (v := (-1)) hX dX13_richOf_926 (by decide) ?_
    obtain ⟨r231, s229, e230, h⟩ := zci_e h
    refine zc_fact hX dX13_richOf_927 (Nat.le_of_ble_eq_true rfl) (hc _ _ _ _ e230) (fun r9 u9 h9 => ?_)
    cases h9
    refine zs_iconst (v := (-1)) hX dX13_richOf_930 (by decide) ?_
    obtain ⟨r234, s232, e233, h⟩ := zci_e h
    refine zc_said hX dX13_richOf_931 (Nat.le_of_ble_eq_true rfl) (hc _ _ _ _ e233) (fun r9 u9 h9 => ?_)
    cases h9
    refine zs_iconst (v := (-1)) hX dX13_richOf_934 (by decide) ?_
    refine zs_iconst (v := (-1)) hX dX13_richOf_935 (by decide) ?_
    refine zs_iconst (v := (-1)) hX dX13_richOf_936 (by decide) ?_
    obtain ⟨r237, s235, e236, h⟩ := zci_e h
    refine zc_rich hX dX13_richOf_937 (Nat.le_of_ble_eq_true rfl) (hc _ _ _ _ e236) (fun r9 u9 h9 => ?_)
    cases h9
    exact zs_iret hX dX13_richOf_940 rfl (Option.some.inj h)
  rw [if_neg c226] at h
  by_cases c238 : (σ.2.2.1 6 (x1).toNatClampNeg) = 19
  · rw [if_pos c238] at h
    refine zs_tableIn (tgt := 941) (off := 935) hX dX13_richOf_6 (by rw [c238]; decide) (by rw [c238]; decide) (by rw [c238]; rfl) (by decide) ?_
    refine zs_aload_n hX dX13_richOf_941 rfl rfl ?_
    refine zs_iload_n hX dX13_richOf_942 rfl rfl ?_
    obtain ⟨s239, e240, h⟩ := zcv_e h
    refine zc_namesAt hX dX13_richOf_943 (Nat.le_of_ble_eq_true rfl) (hc _ _ _ _ e240) (fun u9 h9 => ?_)
    cases h9
    refine zs_aload_n hX dX13_richOf_946 rfl rfl ?_
    refine zs_aload_n hX dX13_richOf_947 rfl rfl ?_
    refine zg_nodeType hX dX13_richOf_948 ?_
    refine zs_iload_n hX dX13_richOf_951 rfl rfl ?_
    obtain ⟨b241, h⟩ := zgd_e h
    refine zl_nodeType hX dX13_richOf_952 (zin_ok b241) ?_
    refine zs_iconst (v := (-1)) hX dX13_richOf_953 (by decide) ?_
    refine zs_iconst (v := 0) hX dX13_richOf_954 (by decide) ?_
    obtain ⟨r244, s242, e243, h⟩ := zci_e h
    refine zc_template hX dX13_richOf_955 (Nat.le_of_ble_eq_true rfl) (hc _ _ _ _ e243) (fun r9 u9 h9 => ?_)
    cases h9
    refine zs_istore hX dX13_richOf_958 (by decide) rfl ?_
    dsimp only [List.set]
    refine zs_aload_n hX dX13_richOf_960 rfl rfl ?_
    refine zg_whose hX dX13_richOf_961 ?_
    refine zs_aload_n hX dX13_richOf_964 rfl rfl ?_
    refine zg_x1 hX dX13_richOf_965 ?_
    refine zs_iload_n hX dX13_richOf_968 rfl rfl ?_
    obtain ⟨b245, h⟩ := zgd_e h
    refine zl_x1 hX dX13_richOf_969 (zin_ok b245) ?_
    obtain ⟨b246, h⟩ := zgd_e h
    refine zl_whose hX dX13_richOf_970 (zin_ok b246) ?_
    refine zs_istore hX dX13_richOf_971 (by decide) rfl ?_
    dsimp only [List.set]
    refine zs_aload_n hX dX13_richOf_973 rfl rfl ?_
    refine zs_iload_n hX dX13_richOf_974 rfl rfl ?_
    refine zs_bipush (v := (-2)) hX dX13_richOf_975 (by decide) ?_
    refine zs_iload hX dX13_richOf_977 rfl ?_
    refine zs_isub hX dX13_richOf_979 ?_
    refine zs_iconst (v := 1) hX dX13_richOf_980 (by decide) ?_
    obtain ⟨r249, s247, e248, h⟩ := zci_e h
    refine zc_gone hX dX13_richOf_981 (Nat.le_of_ble_eq_true rfl) (hc _ _ _ _ e248) (fun r9 u9 h9 => ?_)
    cases h9
    refine zs_istore hX dX13_richOf_984 (by decide) rfl ?_
    dsimp only [List.set]
    refine zs_aload_n hX dX13_richOf_986 rfl rfl ?_
    refine zs_aload_n hX dX13_richOf_987 rfl rfl ?_
    refine zs_aload_n hX dX13_richOf_988 rfl rfl ?_
    refine zg_x3 hX dX13_richOf_989 ?_
    refine zs_iload_n hX dX13_richOf_992 rfl rfl ?_
    obtain ⟨b250, h⟩ := zgd_e h
    refine zl_x3 hX dX13_richOf_993 (zin_ok b250) ?_
    refine zs_iload_n hX dX13_richOf_994 rfl rfl ?_
    refine zs_iload hX dX13_richOf_995 rfl ?_
    obtain ⟨r253, s251, e252, h⟩ := zci_e h
    refine zc_richOf hX dX13_richOf_997 (Nat.le_of_ble_eq_true rfl) (hc _ _ _ _ e252) (fun r9 u9 h9 => ?_)
    cases h9
    refine zs_iload hX dX13_richOf_1000 rfl ?_
    refine zs_iload_n hX dX13_richOf_1002 rfl rfl ?_
    refine zs_iload hX dX13_richOf_1003 rfl ?_
    obtain ⟨s254, e255, h⟩ := zcv_e h
    refine zc_mustFit hX dX13_richOf_1005 (Nat.le_of_ble_eq_true rfl) (hc _ _ _ _ e255) (fun u9 h9 => ?_)
    cases h9
    refine zs_aload_n hX dX13_richOf_1008 rfl rfl ?_
    refine zs_iload_n hX dX13_richOf_1009 rfl rfl ?_
    refine zs_bipush (v := (-2)) hX dX13_richOf_1010 (by decide) ?_
    refine zs_iload hX dX13_richOf_1012 rfl ?_
    refine zs_isub hX dX13_richOf_1014 ?_
    refine zs_iconst (v := 0) hX dX13_richOf_1015 (by decide) ?_
    obtain ⟨r258, s256, e257, h⟩ := zci_e h
    refine zc_gone hX dX13_richOf_1016 (Nat.le_of_ble_eq_true rfl) (hc _ _ _ _ e257) (fun r9 u9 h9 => ?_)
    cases h9
    refine zs_istore hX dX13_richOf_1019 (by decide) rfl ?_
    dsimp only [List.set]
    refine zs_aload_n hX dX13_richOf_1021 rfl rfl ?_
    refine zg_whose hX dX13_richOf_1022 ?_
    refine zs_aload_n hX dX13_richOf_1025 rfl rfl ?_
    refine zg_x2 hX dX13_richOf_1026 ?_
    refine zs_iload_n hX dX13_richOf_1029 rfl rfl ?_
    obtain ⟨b259, h⟩ := zgd_e h
    refine zl_x2 hX dX13_richOf_1030 (zin_ok b259) ?_
    obtain ⟨b260, h⟩ := zgd_e h
    refine zl_whose hX dX13_richOf_1031 (zin_ok b260) ?_
    refine zs_istore hX dX13_richOf_1032 (by decide) rfl ?_
    dsimp only [List.set]
    refine zs_aload_n hX dX13_richOf_1034 rfl rfl ?_
    refine zg_dRich hX dX13_richOf_1035 ?_
    refine zs_iload hX dX13_richOf_1038 rfl ?_
    refine zs_aload_n hX dX13_richOf_1040 rfl rfl ?_
    refine zs_iconst (v := 1) hX dX13_richOf_1041 (by decide) ?_
    obtain ⟨r263, s261, e262, h⟩ := zci_e h
    refine zc_plainType hX dX13_richOf_1042 (Nat.le_of_ble_eq_true rfl) (hc _ _ _ _ e262) (fun r9 u9 h9 => ?_)
    cases h9
    obtain ⟨b264, h⟩ := zgd_e h
    obtain ⟨s265, e266, h⟩ := zlet_e h
    refine zt_dRich hX dX13_richOf_1045 (zin_ok b264) ?_
    rw [← e266]
    refine zs_aload_n hX dX13_richOf_1046 rfl rfl ?_
    refine zs_iload_n hX dX13_richOf_1047 rfl rfl ?_
    refine zs_iload hX dX13_richOf_1048 rfl ?_
    refine zs_aload_n hX dX13_richOf_1050 rfl rfl ?_
    refine zg_dRich hX dX13_richOf_1051 ?_
    refine zs_iload hX dX13_richOf_1054 rfl ?_
    obtain ⟨b267, h⟩ := zgd_e h
    refine zl_dRich hX dX13_richOf_1056 (zin_ok b267) ?_
    obtain ⟨r270, s268, e269, h⟩ := zci_e h
    refine zc_knows hX dX13_richOf_1057 (Nat.le_of_ble_eq_true rfl) (hc _ _ _ _ e269) (fun r9 u9 h9 => ?_)
    cases h9
    refine zs_istore hX dX13_richOf_1060 (by decide) rfl ?_
    dsimp only [List.set]
    refine zs_aload_n hX dX13_richOf_1062 rfl rfl ?_
    refine zg_whose hX dX13_richOf_1063 ?_
    refine zs_aload_n hX dX13_richOf_1066 rfl rfl ?_
    refine zg_x2 hX dX13_richOf_1067 ?_
    refine zs_iload_n hX dX13_richOf_1070 rfl rfl ?_
    obtain ⟨b271, h⟩ := zgd_e h
    refine zl_x2 hX dX13_richOf_1071 (zin_ok b271) ?_
    refine zs_iconst (v := 1) hX dX13_richOf_1072 (by decide) ?_
    refine zs_iadd hX dX13_richOf_1073 ?_
    obtain ⟨b272, h⟩ := zgd_e h
    refine zl_whose hX dX13_richOf_1074 (zin_ok b272) ?_
    refine zs_istore hX dX13_richOf_1075 (by decide) rfl ?_
    dsimp only [List.set]
    refine zs_aload_n hX dX13_richOf_1077 rfl rfl ?_
    refine zg_dRich hX dX13_richOf_1078 ?_
    refine zs_iload hX dX13_richOf_1081 rfl ?_
    refine zs_aload_n hX dX13_richOf_1083 rfl rfl ?_
    refine zs_iconst (v := 5) hX dX13_richOf_1084 (by decide) ?_
    refine zs_aload_n hX dX13_richOf_1085 rfl rfl ?_
    refine zs_iconst (v := (-1)) hX dX13_richOf_1086 (by decide) ?_
    refine zs_aload_n hX dX13_richOf_1087 rfl rfl ?_
    refine zs_iconst (v := 0) hX dX13_richOf_1088 (by decide) ?_
    refine zs_iload hX dX13_richOf_1089 rfl ?_
    refine zs_iconst (v := 1) hX dX13_richOf_1091 (by decide) ?_
    refine zs_ldc2 (v := (-1)) hX dX13_richOf_1092 (by decide) ?_
    refine zs_iconst (v := (-1)) hX dX13_richOf_1095 (by decide) ?_
    obtain ⟨r275, s273, e274, h⟩ := zci_e h
    refine zc_fact hX dX13_richOf_1096 (Nat.le_of_ble_eq_true rfl) (hc _ _ _ _ e274) (fun r9 u9 h9 => ?_)
    cases h9
    refine zs_iconst (v := (-1)) hX dX13_richOf_1099 (by decide) ?_
    obtain ⟨r278, s276, e277, h⟩ := zci_e h
    refine zc_said hX dX13_richOf_1100 (Nat.le_of_ble_eq_true rfl) (hc _ _ _ _ e277) (fun r9 u9 h9 => ?_)
    cases h9
    refine zs_iconst (v := (-1)) hX dX13_richOf_1103 (by decide) ?_
    refine zs_iconst (v := (-1)) hX dX13_richOf_1104 (by decide) ?_
    refine zs_iconst (v := (-1)) hX dX13_richOf_1105 (by decide) ?_
    obtain ⟨r281, s279, e280, h⟩ := zci_e h
    refine zc_rich hX dX13_richOf_1106 (Nat.le_of_ble_eq_true rfl) (hc _ _ _ _ e280) (fun r9 u9 h9 => ?_)
    cases h9
    obtain ⟨b282, h⟩ := zgd_e h
    obtain ⟨s283, e284, h⟩ := zlet_e h
    refine zt_dRich hX dX13_richOf_1109 (zin_ok b282) ?_
    rw [← e284]
    refine zs_aload_n hX dX13_richOf_1110 rfl rfl ?_
    refine zs_iload hX dX13_richOf_1111 rfl ?_
    refine zs_iload hX dX13_richOf_1113 rfl ?_
    refine zs_aload_n hX dX13_richOf_1115 rfl rfl ?_
    refine zg_dRich hX dX13_richOf_1116 ?_
    refine zs_iload hX dX13_richOf_1119 rfl ?_
    obtain ⟨b285, h⟩ := zgd_e h
    refine zl_dRich hX dX13_richOf_1121 (zin_ok b285) ?_
    obtain ⟨r288, s286, e287, h⟩ := zci_e h
    refine zc_knows hX dX13_richOf_1122 (Nat.le_of_ble_eq_true rfl) (hc _ _ _ _ e287) (fun r9 u9 h9 => ?_)
    cases h9
    refine zs_istore hX dX13_richOf_1125 (by decide) rfl ?_
    dsimp only [List.set]
    refine zs_aload_n hX dX13_richOf_1127 rfl rfl ?_
    refine zs_aload_n hX dX13_richOf_1128 rfl rfl ?_
    refine zs_aload_n hX dX13_richOf_1129 rfl rfl ?_
    refine zg_x4 hX dX13_richOf_1130 ?_
    refine zs_iload_n hX dX13_richOf_1133 rfl rfl ?_
    obtain ⟨b289, h⟩ := zgd_e h
    refine zl_x4 hX dX13_richOf_1134 (zin_ok b289) ?_
    refine zs_iload hX dX13_richOf_1135 rfl ?_
    refine zs_iload hX dX13_richOf_1137 rfl ?_
    obtain ⟨r292, s290, e291, h⟩ := zci_e h
    refine zc_richOf hX dX13_richOf_1139 (Nat.le_of_ble_eq_true rfl) (hc _ _ _ _ e291) (fun r9 u9 h9 => ?_)
    cases h9
    refine zs_iload hX dX13_richOf_1142 rfl ?_
    refine zs_iload hX dX13_richOf_1144 rfl ?_
    refine zs_iload hX dX13_richOf_1146 rfl ?_
    obtain ⟨s293, e294, h⟩ := zcv_e h
    refine zc_mustFit hX dX13_richOf_1148 (Nat.le_of_ble_eq_true rfl) (hc _ _ _ _ e294) (fun u9 h9 => ?_)
    cases h9
    refine zs_iload hX dX13_richOf_1151 rfl ?_
    exact zs_iret hX dX13_richOf_1153 rfl (Option.some.inj h)
  rw [if_neg c238] at h
  refine zs_tableOut (tgt := 1162) hX dX13_richOf_6 (by have := z_ne c2 (k := 1) (by decide); have := z_ne c28 (k := 2) (by decide); have := z_ne c55 (k := 3) (by decide); have := z_ne c80 (k := 4) (by decide); have := z_ne c107 (k := 5) (by decide); have := z_ne c120 (k := 6) (by decide); have := z_ne c135 (k := 7) (by decide); have := z_ne c150 (k := 8) (by decide); have := z_ne c154 (k := 9) (by decide); have := z_ne c158 (k := 10) (by decide); have := z_ne c181 (k := 11) (by decide); have := z_ne c185 (k := 12) (by decide); have := z_ne c189 (k := 13) (by decide); have := z_ne c193 (k := 14) (by decide); have := z_ne c207 (k := 15) (by decide); have := z_ne c211 (k := 16) (by decide); have := z_ne c216 (k := 17) (by decide); have := z_ne c226 (k := 18) (by decide); have := z_ne c238 (k := 19) (by decide); omega) (by decide) ?_
  refine zs_aload_n hX dX13_richOf_1162 rfl rfl ?_
  refine zs_aload_n hX dX13_richOf_1163 rfl rfl ?_
  refine zg_x3 hX dX13_richOf_1164 ?_
  refine zs_iload_n hX dX13_richOf_1167 rfl rfl ?_
  obtain ⟨b295, h⟩ := zgd_e h
  refine zl_x3 hX dX13_richOf_1168 (zin_ok b295) ?_
  refine zs_iload_n hX dX13_richOf_1169 rfl rfl ?_
  refine zs_iload_n hX dX13_richOf_1170 rfl rfl ?_
  obtain ⟨r298, s296, e297, h⟩ := zci_e h
  refine zc_richOf hX dX13_richOf_1171 (Nat.le_of_ble_eq_true rfl) (hc _ _ _ _ e297) (fun r9 u9 h9 => ?_)
  cases h9
  exact zs_iret hX dX13_richOf_1174 rfl (Option.some.inj h)
def l_beginBounds_2 (n : Nat) (call : zCl) (h0 : Nat) (qs : List Nat) (ks : Nat → Nat) : Nat → Int32 → zSt → zRs
  | 0, _, _ => none
  | f + 1, x1, σ =>
    if (σ.1 131) ≤ x1 then
      zlet (zI σ 131 0) fun s2 =>
      some (none, s2)
    else
      zgd (zin x1 100) (
      zgd (zin (σ.2.2.1 90 (x1).toNatClampNeg) 1501) (zlet (zA σ 89 (upd (σ.2.2.1 89) ((σ.2.2.1 90 (x1).toNatClampNeg)).toNatClampNeg (-1))) fun s6 =>
      l_beginBounds_2 n call h0 qs ks f (x1 + 1) s6))
def b_beginBounds (n : Nat) (call : zCl) (h0 : Nat) (qs : List Nat) (ks : Nat → Nat) (σ : zSt) : zRs :=
  l_beginBounds_2 n call h0 qs ks n 0 σ
set_option maxHeartbeats 4000000 in
theorem pl_beginBounds_2 {h0 : Nat} {qs : List Nat} {ks : Nat → Nat} {n : Nat} {call : zCl} {kc : Nat → List Value → zSt → (Option Value → zSt → Prop) → Prop} {v : Option Value × zSt} {X : Nat → zLv → List Value → zSt → Prop} (hX : zSem cX13_beginBounds 2 none h0 qs ks kc (fun r u => (r, u) = v) X) (hc : ∀ j av s w, call j av s = some w → kc j av s (fun r u => (r, u) = w)) : ∀ (f : Nat) (x1 : Int32) (σ : zSt), l_beginBounds_2 n call h0 qs ks f x1 σ = some v → X 2 [some (.ref h0), some (.int x1)] [] σ := by
  intro f
  induction f with
  | zero => intro x1 σ h; cases h
  | succ f hk2 =>
    intro x1 σ h
    rw [l_beginBounds_2] at h
    refine zs_iload_n hX dX13_beginBounds_2 rfl rfl ?_
    refine zs_aload_n hX dX13_beginBounds_3 rfl rfl ?_
    refine zg_columns hX dX13_beginBounds_4 ?_
    refine zs_icmp_ge (tgt := 28) hX dX13_beginBounds_7 (by decide) (fun c1 => ?_) (fun c1 => ?_)
    · rw [if_pos c1] at h
      refine zs_aload_n hX dX13_beginBounds_28 rfl rfl ?_
      refine zs_iconst (v := 0) hX dX13_beginBounds_29 (by decide) ?_
      obtain ⟨s2, e3, h⟩ := zlet_e h
      refine zp_columns hX dX13_beginBounds_30 ?_
      rw [← e3]
      exact zs_vret hX dX13_beginBounds_33 rfl (Option.some.inj h)
    · rw [if_neg c1] at h
      refine zs_aload_n hX dX13_beginBounds_10 rfl rfl ?_
      refine zg_column hX dX13_beginBounds_11 ?_
      refine zs_aload_n hX dX13_beginBounds_14 rfl rfl ?_
      refine zg_used hX dX13_beginBounds_15 ?_
      refine zs_iload_n hX dX13_beginBounds_18 rfl rfl ?_
      obtain ⟨b4, h⟩ := zgd_e h
      refine zl_used hX dX13_beginBounds_19 (zin_ok b4) ?_
      refine zs_iconst (v := (-1)) hX dX13_beginBounds_20 (by decide) ?_
      obtain ⟨b5, h⟩ := zgd_e h
      obtain ⟨s6, e7, h⟩ := zlet_e h
      refine zt_column hX dX13_beginBounds_21 (zin_ok b5) ?_
      rw [← e7]
      refine zs_iinc (v := x1 + 1) hX dX13_beginBounds_22 rfl rfl (by decide) rfl ?_
      dsimp only [List.set]
      refine zs_goto (tgt := 2) hX dX13_beginBounds_25 (by decide) ?_
      exact hk2 _ _ h
set_option maxHeartbeats 4000000 in
theorem pb_beginBounds {h0 : Nat} {qs : List Nat} {ks : Nat → Nat} {n : Nat} {call : zCl} {kc : Nat → List Value → zSt → (Option Value → zSt → Prop) → Prop} {v : Option Value × zSt} {X : Nat → zLv → List Value → zSt → Prop} (hX : zSem cX13_beginBounds 2 none h0 qs ks kc (fun r u => (r, u) = v) X) (hc : ∀ j av s w, call j av s = some w → kc j av s (fun r u => (r, u) = w)) {σ : zSt} (h : b_beginBounds n call h0 qs ks σ = some v) : X 0 [some (.ref h0), none] [] σ := by
  rw [b_beginBounds] at h
  refine zs_iconst (v := 0) hX dX13_beginBounds_0 (by decide) ?_
  refine zs_istore_n hX dX13_beginBounds_1 rfl (by decide) rfl ?_
  dsimp only [List.set]
  exact pl_beginBounds_2 hX hc n _ _ h
def b_columnOf (n : Nat) (call : zCl) (h0 : Nat) (qs : List Nat) (ks : Nat → Nat) (x1 : Int32) (σ : zSt) : zRs :=
  zgd (zin x1 1501) (
  if (σ.2.2.1 89 (x1).toNatClampNeg) < 0 then
    zgd (zin x1 1501) (zlet (zA σ 89 (upd (σ.2.2.1 89) (x1).toNatClampNeg (σ.1 131))) fun s4 =>
    zgd (zin (s4.1 131) 100) (zlet (zA s4 90 (upd (s4.2.2.1 90) ((s4.1 131)).toNatClampNeg x1)) fun s7 =>
    zlet (zI s7 131 ((s7.1 131) + 1)) fun s9 =>
    some (some (.int ((s9.1 131) - 1)), s9)))
  else
    zgd (zin x1 1501) (
    some (some (.int (σ.2.2.1 89 (x1).toNatClampNeg)), σ)))
set_option maxHeartbeats 4000000 in
theorem pb_columnOf {h0 : Nat} {qs : List Nat} {ks : Nat → Nat} {n : Nat} {call : zCl} {kc : Nat → List Value → zSt → (Option Value → zSt → Prop) → Prop} {v : Option Value × zSt} {X : Nat → zLv → List Value → zSt → Prop} (hX : zSem cX13_columnOf 2 (some .int) h0 qs ks kc (fun r u => (r, u) = v) X) (hc : ∀ j av s w, call j av s = some w → kc j av s (fun r u => (r, u) = w)) {x1 : Int32} {σ : zSt} (h : b_columnOf n call h0 qs ks x1 σ = some v) : X 0 [some (.ref h0), some (.int x1)] [] σ := by
  rw [b_columnOf] at h
  refine zs_aload_n hX dX13_columnOf_0 rfl rfl ?_
  refine zg_column hX dX13_columnOf_1 ?_
  refine zs_iload_n hX dX13_columnOf_4 rfl rfl ?_
  obtain ⟨b1, h⟩ := zgd_e h
  refine zl_column hX dX13_columnOf_5 (zin_ok b1) ?_
  refine zs_if_lt (tgt := 16) hX dX13_columnOf_6 (by decide) (fun c2 => ?_) (fun c2 => ?_)
  · rw [if_pos c2] at h
    refine zs_aload_n hX dX13_columnOf_16 rfl rfl ?_
    refine zg_column hX dX13_columnOf_17 ?_
    refine zs_iload_n hX dX13_columnOf_20 rfl rfl ?_
    refine zs_aload_n hX dX13_columnOf_21 rfl rfl ?_
    refine zg_columns hX dX13_columnOf_22 ?_
    obtain ⟨b3, h⟩ := zgd_e h
    obtain ⟨s4, e5, h⟩ := zlet_e h
    refine zt_column hX dX13_columnOf_25 (zin_ok b3) ?_
    rw [← e5]
    refine zs_aload_n hX dX13_columnOf_26 rfl rfl ?_
    refine zg_used hX dX13_columnOf_27 ?_
    refine zs_aload_n hX dX13_columnOf_30 rfl rfl ?_
    refine zg_columns hX dX13_columnOf_31 ?_
    refine zs_iload_n hX dX13_columnOf_34 rfl rfl ?_
    obtain ⟨b6, h⟩ := zgd_e h
    obtain ⟨s7, e8, h⟩ := zlet_e h
    refine zt_used hX dX13_columnOf_35 (zin_ok b6) ?_
    rw [← e8]
    refine zs_aload_n hX dX13_columnOf_36 rfl rfl ?_
    refine zs_dup hX dX13_columnOf_37 rfl ?_
    refine zg_columns hX dX13_columnOf_38 ?_
    refine zs_iconst (v := 1) hX dX13_columnOf_41 (by decide) ?_
    refine zs_iadd hX dX13_columnOf_42 ?_
    obtain ⟨s9, e10, h⟩ := zlet_e h
    refine zp_columns hX dX13_columnOf_43 ?_
    rw [← e10]
    refine zs_aload_n hX dX13_columnOf_46 rfl rfl ?_
    refine zg_columns hX dX13_columnOf_47 ?_
    refine zs_iconst (v := 1) hX dX13_columnOf_50 (by decide) ?_
    refine zs_isub hX dX13_columnOf_51 ?_
    exact zs_iret hX dX13_columnOf_52 rfl (Option.some.inj h)
  · rw [if_neg c2] at h
    refine zs_aload_n hX dX13_columnOf_9 rfl rfl ?_
    refine zg_column hX dX13_columnOf_10 ?_
    refine zs_iload_n hX dX13_columnOf_13 rfl rfl ?_
    obtain ⟨b11, h⟩ := zgd_e h
    refine zl_column hX dX13_columnOf_14 (zin_ok b11) ?_
    exact zs_iret hX dX13_columnOf_15 rfl (Option.some.inj h)
def j_downwards_35 (n : Nat) (call : zCl) (h0 : Nat) (qs : List Nat) (ks : Nat → Nat) (x4 : Int64) (t0 : Int32) (t1 : Int32) (σ : zSt) : zRs :=
  if t0 = t1 then
    some (some (.long x4), σ)
  else
    some (some (.long (x4 - 1)), σ)
def j_downwards_24 (n : Nat) (call : zCl) (h0 : Nat) (qs : List Nat) (ks : Nat → Nat) (x2 : Int64) (x4 : Int64) (t0 : Int32) (σ : zSt) : zRs :=
  if 0 ≤ (lg_cmp x2 0) then
    j_downwards_35 n call h0 qs ks x4 t0 0 σ
  else
    j_downwards_35 n call h0 qs ks x4 t0 1 σ
def b_downwards (n : Nat) (call : zCl) (h0 : Nat) (qs : List Nat) (ks : Nat → Nat) (x0 : Int64) (x2 : Int64) (σ : zSt) : zRs :=
  zgd (decide (¬ x2 = 0)) (
  zgd (decide (¬ x2 = 0)) (
  if (lg_cmp (x0 - x0 / x2 * x2) 0) = 0 then
    some (some (.long (x0 / x2)), σ)
  else
    if 0 ≤ (lg_cmp x0 0) then
      j_downwards_24 n call h0 qs ks x2 (x0 / x2) 0 σ
    else
      j_downwards_24 n call h0 qs ks x2 (x0 / x2) 1 σ))
set_option maxHeartbeats 4000000 in
theorem pj_downwards_35 {h0 : Nat} {qs : List Nat} {ks : Nat → Nat} {n : Nat} {call : zCl} {kc : Nat → List Value → zSt → (Option Value → zSt → Prop) → Prop} {v : Option Value × zSt} {X : Nat → zLv → List Value → zSt → Prop} (hX : zSem cX13_downwards 6 (some .long) h0 qs ks kc (fun r u => (r, u) = v) X) (hc : ∀ j av s w, call j av s = some w → kc j av s (fun r u => (r, u) = w)) {x4 : Int64} {t0 : Int32} {t1 : Int32} {σ : zSt} (h : j_downwards_35 n call h0 qs ks x4 t0 t1 σ = some v) : X 35 [none, none, none, none, some (.long x4), none] [.int t1, .int t0] σ := by
  rw [j_downwards_35] at h
  refine zs_icmp_eq (tgt := 45) hX dX13_downwards_35 (by decide) (fun c1 => ?_) (fun c1 => ?_)
  · rw [if_pos c1] at h
    refine zs_lload hX dX13_downwards_45 rfl ?_
    exact zs_lret hX dX13_downwards_47 rfl (Option.some.inj h)
  · rw [if_neg c1] at h
    refine zs_lload hX dX13_downwards_38 rfl ?_
    refine zs_lconst (v := 1) hX dX13_downwards_40 (by decide) ?_
    refine zs_lsub hX dX13_downwards_41 ?_
    refine zs_goto (tgt := 47) hX dX13_downwards_42 (by decide) ?_
    exact zs_lret hX dX13_downwards_47 rfl (Option.some.inj h)
set_option maxHeartbeats 4000000 in
theorem pj_downwards_24 {h0 : Nat} {qs : List Nat} {ks : Nat → Nat} {n : Nat} {call : zCl} {kc : Nat → List Value → zSt → (Option Value → zSt → Prop) → Prop} {v : Option Value × zSt} {X : Nat → zLv → List Value → zSt → Prop} (hX : zSem cX13_downwards 6 (some .long) h0 qs ks kc (fun r u => (r, u) = v) X) (hc : ∀ j av s w, call j av s = some w → kc j av s (fun r u => (r, u) = w)) {x2 : Int64} {x4 : Int64} {t0 : Int32} {σ : zSt} (h : j_downwards_24 n call h0 qs ks x2 x4 t0 σ = some v) : X 24 [none, none, some (.long x2), none, some (.long x4), none] [.int t0] σ := by
  rw [j_downwards_24] at h
  refine zs_lload_n hX dX13_downwards_24 rfl rfl ?_
  refine zs_lconst (v := 0) hX dX13_downwards_25 (by decide) ?_
  refine zs_lcmp hX dX13_downwards_26 ?_
  refine zs_if_ge (tgt := 34) hX dX13_downwards_27 (by decide) (fun c1 => ?_) (fun c1 => ?_)
  · rw [if_pos c1] at h
    refine zs_iconst (v := 0) hX dX13_downwards_34 (by decide) ?_
    refine zs_weak hX (lw := [none, none, none, none, some (.long x4), none]) ⟨rfl, trivial⟩ ?_
    exact pj_downwards_35 hX hc h
  · rw [if_neg c1] at h
    refine zs_iconst (v := 1) hX dX13_downwards_30 (by decide) ?_
    refine zs_goto (tgt := 35) hX dX13_downwards_31 (by decide) ?_
    refine zs_weak hX (lw := [none, none, none, none, some (.long x4), none]) ⟨rfl, trivial⟩ ?_
    exact pj_downwards_35 hX hc h
set_option maxHeartbeats 4000000 in
theorem pb_downwards {h0 : Nat} {qs : List Nat} {ks : Nat → Nat} {n : Nat} {call : zCl} {kc : Nat → List Value → zSt → (Option Value → zSt → Prop) → Prop} {v : Option Value × zSt} {X : Nat → zLv → List Value → zSt → Prop} (hX : zSem cX13_downwards 6 (some .long) h0 qs ks kc (fun r u => (r, u) = v) X) (hc : ∀ j av s w, call j av s = some w → kc j av s (fun r u => (r, u) = w)) {x0 : Int64} {x2 : Int64} {σ : zSt} (h : b_downwards n call h0 qs ks x0 x2 σ = some v) : X 0 [some (.long x0), none, some (.long x2), none, none, none] [] σ := by
  rw [b_downwards] at h
  refine zs_lload_n hX dX13_downwards_0 rfl rfl ?_
  refine zs_lload_n hX dX13_downwards_1 rfl rfl ?_
  obtain ⟨b1, h⟩ := zgd_e h
  refine zs_ldiv hX dX13_downwards_2 (znz_ok b1) ?_
  refine zs_lstore hX dX13_downwards_3 (by decide) rfl ?_
  dsimp only [List.set]
  refine zs_lload_n hX dX13_downwards_5 rfl rfl ?_
  refine zs_lload_n hX dX13_downwards_6 rfl rfl ?_
  obtain ⟨b2, h⟩ := zgd_e h
  refine zs_lrem hX dX13_downwards_7 (znz_ok b2) ?_
  refine zs_lconst (v := 0) hX dX13_downwards_8 (by decide) ?_
  refine zs_lcmp hX dX13_downwards_9 ?_
  refine zs_if_eq (tgt := 45) hX dX13_downwards_10 (by decide) (fun c3 => ?_) (fun c3 => ?_)
  · rw [if_pos c3] at h
    refine zs_lload hX dX13_downwards_45 rfl ?_
    exact zs_lret hX dX13_downwards_47 rfl (Option.some.inj h)
  · rw [if_neg c3] at h
    refine zs_lload_n hX dX13_downwards_13 rfl rfl ?_
    refine zs_lconst (v := 0) hX dX13_downwards_14 (by decide) ?_
    refine zs_lcmp hX dX13_downwards_15 ?_
    refine zs_if_ge (tgt := 23) hX dX13_downwards_16 (by decide) (fun c4 => ?_) (fun c4 => ?_)
    · rw [if_pos c4] at h
      refine zs_iconst (v := 0) hX dX13_downwards_23 (by decide) ?_
      refine zs_weak hX (lw := [none, none, some (.long x2), none, some (.long (x0 / x2)), none]) ⟨rfl, rfl, trivial⟩ ?_
      exact pj_downwards_24 hX hc h
    · rw [if_neg c4] at h
      refine zs_iconst (v := 1) hX dX13_downwards_19 (by decide) ?_
      refine zs_goto (tgt := 24) hX dX13_downwards_20 (by decide) ?_
      refine zs_weak hX (lw := [none, none, some (.long x2), none, some (.long (x0 / x2)), none]) ⟨rfl, rfl, trivial⟩ ?_
      exact pj_downwards_24 hX hc h
def b_lower_base (n : Nat) (call : zCl) (h0 : Nat) (qs : List Nat) (ks : Nat → Nat) (x2 : Int32) (x3 : Int32) (x4 : Int64) (σ : zSt) : zRs :=
  zgd (zin ((160 * x2) + x3) 25600) (
  if 0 ≤ (lg_cmp x4 (σ.2.2.2 87 (((160 * x2) + x3)).toNatClampNeg)) then
    some (none, σ)
  else
    zgd (zin ((160 * x2) + x3) 25600) (zlet (zG σ 87 (vp_updL (σ.2.2.2 87) (((160 * x2) + x3)).toNatClampNeg x4)) fun s4 =>
    some (none, s4)))
set_option maxHeartbeats 4000000 in
theorem pb_lower_base {h0 : Nat} {qs : List Nat} {ks : Nat → Nat} {n : Nat} {call : zCl} {kc : Nat → List Value → zSt → (Option Value → zSt → Prop) → Prop} {v : Option Value × zSt} {X : Nat → zLv → List Value → zSt → Prop} (hX : zSem cX13_lower 6 none h0 qs ks kc (fun r u => (r, u) = v) X) (hc : ∀ j av s w, call j av s = some w → kc j av s (fun r u => (r, u) = w)) {x2 : Int32} {x3 : Int32} {x4 : Int64} {σ : zSt} (h : b_lower_base n call h0 qs ks x2 x3 x4 σ = some v) : X 0 [some (.ref h0), some (.ref (qs.getD 87 0)), some (.int x2), some (.int x3), some (.long x4), none] [] σ := by
  rw [b_lower_base] at h
  refine zs_lload hX dX13_lower_0 rfl ?_
  refine zs_aload_n hX dX13_lower_2 rfl rfl ?_
  refine zs_sipush (v := 160) hX dX13_lower_3 (by decide) ?_
  refine zs_iload_n hX dX13_lower_6 rfl rfl ?_
  refine zs_imul hX dX13_lower_7 ?_
  refine zs_iload_n hX dX13_lower_8 rfl rfl ?_
  refine zs_iadd hX dX13_lower_9 ?_
  obtain ⟨b1, h⟩ := zgd_e h
  refine zl_base hX dX13_lower_10 (zin_ok b1) ?_
  refine zs_lcmp hX dX13_lower_11 ?_
  refine zs_if_ge (tgt := 26) hX dX13_lower_12 (by decide) (fun c2 => ?_) (fun c2 => ?_)
  · rw [if_pos c2] at h
    exact zs_vret hX dX13_lower_26 rfl (Option.some.inj h)
  · rw [if_neg c2] at h
    refine zs_aload_n hX dX13_lower_15 rfl rfl ?_
    refine zs_sipush (v := 160) hX dX13_lower_16 (by decide) ?_
    refine zs_iload_n hX dX13_lower_19 rfl rfl ?_
    refine zs_imul hX dX13_lower_20 ?_
    refine zs_iload_n hX dX13_lower_21 rfl rfl ?_
    refine zs_iadd hX dX13_lower_22 ?_
    refine zs_lload hX dX13_lower_23 rfl ?_
    obtain ⟨b3, h⟩ := zgd_e h
    obtain ⟨s4, e5, h⟩ := zlet_e h
    refine zt_base hX dX13_lower_25 (zin_ok b3) ?_
    rw [← e5]
    exact zs_vret hX dX13_lower_26 rfl (Option.some.inj h)
def b_lower_bound (n : Nat) (call : zCl) (h0 : Nat) (qs : List Nat) (ks : Nat → Nat) (x2 : Int32) (x3 : Int32) (x4 : Int64) (σ : zSt) : zRs :=
  zgd (zin ((160 * x2) + x3) 25600) (
  if 0 ≤ (lg_cmp x4 (σ.2.2.2 88 (((160 * x2) + x3)).toNatClampNeg)) then
    some (none, σ)
  else
    zgd (zin ((160 * x2) + x3) 25600) (zlet (zG σ 88 (vp_updL (σ.2.2.2 88) (((160 * x2) + x3)).toNatClampNeg x4)) fun s4 =>
    some (none, s4)))
set_option maxHeartbeats 4000000 in
theorem pb_lower_bound {h0 : Nat} {qs : List Nat} {ks : Nat → Nat} {n : Nat} {call : zCl} {kc : Nat → List Value → zSt → (Option Value → zSt → Prop) → Prop} {v : Option Value × zSt} {X : Nat → zLv → List Value → zSt → Prop} (hX : zSem cX13_lower 6 none h0 qs ks kc (fun r u => (r, u) = v) X) (hc : ∀ j av s w, call j av s = some w → kc j av s (fun r u => (r, u) = w)) {x2 : Int32} {x3 : Int32} {x4 : Int64} {σ : zSt} (h : b_lower_bound n call h0 qs ks x2 x3 x4 σ = some v) : X 0 [some (.ref h0), some (.ref (qs.getD 88 0)), some (.int x2), some (.int x3), some (.long x4), none] [] σ := by
  rw [b_lower_bound] at h
  refine zs_lload hX dX13_lower_0 rfl ?_
  refine zs_aload_n hX dX13_lower_2 rfl rfl ?_
  refine zs_sipush (v := 160) hX dX13_lower_3 (by decide) ?_
  refine zs_iload_n hX dX13_lower_6 rfl rfl ?_
  refine zs_imul hX dX13_lower_7 ?_
  refine zs_iload_n hX dX13_lower_8 rfl rfl ?_
  refine zs_iadd hX dX13_lower_9 ?_
  obtain ⟨b1, h⟩ := zgd_e h
  refine zl_bound hX dX13_lower_10 (zin_ok b1) ?_
  refine zs_lcmp hX dX13_lower_11 ?_
  refine zs_if_ge (tgt := 26) hX dX13_lower_12 (by decide) (fun c2 => ?_) (fun c2 => ?_)
  · rw [if_pos c2] at h
    exact zs_vret hX dX13_lower_26 rfl (Option.some.inj h)
  · rw [if_neg c2] at h
    refine zs_aload_n hX dX13_lower_15 rfl rfl ?_
    refine zs_sipush (v := 160) hX dX13_lower_16 (by decide) ?_
    refine zs_iload_n hX dX13_lower_19 rfl rfl ?_
    refine zs_imul hX dX13_lower_20 ?_
    refine zs_iload_n hX dX13_lower_21 rfl rfl ?_
    refine zs_iadd hX dX13_lower_22 ?_
    refine zs_lload hX dX13_lower_23 rfl ?_
    obtain ⟨b3, h⟩ := zgd_e h
    obtain ⟨s4, e5, h⟩ := zlet_e h
    refine zt_bound hX dX13_lower_25 (zin_ok b3) ?_
    rw [← e5]
    exact zs_vret hX dX13_lower_26 rfl (Option.some.inj h)
def j_atMost_base_150 (n : Nat) (call : zCl) (h0 : Nat) (qs : List Nat) (ks : Nat → Nat) (x6 : Int64) (x8 : Int32) (t0 : Int32) (t1 : Int32) (σ : zSt) : zRs :=
  zcv (call 87 [.ref h0, .ref (qs.getD 87 0), .int (t0 + t1), .int x8, .long (-x6)] σ) fun s1 =>
  zcv (call 87 [.ref h0, .ref (qs.getD 87 0), .int (x8 ^^^ 1), .int ((t0 + t1) ^^^ 1), .long (-x6)] s1) fun s3 =>
  some (some (.int 1), s3)
def j_atMost_base_133 (n : Nat) (call : zCl) (h0 : Nat) (qs : List Nat) (ks : Nat → Nat) (x4 : Int32) (x5 : Int32) (x6 : Int64) (t0 : Int32) (t1 : Int32) (σ : zSt) : zRs :=
  if x5 ≤ 0 then
    j_atMost_base_150 n call h0 qs ks x6 (t0 + t1) (2 * x4) 0 σ
  else
    j_atMost_base_150 n call h0 qs ks x6 (t0 + t1) (2 * x4) 1 σ
def j_atMost_base_99 (n : Nat) (call : zCl) (h0 : Nat) (qs : List Nat) (ks : Nat → Nat) (x10 : Int64) (t0 : Int32) (t1 : Int32) (σ : zSt) : zRs :=
  zcv (call 87 [.ref h0, .ref (qs.getD 87 0), .int ((t0 + t1) ^^^ 1), .int (t0 + t1), .long (2 * x10)] σ) fun s1 =>
  some (some (.int 1), s1)
def j_atMost_base_85 (n : Nat) (call : zCl) (h0 : Nat) (qs : List Nat) (ks : Nat → Nat) (x8 : Int32) (x9 : Int32) (x10 : Int64) (σ : zSt) : zRs :=
  if x9 ≤ 0 then
    j_atMost_base_99 n call h0 qs ks x10 (2 * x8) 1 σ
  else
    j_atMost_base_99 n call h0 qs ks x10 (2 * x8) 0 σ
def j_atMost_base_75 (n : Nat) (call : zCl) (h0 : Nat) (qs : List Nat) (ks : Nat → Nat) (x8 : Int32) (x9 : Int32) (x10 : Int64) (σ : zSt) : zRs :=
  zcl' (call 86 [.long x10, .long 2] σ) fun r3 s1 =>
  j_atMost_base_85 n call h0 qs ks x8 x9 r3 s1
def j_atMost_base_55 (n : Nat) (call : zCl) (h0 : Nat) (qs : List Nat) (ks : Nat → Nat) (x6 : Int64) (x8 : Int32) (t0 : Int32) (σ : zSt) : zRs :=
  if t0 = 2 then
    j_atMost_base_75 n call h0 qs ks x8 t0 (-x6) σ
  else
    if t0 = (-2) then
      j_atMost_base_75 n call h0 qs ks x8 t0 (-x6) σ
    else
      j_atMost_base_85 n call h0 qs ks x8 t0 (-x6) σ
def j_atMost_base_42 (n : Nat) (call : zCl) (h0 : Nat) (qs : List Nat) (ks : Nat → Nat) (x3 : Int32) (x5 : Int32) (x6 : Int64) (t0 : Int32) (σ : zSt) : zRs :=
  if x5 = 0 then
    j_atMost_base_55 n call h0 qs ks x6 t0 x3 σ
  else
    j_atMost_base_55 n call h0 qs ks x6 t0 x5 σ
def j_atMost_base_31 (n : Nat) (call : zCl) (h0 : Nat) (qs : List Nat) (ks : Nat → Nat) (x2 : Int32) (x3 : Int32) (x4 : Int32) (x5 : Int32) (x6 : Int64) (σ : zSt) : zRs :=
  if x5 = 0 then
    j_atMost_base_42 n call h0 qs ks x3 x5 x6 x2 σ
  else
    j_atMost_base_42 n call h0 qs ks x3 x5 x6 x4 σ
def j_atMost_base_22 (n : Nat) (call : zCl) (h0 : Nat) (qs : List Nat) (ks : Nat → Nat) (x2 : Int32) (x3 : Int32) (x4 : Int32) (x5 : Int32) (x6 : Int64) (σ : zSt) : zRs :=
  if x5 = 0 then
    j_atMost_base_31 n call h0 qs ks x2 x3 x4 x5 x6 σ
  else
    if x3 = 0 then
      j_atMost_base_31 n call h0 qs ks x2 x3 x4 x5 x6 σ
    else
      if x3 ≤ 0 then
        j_atMost_base_133 n call h0 qs ks x4 x5 x6 (2 * x2) 1 σ
      else
        j_atMost_base_133 n call h0 qs ks x4 x5 x6 (2 * x2) 0 σ
def b_atMost_base (n : Nat) (call : zCl) (h0 : Nat) (qs : List Nat) (ks : Nat → Nat) (x2 : Int32) (x3 : Int32) (x4 : Int32) (x5 : Int32) (x6 : Int64) (σ : zSt) : zRs :=
  if x3 = 0 then
    if x5 = 0 then
      if 0 < (lg_cmp x6 0) then
        some (some (.int 0), σ)
      else
        some (some (.int 1), σ)
    else
      j_atMost_base_22 n call h0 qs ks x2 x3 x4 x5 x6 σ
  else
    j_atMost_base_22 n call h0 qs ks x2 x3 x4 x5 x6 σ
set_option maxHeartbeats 4000000 in
theorem pj_atMost_base_150 {h0 : Nat} {qs : List Nat} {ks : Nat → Nat} {n : Nat} {call : zCl} {kc : Nat → List Value → zSt → (Option Value → zSt → Prop) → Prop} {v : Option Value × zSt} {X : Nat → zLv → List Value → zSt → Prop} (hX : zSem cX13_atMost 13 (some .boolean) h0 qs ks kc (fun r u => (r, u) = v) X) (hc : ∀ j av s w, call j av s = some w → kc j av s (fun r u => (r, u) = w)) {x6 : Int64} {x8 : Int32} {t0 : Int32} {t1 : Int32} {σ : zSt} (h : j_atMost_base_150 n call h0 qs ks x6 x8 t0 t1 σ = some v) : X 150 [some (.ref h0), some (.ref (qs.getD 87 0)), none, none, none, none, some (.long x6), none, some (.int x8), none, none, none, none] [.int t1, .int t0] σ := by
  rw [j_atMost_base_150] at h
  refine zs_iadd hX dX13_atMost_150 ?_
  refine zs_istore hX dX13_atMost_151 (by decide) rfl ?_
  dsimp only [List.set]
  refine zs_aload_n hX dX13_atMost_153 rfl rfl ?_
  refine zs_aload_n hX dX13_atMost_154 rfl rfl ?_
  refine zs_iload hX dX13_atMost_155 rfl ?_
  refine zs_iload hX dX13_atMost_157 rfl ?_
  refine zs_lload hX dX13_atMost_159 rfl ?_
  refine zs_lneg hX dX13_atMost_161 ?_
  obtain ⟨s1, e2, h⟩ := zcv_e h
  refine zc_lower hX dX13_atMost_162 (Nat.le_of_ble_eq_true rfl) (hc _ _ _ _ e2) (fun u9 h9 => ?_)
  cases h9
  refine zs_aload_n hX dX13_atMost_165 rfl rfl ?_
  refine zs_aload_n hX dX13_atMost_166 rfl rfl ?_
  refine zs_iload hX dX13_atMost_167 rfl ?_
  refine zs_iconst (v := 1) hX dX13_atMost_169 (by decide) ?_
  refine zs_ixor hX dX13_atMost_170 ?_
  refine zs_iload hX dX13_atMost_171 rfl ?_
  refine zs_iconst (v := 1) hX dX13_atMost_173 (by decide) ?_
  refine zs_ixor hX dX13_atMost_174 ?_
  refine zs_lload hX dX13_atMost_175 rfl ?_
  refine zs_lneg hX dX13_atMost_177 ?_
  obtain ⟨s3, e4, h⟩ := zcv_e h
  refine zc_lower hX dX13_atMost_178 (Nat.le_of_ble_eq_true rfl) (hc _ _ _ _ e4) (fun u9 h9 => ?_)
  cases h9
  refine zs_iconst (v := 1) hX dX13_atMost_181 (by decide) ?_
  exact zs_zret hX dX13_atMost_182 rfl (by decide) (Option.some.inj h)
set_option maxHeartbeats 4000000 in
theorem pj_atMost_base_133 {h0 : Nat} {qs : List Nat} {ks : Nat → Nat} {n : Nat} {call : zCl} {kc : Nat → List Value → zSt → (Option Value → zSt → Prop) → Prop} {v : Option Value × zSt} {X : Nat → zLv → List Value → zSt → Prop} (hX : zSem cX13_atMost 13 (some .boolean) h0 qs ks kc (fun r u => (r, u) = v) X) (hc : ∀ j av s w, call j av s = some w → kc j av s (fun r u => (r, u) = w)) {x4 : Int32} {x5 : Int32} {x6 : Int64} {t0 : Int32} {t1 : Int32} {σ : zSt} (h : j_atMost_base_133 n call h0 qs ks x4 x5 x6 t0 t1 σ = some v) : X 133 [some (.ref h0), some (.ref (qs.getD 87 0)), none, none, some (.int x4), some (.int x5), some (.long x6), none, none, none, none, none, none] [.int t1, .int t0] σ := by
  rw [j_atMost_base_133] at h
  refine zs_iadd hX dX13_atMost_133 ?_
  refine zs_istore hX dX13_atMost_134 (by decide) rfl ?_
  dsimp only [List.set]
  refine zs_iconst (v := 2) hX dX13_atMost_136 (by decide) ?_
  refine zs_iload hX dX13_atMost_137 rfl ?_
  refine zs_imul hX dX13_atMost_139 ?_
  refine zs_iload hX dX13_atMost_140 rfl ?_
  refine zs_if_le (tgt := 149) hX dX13_atMost_142 (by decide) (fun c1 => ?_) (fun c1 => ?_)
  · rw [if_pos c1] at h
    refine zs_iconst (v := 0) hX dX13_atMost_149 (by decide) ?_
    refine zs_weak hX (lw := [some (.ref h0), some (.ref (qs.getD 87 0)), none, none, none, none, some (.long x6), none, some (.int (t0 + t1)), none, none, none, none]) ⟨rfl, rfl, rfl, rfl, trivial⟩ ?_
    exact pj_atMost_base_150 hX hc h
  · rw [if_neg c1] at h
    refine zs_iconst (v := 1) hX dX13_atMost_145 (by decide) ?_
    refine zs_goto (tgt := 150) hX dX13_atMost_146 (by decide) ?_
    refine zs_weak hX (lw := [some (.ref h0), some (.ref (qs.getD 87 0)), none, none, none, none, some (.long x6), none, some (.int (t0 + t1)), none, none, none, none]) ⟨rfl, rfl, rfl, rfl, trivial⟩ ?_
    exact pj_atMost_base_150 hX hc h
set_option maxHeartbeats 4000000 in
theorem pj_atMost_base_99 {h0 : Nat} {qs : List Nat} {ks : Nat → Nat} {n : Nat} {call : zCl} {kc : Nat → List Value → zSt → (Option Value → zSt → Prop) → Prop} {v : Option Value × zSt} {X : Nat → zLv → List Value → zSt → Prop} (hX : zSem cX13_atMost 13 (some .boolean) h0 qs ks kc (fun r u => (r, u) = v) X) (hc : ∀ j av s w, call j av s = some w → kc j av s (fun r u => (r, u) = w)) {x10 : Int64} {t0 : Int32} {t1 : Int32} {σ : zSt} (h : j_atMost_base_99 n call h0 qs ks x10 t0 t1 σ = some v) : X 99 [some (.ref h0), some (.ref (qs.getD 87 0)), none, none, none, none, none, none, none, none, some (.long x10), none, none] [.int t1, .int t0] σ := by
  rw [j_atMost_base_99] at h
  refine zs_iadd hX dX13_atMost_99 ?_
  refine zs_istore hX dX13_atMost_100 (by decide) rfl ?_
  dsimp only [List.set]
  refine zs_aload_n hX dX13_atMost_102 rfl rfl ?_
  refine zs_aload_n hX dX13_atMost_103 rfl rfl ?_
  refine zs_iload hX dX13_atMost_104 rfl ?_
  refine zs_iconst (v := 1) hX dX13_atMost_106 (by decide) ?_
  refine zs_ixor hX dX13_atMost_107 ?_
  refine zs_iload hX dX13_atMost_108 rfl ?_
  refine zs_ldc2 (v := 2) hX dX13_atMost_110 (by decide) ?_
  refine zs_lload hX dX13_atMost_113 rfl ?_
  refine zs_lmul hX dX13_atMost_115 ?_
  obtain ⟨s1, e2, h⟩ := zcv_e h
  refine zc_lower hX dX13_atMost_116 (Nat.le_of_ble_eq_true rfl) (hc _ _ _ _ e2) (fun u9 h9 => ?_)
  cases h9
  refine zs_iconst (v := 1) hX dX13_atMost_119 (by decide) ?_
  exact zs_zret hX dX13_atMost_120 rfl (by decide) (Option.some.inj h)
set_option maxHeartbeats 4000000 in
theorem pj_atMost_base_85 {h0 : Nat} {qs : List Nat} {ks : Nat → Nat} {n : Nat} {call : zCl} {kc : Nat → List Value → zSt → (Option Value → zSt → Prop) → Prop} {v : Option Value × zSt} {X : Nat → zLv → List Value → zSt → Prop} (hX : zSem cX13_atMost 13 (some .boolean) h0 qs ks kc (fun r u => (r, u) = v) X) (hc : ∀ j av s w, call j av s = some w → kc j av s (fun r u => (r, u) = w)) {x8 : Int32} {x9 : Int32} {x10 : Int64} {σ : zSt} (h : j_atMost_base_85 n call h0 qs ks x8 x9 x10 σ = some v) : X 85 [some (.ref h0), some (.ref (qs.getD 87 0)), none, none, none, none, none, none, some (.int x8), some (.int x9), some (.long x10), none, none] [] σ := by
  rw [j_atMost_base_85] at h
  refine zs_iconst (v := 2) hX dX13_atMost_85 (by decide) ?_
  refine zs_iload hX dX13_atMost_86 rfl ?_
  refine zs_imul hX dX13_atMost_88 ?_
  refine zs_iload hX dX13_atMost_89 rfl ?_
  refine zs_if_le (tgt := 98) hX dX13_atMost_91 (by decide) (fun c1 => ?_) (fun c1 => ?_)
  · rw [if_pos c1] at h
    refine zs_iconst (v := 1) hX dX13_atMost_98 (by decide) ?_
    refine zs_weak hX (lw := [some (.ref h0), some (.ref (qs.getD 87 0)), none, none, none, none, none, none, none, none, some (.long x10), none, none]) ⟨rfl, rfl, rfl, trivial⟩ ?_
    exact pj_atMost_base_99 hX hc h
  · rw [if_neg c1] at h
    refine zs_iconst (v := 0) hX dX13_atMost_94 (by decide) ?_
    refine zs_goto (tgt := 99) hX dX13_atMost_95 (by decide) ?_
    refine zs_weak hX (lw := [some (.ref h0), some (.ref (qs.getD 87 0)), none, none, none, none, none, none, none, none, some (.long x10), none, none]) ⟨rfl, rfl, rfl, trivial⟩ ?_
    exact pj_atMost_base_99 hX hc h
set_option maxHeartbeats 4000000 in
theorem pj_atMost_base_75 {h0 : Nat} {qs : List Nat} {ks : Nat → Nat} {n : Nat} {call : zCl} {kc : Nat → List Value → zSt → (Option Value → zSt → Prop) → Prop} {v : Option Value × zSt} {X : Nat → zLv → List Value → zSt → Prop} (hX : zSem cX13_atMost 13 (some .boolean) h0 qs ks kc (fun r u => (r, u) = v) X) (hc : ∀ j av s w, call j av s = some w → kc j av s (fun r u => (r, u) = w)) {x8 : Int32} {x9 : Int32} {x10 : Int64} {σ : zSt} (h : j_atMost_base_75 n call h0 qs ks x8 x9 x10 σ = some v) : X 75 [some (.ref h0), some (.ref (qs.getD 87 0)), none, none, none, none, none, none, some (.int x8), some (.int x9), some (.long x10), none, none] [] σ := by
  rw [j_atMost_base_75] at h
  refine zs_lload hX dX13_atMost_75 rfl ?_
  refine zs_ldc2 (v := 2) hX dX13_atMost_77 (by decide) ?_
  obtain ⟨r3, s1, e2, h⟩ := zcl'_e h
  refine zc_downwards hX dX13_atMost_80 (Nat.le_of_ble_eq_true rfl) (hc _ _ _ _ e2) (fun r9 u9 h9 => ?_)
  cases h9
  refine zs_lstore hX dX13_atMost_83 (by decide) rfl ?_
  dsimp only [List.set]
  exact pj_atMost_base_85 hX hc h
set_option maxHeartbeats 4000000 in
theorem pj_atMost_base_55 {h0 : Nat} {qs : List Nat} {ks : Nat → Nat} {n : Nat} {call : zCl} {kc : Nat → List Value → zSt → (Option Value → zSt → Prop) → Prop} {v : Option Value × zSt} {X : Nat → zLv → List Value → zSt → Prop} (hX : zSem cX13_atMost 13 (some .boolean) h0 qs ks kc (fun r u => (r, u) = v) X) (hc : ∀ j av s w, call j av s = some w → kc j av s (fun r u => (r, u) = w)) {x6 : Int64} {x8 : Int32} {t0 : Int32} {σ : zSt} (h : j_atMost_base_55 n call h0 qs ks x6 x8 t0 σ = some v) : X 55 [some (.ref h0), some (.ref (qs.getD 87 0)), none, none, none, none, some (.long x6), none, some (.int x8), none, none, none, none] [.int t0] σ := by
  rw [j_atMost_base_55] at h
  refine zs_istore hX dX13_atMost_55 (by decide) rfl ?_
  dsimp only [List.set]
  refine zs_lload hX dX13_atMost_57 rfl ?_
  refine zs_lneg hX dX13_atMost_59 ?_
  refine zs_lstore hX dX13_atMost_60 (by decide) rfl ?_
  dsimp only [List.set]
  refine zs_iload hX dX13_atMost_62 rfl ?_
  refine zs_iconst (v := 2) hX dX13_atMost_64 (by decide) ?_
  refine zs_icmp_eq (tgt := 75) hX dX13_atMost_65 (by decide) (fun c1 => ?_) (fun c1 => ?_)
  · rw [if_pos c1] at h
    refine zs_weak hX (lw := [some (.ref h0), some (.ref (qs.getD 87 0)), none, none, none, none, none, none, some (.int x8), some (.int t0), some (.long (-x6)), none, none]) ⟨rfl, rfl, rfl, rfl, rfl, trivial⟩ ?_
    exact pj_atMost_base_75 hX hc h
  · rw [if_neg c1] at h
    refine zs_iload hX dX13_atMost_68 rfl ?_
    refine zs_bipush (v := (-2)) hX dX13_atMost_70 (by decide) ?_
    refine zs_icmp_ne (tgt := 85) hX dX13_atMost_72 (by decide) (fun c2 => ?_) (fun c2 => ?_)
    · rw [if_neg c2] at h
      refine zs_weak hX (lw := [some (.ref h0), some (.ref (qs.getD 87 0)), none, none, none, none, none, none, some (.int x8), some (.int t0), some (.long (-x6)), none, none]) ⟨rfl, rfl, rfl, rfl, rfl, trivial⟩ ?_
      exact pj_atMost_base_85 hX hc h
    · rw [if_pos c2] at h
      refine zs_weak hX (lw := [some (.ref h0), some (.ref (qs.getD 87 0)), none, none, none, none, none, none, some (.int x8), some (.int t0), some (.long (-x6)), none, none]) ⟨rfl, rfl, rfl, rfl, rfl, trivial⟩ ?_
      exact pj_atMost_base_75 hX hc h
set_option maxHeartbeats 4000000 in
theorem pj_atMost_base_42 {h0 : Nat} {qs : List Nat} {ks : Nat → Nat} {n : Nat} {call : zCl} {kc : Nat → List Value → zSt → (Option Value → zSt → Prop) → Prop} {v : Option Value × zSt} {X : Nat → zLv → List Value → zSt → Prop} (hX : zSem cX13_atMost 13 (some .boolean) h0 qs ks kc (fun r u => (r, u) = v) X) (hc : ∀ j av s w, call j av s = some w → kc j av s (fun r u => (r, u) = w)) {x3 : Int32} {x5 : Int32} {x6 : Int64} {t0 : Int32} {σ : zSt} (h : j_atMost_base_42 n call h0 qs ks x3 x5 x6 t0 σ = some v) : X 42 [some (.ref h0), some (.ref (qs.getD 87 0)), none, some (.int x3), none, some (.int x5), some (.long x6), none, none, none, none, none, none] [.int t0] σ := by
  rw [j_atMost_base_42] at h
  refine zs_istore hX dX13_atMost_42 (by decide) rfl ?_
  dsimp only [List.set]
  refine zs_iload hX dX13_atMost_44 rfl ?_
  refine zs_if_ne (tgt := 53) hX dX13_atMost_46 (by decide) (fun c1 => ?_) (fun c1 => ?_)
  · rw [if_neg c1] at h
    refine zs_iload hX dX13_atMost_53 rfl ?_
    refine zs_weak hX (lw := [some (.ref h0), some (.ref (qs.getD 87 0)), none, none, none, none, some (.long x6), none, some (.int t0), none, none, none, none]) ⟨rfl, rfl, rfl, rfl, trivial⟩ ?_
    exact pj_atMost_base_55 hX hc h
  · rw [if_pos c1] at h
    refine zs_iload_n hX dX13_atMost_49 rfl rfl ?_
    refine zs_goto (tgt := 55) hX dX13_atMost_50 (by decide) ?_
    refine zs_weak hX (lw := [some (.ref h0), some (.ref (qs.getD 87 0)), none, none, none, none, some (.long x6), none, some (.int t0), none, none, none, none]) ⟨rfl, rfl, rfl, rfl, trivial⟩ ?_
    exact pj_atMost_base_55 hX hc h
set_option maxHeartbeats 4000000 in
theorem pj_atMost_base_31 {h0 : Nat} {qs : List Nat} {ks : Nat → Nat} {n : Nat} {call : zCl} {kc : Nat → List Value → zSt → (Option Value → zSt → Prop) → Prop} {v : Option Value × zSt} {X : Nat → zLv → List Value → zSt → Prop} (hX : zSem cX13_atMost 13 (some .boolean) h0 qs ks kc (fun r u => (r, u) = v) X) (hc : ∀ j av s w, call j av s = some w → kc j av s (fun r u => (r, u) = w)) {x2 : Int32} {x3 : Int32} {x4 : Int32} {x5 : Int32} {x6 : Int64} {σ : zSt} (h : j_atMost_base_31 n call h0 qs ks x2 x3 x4 x5 x6 σ = some v) : X 31 [some (.ref h0), some (.ref (qs.getD 87 0)), some (.int x2), some (.int x3), some (.int x4), some (.int x5), some (.long x6), none, none, none, none, none, none] [] σ := by
  rw [j_atMost_base_31] at h
  refine zs_iload hX dX13_atMost_31 rfl ?_
  refine zs_if_ne (tgt := 40) hX dX13_atMost_33 (by decide) (fun c1 => ?_) (fun c1 => ?_)
  · rw [if_neg c1] at h
    refine zs_iload hX dX13_atMost_40 rfl ?_
    refine zs_weak hX (lw := [some (.ref h0), some (.ref (qs.getD 87 0)), none, some (.int x3), none, some (.int x5), some (.long x6), none, none, none, none, none, none]) ⟨rfl, rfl, rfl, rfl, rfl, trivial⟩ ?_
    exact pj_atMost_base_42 hX hc h
  · rw [if_pos c1] at h
    refine zs_iload_n hX dX13_atMost_36 rfl rfl ?_
    refine zs_goto (tgt := 42) hX dX13_atMost_37 (by decide) ?_
    refine zs_weak hX (lw := [some (.ref h0), some (.ref (qs.getD 87 0)), none, some (.int x3), none, some (.int x5), some (.long x6), none, none, none, none, none, none]) ⟨rfl, rfl, rfl, rfl, rfl, trivial⟩ ?_
    exact pj_atMost_base_42 hX hc h
set_option maxHeartbeats 4000000 in
theorem pj_atMost_base_22 {h0 : Nat} {qs : List Nat} {ks : Nat → Nat} {n : Nat} {call : zCl} {kc : Nat → List Value → zSt → (Option Value → zSt → Prop) → Prop} {v : Option Value × zSt} {X : Nat → zLv → List Value → zSt → Prop} (hX : zSem cX13_atMost 13 (some .boolean) h0 qs ks kc (fun r u => (r, u) = v) X) (hc : ∀ j av s w, call j av s = some w → kc j av s (fun r u => (r, u) = w)) {x2 : Int32} {x3 : Int32} {x4 : Int32} {x5 : Int32} {x6 : Int64} {σ : zSt} (h : j_atMost_base_22 n call h0 qs ks x2 x3 x4 x5 x6 σ = some v) : X 22 [some (.ref h0), some (.ref (qs.getD 87 0)), some (.int x2), some (.int x3), some (.int x4), some (.int x5), some (.long x6), none, none, none, none, none, none] [] σ := by
  rw [j_atMost_base_22] at h
  refine zs_iload hX dX13_atMost_22 rfl ?_
  refine zs_if_eq (tgt := 31) hX dX13_atMost_24 (by decide) (fun c1 => ?_) (fun c1 => ?_)
  · rw [if_pos c1] at h
    exact pj_atMost_base_31 hX hc h
  · rw [if_neg c1] at h
    refine zs_iload_n hX dX13_atMost_27 rfl rfl ?_
    refine zs_if_ne (tgt := 121) hX dX13_atMost_28 (by decide) (fun c2 => ?_) (fun c2 => ?_)
    · rw [if_neg c2] at h
      refine zs_iconst (v := 2) hX dX13_atMost_121 (by decide) ?_
      refine zs_iload_n hX dX13_atMost_122 rfl rfl ?_
      refine zs_imul hX dX13_atMost_123 ?_
      refine zs_iload_n hX dX13_atMost_124 rfl rfl ?_
      refine zs_if_le (tgt := 132) hX dX13_atMost_125 (by decide) (fun c3 => ?_) (fun c3 => ?_)
      · rw [if_pos c3] at h
        refine zs_iconst (v := 1) hX dX13_atMost_132 (by decide) ?_
        refine zs_weak hX (lw := [some (.ref h0), some (.ref (qs.getD 87 0)), none, none, some (.int x4), some (.int x5), some (.long x6), none, none, none, none, none, none]) ⟨rfl, rfl, rfl, rfl, rfl, trivial⟩ ?_
        exact pj_atMost_base_133 hX hc h
      · rw [if_neg c3] at h
        refine zs_iconst (v := 0) hX dX13_atMost_128 (by decide) ?_
        refine zs_goto (tgt := 133) hX dX13_atMost_129 (by decide) ?_
        refine zs_weak hX (lw := [some (.ref h0), some (.ref (qs.getD 87 0)), none, none, some (.int x4), some (.int x5), some (.long x6), none, none, none, none, none, none]) ⟨rfl, rfl, rfl, rfl, rfl, trivial⟩ ?_
        exact pj_atMost_base_133 hX hc h
    · rw [if_pos c2] at h
      exact pj_atMost_base_31 hX hc h
set_option maxHeartbeats 4000000 in
theorem pb_atMost_base {h0 : Nat} {qs : List Nat} {ks : Nat → Nat} {n : Nat} {call : zCl} {kc : Nat → List Value → zSt → (Option Value → zSt → Prop) → Prop} {v : Option Value × zSt} {X : Nat → zLv → List Value → zSt → Prop} (hX : zSem cX13_atMost 13 (some .boolean) h0 qs ks kc (fun r u => (r, u) = v) X) (hc : ∀ j av s w, call j av s = some w → kc j av s (fun r u => (r, u) = w)) {x2 : Int32} {x3 : Int32} {x4 : Int32} {x5 : Int32} {x6 : Int64} {σ : zSt} (h : b_atMost_base n call h0 qs ks x2 x3 x4 x5 x6 σ = some v) : X 0 [some (.ref h0), some (.ref (qs.getD 87 0)), some (.int x2), some (.int x3), some (.int x4), some (.int x5), some (.long x6), none, none, none, none, none, none] [] σ := by
  rw [b_atMost_base] at h
  refine zs_iload_n hX dX13_atMost_0 rfl rfl ?_
  refine zs_if_ne (tgt := 22) hX dX13_atMost_1 (by decide) (fun c1 => ?_) (fun c1 => ?_)
  · rw [if_neg c1] at h
    exact pj_atMost_base_22 hX hc h
  · rw [if_pos c1] at h
    refine zs_iload hX dX13_atMost_4 rfl ?_
    refine zs_if_ne (tgt := 22) hX dX13_atMost_6 (by decide) (fun c2 => ?_) (fun c2 => ?_)
    · rw [if_neg c2] at h
      exact pj_atMost_base_22 hX hc h
    · rw [if_pos c2] at h
      refine zs_lload hX dX13_atMost_9 rfl ?_
      refine zs_lconst (v := 0) hX dX13_atMost_11 (by decide) ?_
      refine zs_lcmp hX dX13_atMost_12 ?_
      refine zs_if_gt (tgt := 20) hX dX13_atMost_13 (by decide) (fun c3 => ?_) (fun c3 => ?_)
      · rw [if_pos c3] at h
        refine zs_iconst (v := 0) hX dX13_atMost_20 (by decide) ?_
        exact zs_zret hX dX13_atMost_21 rfl (by decide) (Option.some.inj h)
      · rw [if_neg c3] at h
        refine zs_iconst (v := 1) hX dX13_atMost_16 (by decide) ?_
        refine zs_goto (tgt := 21) hX dX13_atMost_17 (by decide) ?_
        exact zs_zret hX dX13_atMost_21 rfl (by decide) (Option.some.inj h)
def j_atMost_bound_150 (n : Nat) (call : zCl) (h0 : Nat) (qs : List Nat) (ks : Nat → Nat) (x6 : Int64) (x8 : Int32) (t0 : Int32) (t1 : Int32) (σ : zSt) : zRs :=
  zcv (call 87 [.ref h0, .ref (qs.getD 88 0), .int (t0 + t1), .int x8, .long (-x6)] σ) fun s1 =>
  zcv (call 87 [.ref h0, .ref (qs.getD 88 0), .int (x8 ^^^ 1), .int ((t0 + t1) ^^^ 1), .long (-x6)] s1) fun s3 =>
  some (some (.int 1), s3)
def j_atMost_bound_133 (n : Nat) (call : zCl) (h0 : Nat) (qs : List Nat) (ks : Nat → Nat) (x4 : Int32) (x5 : Int32) (x6 : Int64) (t0 : Int32) (t1 : Int32) (σ : zSt) : zRs :=
  if x5 ≤ 0 then
    j_atMost_bound_150 n call h0 qs ks x6 (t0 + t1) (2 * x4) 0 σ
  else
    j_atMost_bound_150 n call h0 qs ks x6 (t0 + t1) (2 * x4) 1 σ
def j_atMost_bound_99 (n : Nat) (call : zCl) (h0 : Nat) (qs : List Nat) (ks : Nat → Nat) (x10 : Int64) (t0 : Int32) (t1 : Int32) (σ : zSt) : zRs :=
  zcv (call 87 [.ref h0, .ref (qs.getD 88 0), .int ((t0 + t1) ^^^ 1), .int (t0 + t1), .long (2 * x10)] σ) fun s1 =>
  some (some (.int 1), s1)
def j_atMost_bound_85 (n : Nat) (call : zCl) (h0 : Nat) (qs : List Nat) (ks : Nat → Nat) (x8 : Int32) (x9 : Int32) (x10 : Int64) (σ : zSt) : zRs :=
  if x9 ≤ 0 then
    j_atMost_bound_99 n call h0 qs ks x10 (2 * x8) 1 σ
  else
    j_atMost_bound_99 n call h0 qs ks x10 (2 * x8) 0 σ
def j_atMost_bound_75 (n : Nat) (call : zCl) (h0 : Nat) (qs : List Nat) (ks : Nat → Nat) (x8 : Int32) (x9 : Int32) (x10 : Int64) (σ : zSt) : zRs :=
  zcl' (call 86 [.long x10, .long 2] σ) fun r3 s1 =>
  j_atMost_bound_85 n call h0 qs ks x8 x9 r3 s1
def j_atMost_bound_55 (n : Nat) (call : zCl) (h0 : Nat) (qs : List Nat) (ks : Nat → Nat) (x6 : Int64) (x8 : Int32) (t0 : Int32) (σ : zSt) : zRs :=
  if t0 = 2 then
    j_atMost_bound_75 n call h0 qs ks x8 t0 (-x6) σ
  else
    if t0 = (-2) then
      j_atMost_bound_75 n call h0 qs ks x8 t0 (-x6) σ
    else
      j_atMost_bound_85 n call h0 qs ks x8 t0 (-x6) σ
def j_atMost_bound_42 (n : Nat) (call : zCl) (h0 : Nat) (qs : List Nat) (ks : Nat → Nat) (x3 : Int32) (x5 : Int32) (x6 : Int64) (t0 : Int32) (σ : zSt) : zRs :=
  if x5 = 0 then
    j_atMost_bound_55 n call h0 qs ks x6 t0 x3 σ
  else
    j_atMost_bound_55 n call h0 qs ks x6 t0 x5 σ
def j_atMost_bound_31 (n : Nat) (call : zCl) (h0 : Nat) (qs : List Nat) (ks : Nat → Nat) (x2 : Int32) (x3 : Int32) (x4 : Int32) (x5 : Int32) (x6 : Int64) (σ : zSt) : zRs :=
  if x5 = 0 then
    j_atMost_bound_42 n call h0 qs ks x3 x5 x6 x2 σ
  else
    j_atMost_bound_42 n call h0 qs ks x3 x5 x6 x4 σ
def j_atMost_bound_22 (n : Nat) (call : zCl) (h0 : Nat) (qs : List Nat) (ks : Nat → Nat) (x2 : Int32) (x3 : Int32) (x4 : Int32) (x5 : Int32) (x6 : Int64) (σ : zSt) : zRs :=
  if x5 = 0 then
    j_atMost_bound_31 n call h0 qs ks x2 x3 x4 x5 x6 σ
  else
    if x3 = 0 then
      j_atMost_bound_31 n call h0 qs ks x2 x3 x4 x5 x6 σ
    else
      if x3 ≤ 0 then
        j_atMost_bound_133 n call h0 qs ks x4 x5 x6 (2 * x2) 1 σ
      else
        j_atMost_bound_133 n call h0 qs ks x4 x5 x6 (2 * x2) 0 σ
def b_atMost_bound (n : Nat) (call : zCl) (h0 : Nat) (qs : List Nat) (ks : Nat → Nat) (x2 : Int32) (x3 : Int32) (x4 : Int32) (x5 : Int32) (x6 : Int64) (σ : zSt) : zRs :=
  if x3 = 0 then
    if x5 = 0 then
      if 0 < (lg_cmp x6 0) then
        some (some (.int 0), σ)
      else
        some (some (.int 1), σ)
    else
      j_atMost_bound_22 n call h0 qs ks x2 x3 x4 x5 x6 σ
  else
    j_atMost_bound_22 n call h0 qs ks x2 x3 x4 x5 x6 σ
set_option maxHeartbeats 4000000 in
theorem pj_atMost_bound_150 {h0 : Nat} {qs : List Nat} {ks : Nat → Nat} {n : Nat} {call : zCl} {kc : Nat → List Value → zSt → (Option Value → zSt → Prop) → Prop} {v : Option Value × zSt} {X : Nat → zLv → List Value → zSt → Prop} (hX : zSem cX13_atMost 13 (some .boolean) h0 qs ks kc (fun r u => (r, u) = v) X) (hc : ∀ j av s w, call j av s = some w → kc j av s (fun r u => (r, u) = w)) {x6 : Int64} {x8 : Int32} {t0 : Int32} {t1 : Int32} {σ : zSt} (h : j_atMost_bound_150 n call h0 qs ks x6 x8 t0 t1 σ = some v) : X 150 [some (.ref h0), some (.ref (qs.getD 88 0)), none, none, none, none, some (.long x6), none, some (.int x8), none, none, none, none] [.int t1, .int t0] σ := by
  rw [j_atMost_bound_150] at h
  refine zs_iadd hX dX13_atMost_150 ?_
  refine zs_istore hX dX13_atMost_151 (by decide) rfl ?_
  dsimp only [List.set]
  refine zs_aload_n hX dX13_atMost_153 rfl rfl ?_
  refine zs_aload_n hX dX13_atMost_154 rfl rfl ?_
  refine zs_iload hX dX13_atMost_155 rfl ?_
  refine zs_iload hX dX13_atMost_157 rfl ?_
  refine zs_lload hX dX13_atMost_159 rfl ?_
  refine zs_lneg hX dX13_atMost_161 ?_
  obtain ⟨s1, e2, h⟩ := zcv_e h
  refine zc_lower hX dX13_atMost_162 (Nat.le_of_ble_eq_true rfl) (hc _ _ _ _ e2) (fun u9 h9 => ?_)
  cases h9
  refine zs_aload_n hX dX13_atMost_165 rfl rfl ?_
  refine zs_aload_n hX dX13_atMost_166 rfl rfl ?_
  refine zs_iload hX dX13_atMost_167 rfl ?_
  refine zs_iconst (v := 1) hX dX13_atMost_169 (by decide) ?_
  refine zs_ixor hX dX13_atMost_170 ?_
  refine zs_iload hX dX13_atMost_171 rfl ?_
  refine zs_iconst (v := 1) hX dX13_atMost_173 (by decide) ?_
  refine zs_ixor hX dX13_atMost_174 ?_
  refine zs_lload hX dX13_atMost_175 rfl ?_
  refine zs_lneg hX dX13_atMost_177 ?_
  obtain ⟨s3, e4, h⟩ := zcv_e h
  refine zc_lower hX dX13_atMost_178 (Nat.le_of_ble_eq_true rfl) (hc _ _ _ _ e4) (fun u9 h9 => ?_)
  cases h9
  refine zs_iconst (v := 1) hX dX13_atMost_181 (by decide) ?_
  exact zs_zret hX dX13_atMost_182 rfl (by decide) (Option.some.inj h)
set_option maxHeartbeats 4000000 in
theorem pj_atMost_bound_133 {h0 : Nat} {qs : List Nat} {ks : Nat → Nat} {n : Nat} {call : zCl} {kc : Nat → List Value → zSt → (Option Value → zSt → Prop) → Prop} {v : Option Value × zSt} {X : Nat → zLv → List Value → zSt → Prop} (hX : zSem cX13_atMost 13 (some .boolean) h0 qs ks kc (fun r u => (r, u) = v) X) (hc : ∀ j av s w, call j av s = some w → kc j av s (fun r u => (r, u) = w)) {x4 : Int32} {x5 : Int32} {x6 : Int64} {t0 : Int32} {t1 : Int32} {σ : zSt} (h : j_atMost_bound_133 n call h0 qs ks x4 x5 x6 t0 t1 σ = some v) : X 133 [some (.ref h0), some (.ref (qs.getD 88 0)), none, none, some (.int x4), some (.int x5), some (.long x6), none, none, none, none, none, none] [.int t1, .int t0] σ := by
  rw [j_atMost_bound_133] at h
  refine zs_iadd hX dX13_atMost_133 ?_
  refine zs_istore hX dX13_atMost_134 (by decide) rfl ?_
  dsimp only [List.set]
  refine zs_iconst (v := 2) hX dX13_atMost_136 (by decide) ?_
  refine zs_iload hX dX13_atMost_137 rfl ?_
  refine zs_imul hX dX13_atMost_139 ?_
  refine zs_iload hX dX13_atMost_140 rfl ?_
  refine zs_if_le (tgt := 149) hX dX13_atMost_142 (by decide) (fun c1 => ?_) (fun c1 => ?_)
  · rw [if_pos c1] at h
    refine zs_iconst (v := 0) hX dX13_atMost_149 (by decide) ?_
    refine zs_weak hX (lw := [some (.ref h0), some (.ref (qs.getD 88 0)), none, none, none, none, some (.long x6), none, some (.int (t0 + t1)), none, none, none, none]) ⟨rfl, rfl, rfl, rfl, trivial⟩ ?_
    exact pj_atMost_bound_150 hX hc h
  · rw [if_neg c1] at h
    refine zs_iconst (v := 1) hX dX13_atMost_145 (by decide) ?_
    refine zs_goto (tgt := 150) hX dX13_atMost_146 (by decide) ?_
    refine zs_weak hX (lw := [some (.ref h0), some (.ref (qs.getD 88 0)), none, none, none, none, some (.long x6), none, some (.int (t0 + t1)), none, none, none, none]) ⟨rfl, rfl, rfl, rfl, trivial⟩ ?_
    exact pj_atMost_bound_150 hX hc h
set_option maxHeartbeats 4000000 in
theorem pj_atMost_bound_99 {h0 : Nat} {qs : List Nat} {ks : Nat → Nat} {n : Nat} {call : zCl} {kc : Nat → List Value → zSt → (Option Value → zSt → Prop) → Prop} {v : Option Value × zSt} {X : Nat → zLv → List Value → zSt → Prop} (hX : zSem cX13_atMost 13 (some .boolean) h0 qs ks kc (fun r u => (r, u) = v) X) (hc : ∀ j av s w, call j av s = some w → kc j av s (fun r u => (r, u) = w)) {x10 : Int64} {t0 : Int32} {t1 : Int32} {σ : zSt} (h : j_atMost_bound_99 n call h0 qs ks x10 t0 t1 σ = some v) : X 99 [some (.ref h0), some (.ref (qs.getD 88 0)), none, none, none, none, none, none, none, none, some (.long x10), none, none] [.int t1, .int t0] σ := by
  rw [j_atMost_bound_99] at h
  refine zs_iadd hX dX13_atMost_99 ?_
  refine zs_istore hX dX13_atMost_100 (by decide) rfl ?_
  dsimp only [List.set]
  refine zs_aload_n hX dX13_atMost_102 rfl rfl ?_
  refine zs_aload_n hX dX13_atMost_103 rfl rfl ?_
  refine zs_iload hX dX13_atMost_104 rfl ?_
  refine zs_iconst (v := 1) hX dX13_atMost_106 (by decide) ?_
  refine zs_ixor hX dX13_atMost_107 ?_
  refine zs_iload hX dX13_atMost_108 rfl ?_
  refine zs_ldc2 (v := 2) hX dX13_atMost_110 (by decide) ?_
  refine zs_lload hX dX13_atMost_113 rfl ?_
  refine zs_lmul hX dX13_atMost_115 ?_
  obtain ⟨s1, e2, h⟩ := zcv_e h
  refine zc_lower hX dX13_atMost_116 (Nat.le_of_ble_eq_true rfl) (hc _ _ _ _ e2) (fun u9 h9 => ?_)
  cases h9
  refine zs_iconst (v := 1) hX dX13_atMost_119 (by decide) ?_
  exact zs_zret hX dX13_atMost_120 rfl (by decide) (Option.some.inj h)
set_option maxHeartbeats 4000000 in
theorem pj_atMost_bound_85 {h0 : Nat} {qs : List Nat} {ks : Nat → Nat} {n : Nat} {call : zCl} {kc : Nat → List Value → zSt → (Option Value → zSt → Prop) → Prop} {v : Option Value × zSt} {X : Nat → zLv → List Value → zSt → Prop} (hX : zSem cX13_atMost 13 (some .boolean) h0 qs ks kc (fun r u => (r, u) = v) X) (hc : ∀ j av s w, call j av s = some w → kc j av s (fun r u => (r, u) = w)) {x8 : Int32} {x9 : Int32} {x10 : Int64} {σ : zSt} (h : j_atMost_bound_85 n call h0 qs ks x8 x9 x10 σ = some v) : X 85 [some (.ref h0), some (.ref (qs.getD 88 0)), none, none, none, none, none, none, some (.int x8), some (.int x9), some (.long x10), none, none] [] σ := by
  rw [j_atMost_bound_85] at h
  refine zs_iconst (v := 2) hX dX13_atMost_85 (by decide) ?_
  refine zs_iload hX dX13_atMost_86 rfl ?_
  refine zs_imul hX dX13_atMost_88 ?_
  refine zs_iload hX dX13_atMost_89 rfl ?_
  refine zs_if_le (tgt := 98) hX dX13_atMost_91 (by decide) (fun c1 => ?_) (fun c1 => ?_)
  · rw [if_pos c1] at h
    refine zs_iconst (v := 1) hX dX13_atMost_98 (by decide) ?_
    refine zs_weak hX (lw := [some (.ref h0), some (.ref (qs.getD 88 0)), none, none, none, none, none, none, none, none, some (.long x10), none, none]) ⟨rfl, rfl, rfl, trivial⟩ ?_
    exact pj_atMost_bound_99 hX hc h
  · rw [if_neg c1] at h
    refine zs_iconst (v := 0) hX dX13_atMost_94 (by decide) ?_
    refine zs_goto (tgt := 99) hX dX13_atMost_95 (by decide) ?_
    refine zs_weak hX (lw := [some (.ref h0), some (.ref (qs.getD 88 0)), none, none, none, none, none, none, none, none, some (.long x10), none, none]) ⟨rfl, rfl, rfl, trivial⟩ ?_
    exact pj_atMost_bound_99 hX hc h
set_option maxHeartbeats 4000000 in
theorem pj_atMost_bound_75 {h0 : Nat} {qs : List Nat} {ks : Nat → Nat} {n : Nat} {call : zCl} {kc : Nat → List Value → zSt → (Option Value → zSt → Prop) → Prop} {v : Option Value × zSt} {X : Nat → zLv → List Value → zSt → Prop} (hX : zSem cX13_atMost 13 (some .boolean) h0 qs ks kc (fun r u => (r, u) = v) X) (hc : ∀ j av s w, call j av s = some w → kc j av s (fun r u => (r, u) = w)) {x8 : Int32} {x9 : Int32} {x10 : Int64} {σ : zSt} (h : j_atMost_bound_75 n call h0 qs ks x8 x9 x10 σ = some v) : X 75 [some (.ref h0), some (.ref (qs.getD 88 0)), none, none, none, none, none, none, some (.int x8), some (.int x9), some (.long x10), none, none] [] σ := by
  rw [j_atMost_bound_75] at h
  refine zs_lload hX dX13_atMost_75 rfl ?_
  refine zs_ldc2 (v := 2) hX dX13_atMost_77 (by decide) ?_
  obtain ⟨r3, s1, e2, h⟩ := zcl'_e h
  refine zc_downwards hX dX13_atMost_80 (Nat.le_of_ble_eq_true rfl) (hc _ _ _ _ e2) (fun r9 u9 h9 => ?_)
  cases h9
  refine zs_lstore hX dX13_atMost_83 (by decide) rfl ?_
  dsimp only [List.set]
  exact pj_atMost_bound_85 hX hc h
set_option maxHeartbeats 4000000 in
theorem pj_atMost_bound_55 {h0 : Nat} {qs : List Nat} {ks : Nat → Nat} {n : Nat} {call : zCl} {kc : Nat → List Value → zSt → (Option Value → zSt → Prop) → Prop} {v : Option Value × zSt} {X : Nat → zLv → List Value → zSt → Prop} (hX : zSem cX13_atMost 13 (some .boolean) h0 qs ks kc (fun r u => (r, u) = v) X) (hc : ∀ j av s w, call j av s = some w → kc j av s (fun r u => (r, u) = w)) {x6 : Int64} {x8 : Int32} {t0 : Int32} {σ : zSt} (h : j_atMost_bound_55 n call h0 qs ks x6 x8 t0 σ = some v) : X 55 [some (.ref h0), some (.ref (qs.getD 88 0)), none, none, none, none, some (.long x6), none, some (.int x8), none, none, none, none] [.int t0] σ := by
  rw [j_atMost_bound_55] at h
  refine zs_istore hX dX13_atMost_55 (by decide) rfl ?_
  dsimp only [List.set]
  refine zs_lload hX dX13_atMost_57 rfl ?_
  refine zs_lneg hX dX13_atMost_59 ?_
  refine zs_lstore hX dX13_atMost_60 (by decide) rfl ?_
  dsimp only [List.set]
  refine zs_iload hX dX13_atMost_62 rfl ?_
  refine zs_iconst (v := 2) hX dX13_atMost_64 (by decide) ?_
  refine zs_icmp_eq (tgt := 75) hX dX13_atMost_65 (by decide) (fun c1 => ?_) (fun c1 => ?_)
  · rw [if_pos c1] at h
    refine zs_weak hX (lw := [some (.ref h0), some (.ref (qs.getD 88 0)), none, none, none, none, none, none, some (.int x8), some (.int t0), some (.long (-x6)), none, none]) ⟨rfl, rfl, rfl, rfl, rfl, trivial⟩ ?_
    exact pj_atMost_bound_75 hX hc h
  · rw [if_neg c1] at h
    refine zs_iload hX dX13_atMost_68 rfl ?_
    refine zs_bipush (v := (-2)) hX dX13_atMost_70 (by decide) ?_
    refine zs_icmp_ne (tgt := 85) hX dX13_atMost_72 (by decide) (fun c2 => ?_) (fun c2 => ?_)
    · rw [if_neg c2] at h
      refine zs_weak hX (lw := [some (.ref h0), some (.ref (qs.getD 88 0)), none, none, none, none, none, none, some (.int x8), some (.int t0), some (.long (-x6)), none, none]) ⟨rfl, rfl, rfl, rfl, rfl, trivial⟩ ?_
      exact pj_atMost_bound_85 hX hc h
    · rw [if_pos c2] at h
      refine zs_weak hX (lw := [some (.ref h0), some (.ref (qs.getD 88 0)), none, none, none, none, none, none, some (.int x8), some (.int t0), some (.long (-x6)), none, none]) ⟨rfl, rfl, rfl, rfl, rfl, trivial⟩ ?_
      exact pj_atMost_bound_75 hX hc h
set_option maxHeartbeats 4000000 in
theorem pj_atMost_bound_42 {h0 : Nat} {qs : List Nat} {ks : Nat → Nat} {n : Nat} {call : zCl} {kc : Nat → List Value → zSt → (Option Value → zSt → Prop) → Prop} {v : Option Value × zSt} {X : Nat → zLv → List Value → zSt → Prop} (hX : zSem cX13_atMost 13 (some .boolean) h0 qs ks kc (fun r u => (r, u) = v) X) (hc : ∀ j av s w, call j av s = some w → kc j av s (fun r u => (r, u) = w)) {x3 : Int32} {x5 : Int32} {x6 : Int64} {t0 : Int32} {σ : zSt} (h : j_atMost_bound_42 n call h0 qs ks x3 x5 x6 t0 σ = some v) : X 42 [some (.ref h0), some (.ref (qs.getD 88 0)), none, some (.int x3), none, some (.int x5), some (.long x6), none, none, none, none, none, none] [.int t0] σ := by
  rw [j_atMost_bound_42] at h
  refine zs_istore hX dX13_atMost_42 (by decide) rfl ?_
  dsimp only [List.set]
  refine zs_iload hX dX13_atMost_44 rfl ?_
  refine zs_if_ne (tgt := 53) hX dX13_atMost_46 (by decide) (fun c1 => ?_) (fun c1 => ?_)
  · rw [if_neg c1] at h
    refine zs_iload hX dX13_atMost_53 rfl ?_
    refine zs_weak hX (lw := [some (.ref h0), some (.ref (qs.getD 88 0)), none, none, none, none, some (.long x6), none, some (.int t0), none, none, none, none]) ⟨rfl, rfl, rfl, rfl, trivial⟩ ?_
    exact pj_atMost_bound_55 hX hc h
  · rw [if_pos c1] at h
    refine zs_iload_n hX dX13_atMost_49 rfl rfl ?_
    refine zs_goto (tgt := 55) hX dX13_atMost_50 (by decide) ?_
    refine zs_weak hX (lw := [some (.ref h0), some (.ref (qs.getD 88 0)), none, none, none, none, some (.long x6), none, some (.int t0), none, none, none, none]) ⟨rfl, rfl, rfl, rfl, trivial⟩ ?_
    exact pj_atMost_bound_55 hX hc h
set_option maxHeartbeats 4000000 in
theorem pj_atMost_bound_31 {h0 : Nat} {qs : List Nat} {ks : Nat → Nat} {n : Nat} {call : zCl} {kc : Nat → List Value → zSt → (Option Value → zSt → Prop) → Prop} {v : Option Value × zSt} {X : Nat → zLv → List Value → zSt → Prop} (hX : zSem cX13_atMost 13 (some .boolean) h0 qs ks kc (fun r u => (r, u) = v) X) (hc : ∀ j av s w, call j av s = some w → kc j av s (fun r u => (r, u) = w)) {x2 : Int32} {x3 : Int32} {x4 : Int32} {x5 : Int32} {x6 : Int64} {σ : zSt} (h : j_atMost_bound_31 n call h0 qs ks x2 x3 x4 x5 x6 σ = some v) : X 31 [some (.ref h0), some (.ref (qs.getD 88 0)), some (.int x2), some (.int x3), some (.int x4), some (.int x5), some (.long x6), none, none, none, none, none, none] [] σ := by
  rw [j_atMost_bound_31] at h
  refine zs_iload hX dX13_atMost_31 rfl ?_
  refine zs_if_ne (tgt := 40) hX dX13_atMost_33 (by decide) (fun c1 => ?_) (fun c1 => ?_)
  · rw [if_neg c1] at h
    refine zs_iload hX dX13_atMost_40 rfl ?_
    refine zs_weak hX (lw := [some (.ref h0), some (.ref (qs.getD 88 0)), none, some (.int x3), none, some (.int x5), some (.long x6), none, none, none, none, none, none]) ⟨rfl, rfl, rfl, rfl, rfl, trivial⟩ ?_
    exact pj_atMost_bound_42 hX hc h
  · rw [if_pos c1] at h
    refine zs_iload_n hX dX13_atMost_36 rfl rfl ?_
    refine zs_goto (tgt := 42) hX dX13_atMost_37 (by decide) ?_
    refine zs_weak hX (lw := [some (.ref h0), some (.ref (qs.getD 88 0)), none, some (.int x3), none, some (.int x5), some (.long x6), none, none, none, none, none, none]) ⟨rfl, rfl, rfl, rfl, rfl, trivial⟩ ?_
    exact pj_atMost_bound_42 hX hc h
set_option maxHeartbeats 4000000 in
theorem pj_atMost_bound_22 {h0 : Nat} {qs : List Nat} {ks : Nat → Nat} {n : Nat} {call : zCl} {kc : Nat → List Value → zSt → (Option Value → zSt → Prop) → Prop} {v : Option Value × zSt} {X : Nat → zLv → List Value → zSt → Prop} (hX : zSem cX13_atMost 13 (some .boolean) h0 qs ks kc (fun r u => (r, u) = v) X) (hc : ∀ j av s w, call j av s = some w → kc j av s (fun r u => (r, u) = w)) {x2 : Int32} {x3 : Int32} {x4 : Int32} {x5 : Int32} {x6 : Int64} {σ : zSt} (h : j_atMost_bound_22 n call h0 qs ks x2 x3 x4 x5 x6 σ = some v) : X 22 [some (.ref h0), some (.ref (qs.getD 88 0)), some (.int x2), some (.int x3), some (.int x4), some (.int x5), some (.long x6), none, none, none, none, none, none] [] σ := by
  rw [j_atMost_bound_22] at h
  refine zs_iload hX dX13_atMost_22 rfl ?_
  refine zs_if_eq (tgt := 31) hX dX13_atMost_24 (by decide) (fun c1 => ?_) (fun c1 => ?_)
  · rw [if_pos c1] at h
    exact pj_atMost_bound_31 hX hc h
  · rw [if_neg c1] at h
    refine zs_iload_n hX dX13_atMost_27 rfl rfl ?_
    refine zs_if_ne (tgt := 121) hX dX13_atMost_28 (by decide) (fun c2 => ?_) (fun c2 => ?_)
    · rw [if_neg c2] at h
      refine zs_iconst (v := 2) hX dX13_atMost_121 (by decide) ?_
      refine zs_iload_n hX dX13_atMost_122 rfl rfl ?_
      refine zs_imul hX dX13_atMost_123 ?_
      refine zs_iload_n hX dX13_atMost_124 rfl rfl ?_
      refine zs_if_le (tgt := 132) hX dX13_atMost_125 (by decide) (fun c3 => ?_) (fun c3 => ?_)
      · rw [if_pos c3] at h
        refine zs_iconst (v := 1) hX dX13_atMost_132 (by decide) ?_
        refine zs_weak hX (lw := [some (.ref h0), some (.ref (qs.getD 88 0)), none, none, some (.int x4), some (.int x5), some (.long x6), none, none, none, none, none, none]) ⟨rfl, rfl, rfl, rfl, rfl, trivial⟩ ?_
        exact pj_atMost_bound_133 hX hc h
      · rw [if_neg c3] at h
        refine zs_iconst (v := 0) hX dX13_atMost_128 (by decide) ?_
        refine zs_goto (tgt := 133) hX dX13_atMost_129 (by decide) ?_
        refine zs_weak hX (lw := [some (.ref h0), some (.ref (qs.getD 88 0)), none, none, some (.int x4), some (.int x5), some (.long x6), none, none, none, none, none, none]) ⟨rfl, rfl, rfl, rfl, rfl, trivial⟩ ?_
        exact pj_atMost_bound_133 hX hc h
    · rw [if_pos c2] at h
      exact pj_atMost_bound_31 hX hc h
set_option maxHeartbeats 4000000 in
theorem pb_atMost_bound {h0 : Nat} {qs : List Nat} {ks : Nat → Nat} {n : Nat} {call : zCl} {kc : Nat → List Value → zSt → (Option Value → zSt → Prop) → Prop} {v : Option Value × zSt} {X : Nat → zLv → List Value → zSt → Prop} (hX : zSem cX13_atMost 13 (some .boolean) h0 qs ks kc (fun r u => (r, u) = v) X) (hc : ∀ j av s w, call j av s = some w → kc j av s (fun r u => (r, u) = w)) {x2 : Int32} {x3 : Int32} {x4 : Int32} {x5 : Int32} {x6 : Int64} {σ : zSt} (h : b_atMost_bound n call h0 qs ks x2 x3 x4 x5 x6 σ = some v) : X 0 [some (.ref h0), some (.ref (qs.getD 88 0)), some (.int x2), some (.int x3), some (.int x4), some (.int x5), some (.long x6), none, none, none, none, none, none] [] σ := by
  rw [b_atMost_bound] at h
  refine zs_iload_n hX dX13_atMost_0 rfl rfl ?_
  refine zs_if_ne (tgt := 22) hX dX13_atMost_1 (by decide) (fun c1 => ?_) (fun c1 => ?_)
  · rw [if_neg c1] at h
    exact pj_atMost_bound_22 hX hc h
  · rw [if_pos c1] at h
    refine zs_iload hX dX13_atMost_4 rfl ?_
    refine zs_if_ne (tgt := 22) hX dX13_atMost_6 (by decide) (fun c2 => ?_) (fun c2 => ?_)
    · rw [if_neg c2] at h
      exact pj_atMost_bound_22 hX hc h
    · rw [if_pos c2] at h
      refine zs_lload hX dX13_atMost_9 rfl ?_
      refine zs_lconst (v := 0) hX dX13_atMost_11 (by decide) ?_
      refine zs_lcmp hX dX13_atMost_12 ?_
      refine zs_if_gt (tgt := 20) hX dX13_atMost_13 (by decide) (fun c3 => ?_) (fun c3 => ?_)
      · rw [if_pos c3] at h
        refine zs_iconst (v := 0) hX dX13_atMost_20 (by decide) ?_
        exact zs_zret hX dX13_atMost_21 rfl (by decide) (Option.some.inj h)
      · rw [if_neg c3] at h
        refine zs_iconst (v := 1) hX dX13_atMost_16 (by decide) ?_
        refine zs_goto (tgt := 21) hX dX13_atMost_17 (by decide) ?_
        exact zs_zret hX dX13_atMost_21 rfl (by decide) (Option.some.inj h)
def j_closes_378 (n : Nat) (call : zCl) (h0 : Nat) (qs : List Nat) (ks : Nat → Nat) (k297 : Int32 → Int32 → zSt → zRs) (k304 : Int32 → Int32 → Int32 → zSt → zRs) (x1 : Int32) (x2 : Int32) (x3 : Int32) (σ : zSt) : zRs :=
  k304 x1 x2 (x3 + 1) σ
def l_closes_304 (n : Nat) (call : zCl) (h0 : Nat) (qs : List Nat) (ks : Nat → Nat) (k297 : Int32 → Int32 → zSt → zRs) : Nat → Int32 → Int32 → Int32 → zSt → zRs
  | 0, _, _, _, _ => none
  | f + 1, x1, x2, x3, σ =>
    if x1 ≤ x3 then
      k297 x1 (x2 + 1) σ
    else
      zgd (zin ((160 * x2) + (x2 ^^^ 1)) 25600) (
      zgd (zin ((160 * (x3 ^^^ 1)) + x3) 25600) (
      if 0 ≤ (lg_cmp (σ.2.2.2 88 (((160 * x2) + (x2 ^^^ 1))).toNatClampNeg) 1125899906842624) then
        j_closes_378 n call h0 qs ks k297 (l_closes_304 n call h0 qs ks k297 f) x1 x2 x3 σ
      else
        if 0 ≤ (lg_cmp (σ.2.2.2 88 (((160 * (x3 ^^^ 1)) + x3)).toNatClampNeg) 1125899906842624) then
          j_closes_378 n call h0 qs ks k297 (l_closes_304 n call h0 qs ks k297 f) x1 x2 x3 σ
        else
          zgd (decide (¬ 2 = 0)) (
          zcv (call 87 [.ref h0, .ref (qs.getD 88 0), .int x2, .int x3, .long (((σ.2.2.2 88 (((160 * x2) + (x2 ^^^ 1))).toNatClampNeg) + (σ.2.2.2 88 (((160 * (x3 ^^^ 1)) + x3)).toNatClampNeg)) / 2)] σ) fun s7 =>
          j_closes_378 n call h0 qs ks k297 (l_closes_304 n call h0 qs ks k297 f) x1 x2 x3 s7)))
def l_closes_297 (n : Nat) (call : zCl) (h0 : Nat) (qs : List Nat) (ks : Nat → Nat) : Nat → Int32 → Int32 → zSt → zRs
  | 0, _, _, _ => none
  | f + 1, x1, x2, σ =>
    if x1 ≤ x2 then
      some (some (.int 1), σ)
    else
      l_closes_304 n call h0 qs ks (l_closes_297 n call h0 qs ks f) n x1 x2 0 σ
def j_closes_289 (n : Nat) (call : zCl) (h0 : Nat) (qs : List Nat) (ks : Nat → Nat) (k225 : Int32 → Int32 → zSt → zRs) (x1 : Int32) (x2 : Int32) (σ : zSt) : zRs :=
  k225 x1 (x2 + 1) σ
def l_closes_225 (n : Nat) (call : zCl) (h0 : Nat) (qs : List Nat) (ks : Nat → Nat) : Nat → Int32 → Int32 → zSt → zRs
  | 0, _, _, _ => none
  | f + 1, x1, x2, σ =>
    if x1 ≤ x2 then
      l_closes_297 n call h0 qs ks n x1 0 σ
    else
      zgd (zin ((160 * x2) + (x2 ^^^ 1)) 25600) (
      zgd (zin ((160 * (x2 ^^^ 1)) + x2) 25600) (
      if 0 ≤ (lg_cmp (σ.2.2.2 88 (((160 * x2) + (x2 ^^^ 1))).toNatClampNeg) 1125899906842624) then
        j_closes_289 n call h0 qs ks (l_closes_225 n call h0 qs ks f) x1 x2 σ
      else
        if 0 ≤ (lg_cmp (σ.2.2.2 88 (((160 * (x2 ^^^ 1)) + x2)).toNatClampNeg) 1125899906842624) then
          j_closes_289 n call h0 qs ks (l_closes_225 n call h0 qs ks f) x1 x2 σ
        else
          if 0 ≤ (lg_cmp ((σ.2.2.2 88 (((160 * x2) + (x2 ^^^ 1))).toNatClampNeg) + (σ.2.2.2 88 (((160 * (x2 ^^^ 1)) + x2)).toNatClampNeg)) 0) then
            j_closes_289 n call h0 qs ks (l_closes_225 n call h0 qs ks f) x1 x2 σ
          else
            some (some (.int 0), σ)))
def j_closes_217 (n : Nat) (call : zCl) (h0 : Nat) (qs : List Nat) (ks : Nat → Nat) (k148 : Int32 → Int32 → zSt → zRs) (x1 : Int32) (x2 : Int32) (σ : zSt) : zRs :=
  k148 x1 (x2 + 1) σ
def l_closes_148 (n : Nat) (call : zCl) (h0 : Nat) (qs : List Nat) (ks : Nat → Nat) : Nat → Int32 → Int32 → zSt → zRs
  | 0, _, _, _ => none
  | f + 1, x1, x2, σ =>
    if x1 ≤ x2 then
      l_closes_225 n call h0 qs ks n x1 0 σ
    else
      zgd (zin ((160 * x2) + x2) 25600) (
      if 0 ≤ (lg_cmp (σ.2.2.2 88 (((160 * x2) + x2)).toNatClampNeg) 0) then
        zgd (zin ((160 * x2) + (x2 ^^^ 1)) 25600) (
        if 0 ≤ (lg_cmp (σ.2.2.2 88 (((160 * x2) + (x2 ^^^ 1))).toNatClampNeg) 1125899906842624) then
          j_closes_217 n call h0 qs ks (l_closes_148 n call h0 qs ks f) x1 x2 σ
        else
          zgd (zin ((160 * x2) + (x2 ^^^ 1)) 25600) (
          zcl' (call 86 [.long (σ.2.2.2 88 (((160 * x2) + (x2 ^^^ 1))).toNatClampNeg), .long 2] σ) fun r9 s7 =>
          zgd (zin ((160 * x2) + (x2 ^^^ 1)) 25600) (zlet (zG s7 88 (vp_updL (s7.2.2.2 88) (((160 * x2) + (x2 ^^^ 1))).toNatClampNeg (2 * r9))) fun s11 =>
          j_closes_217 n call h0 qs ks (l_closes_148 n call h0 qs ks f) x1 x2 s11)))
      else
        some (some (.int 0), σ))
def j_closes_134 (n : Nat) (call : zCl) (h0 : Nat) (qs : List Nat) (ks : Nat → Nat) (k9 : Int32 → Int32 → zSt → zRs) (k16 : Int32 → Int32 → Int32 → zSt → zRs) (x1 : Int32) (x2 : Int32) (x3 : Int32) (σ : zSt) : zRs :=
  k16 x1 x2 (x3 + 1) σ
def j_closes_128 (n : Nat) (call : zCl) (h0 : Nat) (qs : List Nat) (ks : Nat → Nat) (k9 : Int32 → Int32 → zSt → zRs) (k16 : Int32 → Int32 → Int32 → zSt → zRs) (k50 : Int32 → Int32 → Int32 → Int64 → Int32 → zSt → zRs) (x1 : Int32) (x2 : Int32) (x3 : Int32) (x4 : Int64) (x6 : Int32) (σ : zSt) : zRs :=
  k50 x1 x2 x3 x4 (x6 + 1) σ
def l_closes_50 (n : Nat) (call : zCl) (h0 : Nat) (qs : List Nat) (ks : Nat → Nat) (k9 : Int32 → Int32 → zSt → zRs) (k16 : Int32 → Int32 → Int32 → zSt → zRs) : Nat → Int32 → Int32 → Int32 → Int64 → Int32 → zSt → zRs
  | 0, _, _, _, _, _, _ => none
  | f + 1, x1, x2, x3, x4, x6, σ =>
    if x1 ≤ x6 then
      j_closes_134 n call h0 qs ks k9 k16 x1 x2 x3 σ
    else
      zgd (zin ((160 * x2) + x6) 25600) (
      zgd (zin ((160 * x3) + x6) 25600) (
      if 0 ≤ (lg_cmp (x4 + (σ.2.2.2 88 (((160 * x2) + x6)).toNatClampNeg)) (σ.2.2.2 88 (((160 * x3) + x6)).toNatClampNeg)) then
        j_closes_128 n call h0 qs ks k9 k16 (l_closes_50 n call h0 qs ks k9 k16 f) x1 x2 x3 x4 x6 σ
      else
        zgd (zin ((160 * x2) + x6) 25600) (
        if 0 ≤ (lg_cmp (σ.2.2.2 88 (((160 * x2) + x6)).toNatClampNeg) 1125899906842624) then
          j_closes_128 n call h0 qs ks k9 k16 (l_closes_50 n call h0 qs ks k9 k16 f) x1 x2 x3 x4 x6 σ
        else
          zgd (zin ((160 * x3) + x6) 25600) (zlet (zG σ 88 (vp_updL (σ.2.2.2 88) (((160 * x3) + x6)).toNatClampNeg (x4 + (σ.2.2.2 88 (((160 * x2) + x6)).toNatClampNeg)))) fun s8 =>
          j_closes_128 n call h0 qs ks k9 k16 (l_closes_50 n call h0 qs ks k9 k16 f) x1 x2 x3 x4 x6 s8))))
def l_closes_16 (n : Nat) (call : zCl) (h0 : Nat) (qs : List Nat) (ks : Nat → Nat) (k9 : Int32 → Int32 → zSt → zRs) : Nat → Int32 → Int32 → Int32 → zSt → zRs
  | 0, _, _, _, _ => none
  | f + 1, x1, x2, x3, σ =>
    if x1 ≤ x3 then
      k9 x1 (x2 + 1) σ
    else
      zgd (zin ((160 * x3) + x2) 25600) (
      if (lg_cmp (σ.2.2.2 88 (((160 * x3) + x2)).toNatClampNeg) 1125899906842624) < 0 then
        l_closes_50 n call h0 qs ks k9 (l_closes_16 n call h0 qs ks k9 f) n x1 x2 x3 (σ.2.2.2 88 (((160 * x3) + x2)).toNatClampNeg) 0 σ
      else
        j_closes_134 n call h0 qs ks k9 (l_closes_16 n call h0 qs ks k9 f) x1 x2 x3 σ)
def l_closes_9 (n : Nat) (call : zCl) (h0 : Nat) (qs : List Nat) (ks : Nat → Nat) : Nat → Int32 → Int32 → zSt → zRs
  | 0, _, _, _ => none
  | f + 1, x1, x2, σ =>
    if x1 ≤ x2 then
      l_closes_148 n call h0 qs ks n x1 0 σ
    else
      l_closes_16 n call h0 qs ks (l_closes_9 n call h0 qs ks f) n x1 x2 0 σ
def b_closes (n : Nat) (call : zCl) (h0 : Nat) (qs : List Nat) (ks : Nat → Nat) (σ : zSt) : zRs :=
  l_closes_9 n call h0 qs ks n (2 * (σ.1 131)) 0 σ
set_option maxHeartbeats 4000000 in
theorem pj_closes_378 {h0 : Nat} {qs : List Nat} {ks : Nat → Nat} {n : Nat} {call : zCl} {kc : Nat → List Value → zSt → (Option Value → zSt → Prop) → Prop} {v : Option Value × zSt} {X : Nat → zLv → List Value → zSt → Prop} (hX : zSem cX13_closes 9 (some .boolean) h0 qs ks kc (fun r u => (r, u) = v) X) (hc : ∀ j av s w, call j av s = some w → kc j av s (fun r u => (r, u) = w)) {k297 : Int32 → Int32 → zSt → zRs} (hk297 : ∀ (x1 : Int32) (x2 : Int32) (s : zSt), k297 x1 x2 s = some v → X 297 [some (.ref h0), some (.int x1), some (.int x2), none, none, none, none, none, none] [] s) {k304 : Int32 → Int32 → Int32 → zSt → zRs} (hk304 : ∀ (x1 : Int32) (x2 : Int32) (x3 : Int32) (s : zSt), k304 x1 x2 x3 s = some v → X 304 [some (.ref h0), some (.int x1), some (.int x2), some (.int x3), none, none, none, none, none] [] s) {x1 : Int32} {x2 : Int32} {x3 : Int32} {σ : zSt} (h : j_closes_378 n call h0 qs ks k297 k304 x1 x2 x3 σ = some v) : X 378 [some (.ref h0), some (.int x1), some (.int x2), some (.int x3), none, none, none, none, none] [] σ := by
  rw [j_closes_378] at h
  refine zs_iinc (v := x3 + 1) hX dX13_closes_378 rfl rfl (by decide) rfl ?_
  dsimp only [List.set]
  refine zs_goto (tgt := 304) hX dX13_closes_381 (by decide) ?_
  exact hk304 _ _ _ _ h
set_option maxHeartbeats 4000000 in
theorem pl_closes_304 {h0 : Nat} {qs : List Nat} {ks : Nat → Nat} {n : Nat} {call : zCl} {kc : Nat → List Value → zSt → (Option Value → zSt → Prop) → Prop} {v : Option Value × zSt} {X : Nat → zLv → List Value → zSt → Prop} (hX : zSem cX13_closes 9 (some .boolean) h0 qs ks kc (fun r u => (r, u) = v) X) (hc : ∀ j av s w, call j av s = some w → kc j av s (fun r u => (r, u) = w)) {k297 : Int32 → Int32 → zSt → zRs} (hk297 : ∀ (x1 : Int32) (x2 : Int32) (s : zSt), k297 x1 x2 s = some v → X 297 [some (.ref h0), some (.int x1), some (.int x2), none, none, none, none, none, none] [] s) : ∀ (f : Nat) (x1 : Int32) (x2 : Int32) (x3 : Int32) (σ : zSt), l_closes_304 n call h0 qs ks k297 f x1 x2 x3 σ = some v → X 304 [some (.ref h0), some (.int x1), some (.int x2), some (.int x3), none, none, none, none, none] [] σ := by
  intro f
  induction f with
  | zero => intro x1 x2 x3 σ h; cases h
  | succ f hk304 =>
    intro x1 x2 x3 σ h
    rw [l_closes_304] at h
    refine zs_iload_n hX dX13_closes_304 rfl rfl ?_
    refine zs_iload_n hX dX13_closes_305 rfl rfl ?_
    refine zs_icmp_ge (tgt := 384) hX dX13_closes_306 (by decide) (fun c1 => ?_) (fun c1 => ?_)
    · rw [if_pos c1] at h
      refine zs_iinc (v := x2 + 1) hX dX13_closes_384 rfl rfl (by decide) rfl ?_
      dsimp only [List.set]
      refine zs_goto (tgt := 297) hX dX13_closes_387 (by decide) ?_
      refine zs_weak hX (lw := [some (.ref h0), some (.int x1), some (.int (x2 + 1)), none, none, none, none, none, none]) ⟨rfl, rfl, rfl, trivial⟩ ?_
      exact hk297 _ _ _ h
    · rw [if_neg c1] at h
      refine zs_aload_n hX dX13_closes_309 rfl rfl ?_
      refine zg_bound hX dX13_closes_310 ?_
      refine zs_sipush (v := 160) hX dX13_closes_313 (by decide) ?_
      refine zs_iload_n hX dX13_closes_316 rfl rfl ?_
      refine zs_imul hX dX13_closes_317 ?_
      refine zs_iload_n hX dX13_closes_318 rfl rfl ?_
      refine zs_iconst (v := 1) hX dX13_closes_319 (by decide) ?_
      refine zs_ixor hX dX13_closes_320 ?_
      refine zs_iadd hX dX13_closes_321 ?_
      obtain ⟨b2, h⟩ := zgd_e h
      refine zl_bound hX dX13_closes_322 (zin_ok b2) ?_
      refine zs_lstore hX dX13_closes_323 (by decide) rfl ?_
      dsimp only [List.set]
      refine zs_aload_n hX dX13_closes_325 rfl rfl ?_
      refine zg_bound hX dX13_closes_326 ?_
      refine zs_sipush (v := 160) hX dX13_closes_329 (by decide) ?_
      refine zs_iload_n hX dX13_closes_332 rfl rfl ?_
      refine zs_iconst (v := 1) hX dX13_closes_333 (by decide) ?_
      refine zs_ixor hX dX13_closes_334 ?_
      refine zs_imul hX dX13_closes_335 ?_
      refine zs_iload_n hX dX13_closes_336 rfl rfl ?_
      refine zs_iadd hX dX13_closes_337 ?_
      obtain ⟨b3, h⟩ := zgd_e h
      refine zl_bound hX dX13_closes_338 (zin_ok b3) ?_
      refine zs_lstore hX dX13_closes_339 (by decide) rfl ?_
      dsimp only [List.set]
      refine zs_lload hX dX13_closes_341 rfl ?_
      refine zs_ldc2 (v := 1125899906842624) hX dX13_closes_343 (by decide) ?_
      refine zs_lcmp hX dX13_closes_346 ?_
      refine zs_if_ge (tgt := 378) hX dX13_closes_347 (by decide) (fun c4 => ?_) (fun c4 => ?_)
      · rw [if_pos c4] at h
        refine zs_weak hX (lw := [some (.ref h0), some (.int x1), some (.int x2), some (.int x3), none, none, none, none, none]) ⟨rfl, rfl, rfl, rfl, trivial⟩ ?_
        exact pj_closes_378 hX hc hk297 hk304 h
      · rw [if_neg c4] at h
        refine zs_lload hX dX13_closes_350 rfl ?_
        refine zs_ldc2 (v := 1125899906842624) hX dX13_closes_352 (by decide) ?_
        refine zs_lcmp hX dX13_closes_355 ?_
        refine zs_if_ge (tgt := 378) hX dX13_closes_356 (by decide) (fun c5 => ?_) (fun c5 => ?_)
        · rw [if_pos c5] at h
          refine zs_weak hX (lw := [some (.ref h0), some (.int x1), some (.int x2), some (.int x3), none, none, none, none, none]) ⟨rfl, rfl, rfl, rfl, trivial⟩ ?_
          exact pj_closes_378 hX hc hk297 hk304 h
        · rw [if_neg c5] at h
          refine zs_aload_n hX dX13_closes_359 rfl rfl ?_
          refine zs_aload_n hX dX13_closes_360 rfl rfl ?_
          refine zg_bound hX dX13_closes_361 ?_
          refine zs_iload_n hX dX13_closes_364 rfl rfl ?_
          refine zs_iload_n hX dX13_closes_365 rfl rfl ?_
          refine zs_lload hX dX13_closes_366 rfl ?_
          refine zs_lload hX dX13_closes_368 rfl ?_
          refine zs_ladd hX dX13_closes_370 ?_
          refine zs_ldc2 (v := 2) hX dX13_closes_371 (by decide) ?_
          obtain ⟨b6, h⟩ := zgd_e h
          refine zs_ldiv hX dX13_closes_374 (znz_ok b6) ?_
          obtain ⟨s7, e8, h⟩ := zcv_e h
          refine zc_lower hX dX13_closes_375 (Nat.le_of_ble_eq_true rfl) (hc _ _ _ _ e8) (fun u9 h9 => ?_)
          cases h9
          refine zs_weak hX (lw := [some (.ref h0), some (.int x1), some (.int x2), some (.int x3), none, none, none, none, none]) ⟨rfl, rfl, rfl, rfl, trivial⟩ ?_
          exact pj_closes_378 hX hc hk297 hk304 h
set_option maxHeartbeats 4000000 in
theorem pl_closes_297 {h0 : Nat} {qs : List Nat} {ks : Nat → Nat} {n : Nat} {call : zCl} {kc : Nat → List Value → zSt → (Option Value → zSt → Prop) → Prop} {v : Option Value × zSt} {X : Nat → zLv → List Value → zSt → Prop} (hX : zSem cX13_closes 9 (some .boolean) h0 qs ks kc (fun r u => (r, u) = v) X) (hc : ∀ j av s w, call j av s = some w → kc j av s (fun r u => (r, u) = w)) : ∀ (f : Nat) (x1 : Int32) (x2 : Int32) (σ : zSt), l_closes_297 n call h0 qs ks f x1 x2 σ = some v → X 297 [some (.ref h0), some (.int x1), some (.int x2), none, none, none, none, none, none] [] σ := by
  intro f
  induction f with
  | zero => intro x1 x2 σ h; cases h
  | succ f hk297 =>
    intro x1 x2 σ h
    rw [l_closes_297] at h
    refine zs_iload_n hX dX13_closes_297 rfl rfl ?_
    refine zs_iload_n hX dX13_closes_298 rfl rfl ?_
    refine zs_icmp_ge (tgt := 390) hX dX13_closes_299 (by decide) (fun c1 => ?_) (fun c1 => ?_)
    · rw [if_pos c1] at h
      refine zs_iconst (v := 1) hX dX13_closes_390 (by decide) ?_
      exact zs_zret hX dX13_closes_391 rfl (by decide) (Option.some.inj h)
    · rw [if_neg c1] at h
      refine zs_iconst (v := 0) hX dX13_closes_302 (by decide) ?_
      refine zs_istore_n hX dX13_closes_303 rfl (by decide) rfl ?_
      dsimp only [List.set]
      exact pl_closes_304 hX hc hk297 n _ _ _ _ h
set_option maxHeartbeats 4000000 in
theorem pj_closes_289 {h0 : Nat} {qs : List Nat} {ks : Nat → Nat} {n : Nat} {call : zCl} {kc : Nat → List Value → zSt → (Option Value → zSt → Prop) → Prop} {v : Option Value × zSt} {X : Nat → zLv → List Value → zSt → Prop} (hX : zSem cX13_closes 9 (some .boolean) h0 qs ks kc (fun r u => (r, u) = v) X) (hc : ∀ j av s w, call j av s = some w → kc j av s (fun r u => (r, u) = w)) {k225 : Int32 → Int32 → zSt → zRs} (hk225 : ∀ (x1 : Int32) (x2 : Int32) (s : zSt), k225 x1 x2 s = some v → X 225 [some (.ref h0), some (.int x1), some (.int x2), none, none, none, none, none, none] [] s) {x1 : Int32} {x2 : Int32} {σ : zSt} (h : j_closes_289 n call h0 qs ks k225 x1 x2 σ = some v) : X 289 [some (.ref h0), some (.int x1), some (.int x2), none, none, none, none, none, none] [] σ := by
  rw [j_closes_289] at h
  refine zs_iinc (v := x2 + 1) hX dX13_closes_289 rfl rfl (by decide) rfl ?_
  dsimp only [List.set]
  refine zs_goto (tgt := 225) hX dX13_closes_292 (by decide) ?_
  exact hk225 _ _ _ h
set_option maxHeartbeats 4000000 in
theorem pl_closes_225 {h0 : Nat} {qs : List Nat} {ks : Nat → Nat} {n : Nat} {call : zCl} {kc : Nat → List Value → zSt → (Option Value → zSt → Prop) → Prop} {v : Option Value × zSt} {X : Nat → zLv → List Value → zSt → Prop} (hX : zSem cX13_closes 9 (some .boolean) h0 qs ks kc (fun r u => (r, u) = v) X) (hc : ∀ j av s w, call j av s = some w → kc j av s (fun r u => (r, u) = w)) : ∀ (f : Nat) (x1 : Int32) (x2 : Int32) (σ : zSt), l_closes_225 n call h0 qs ks f x1 x2 σ = some v → X 225 [some (.ref h0), some (.int x1), some (.int x2), none, none, none, none, none, none] [] σ := by
  intro f
  induction f with
  | zero => intro x1 x2 σ h; cases h
  | succ f hk225 =>
    intro x1 x2 σ h
    rw [l_closes_225] at h
    refine zs_iload_n hX dX13_closes_225 rfl rfl ?_
    refine zs_iload_n hX dX13_closes_226 rfl rfl ?_
    refine zs_icmp_ge (tgt := 295) hX dX13_closes_227 (by decide) (fun c1 => ?_) (fun c1 => ?_)
    · rw [if_pos c1] at h
      refine zs_iconst (v := 0) hX dX13_closes_295 (by decide) ?_
      refine zs_istore_n hX dX13_closes_296 rfl (by decide) rfl ?_
      dsimp only [List.set]
      exact pl_closes_297 hX hc n _ _ _ h
    · rw [if_neg c1] at h
      refine zs_aload_n hX dX13_closes_230 rfl rfl ?_
      refine zg_bound hX dX13_closes_231 ?_
      refine zs_sipush (v := 160) hX dX13_closes_234 (by decide) ?_
      refine zs_iload_n hX dX13_closes_237 rfl rfl ?_
      refine zs_imul hX dX13_closes_238 ?_
      refine zs_iload_n hX dX13_closes_239 rfl rfl ?_
      refine zs_iconst (v := 1) hX dX13_closes_240 (by decide) ?_
      refine zs_ixor hX dX13_closes_241 ?_
      refine zs_iadd hX dX13_closes_242 ?_
      obtain ⟨b2, h⟩ := zgd_e h
      refine zl_bound hX dX13_closes_243 (zin_ok b2) ?_
      refine zs_lstore_n hX dX13_closes_244 rfl (by decide) rfl ?_
      dsimp only [List.set]
      refine zs_aload_n hX dX13_closes_245 rfl rfl ?_
      refine zg_bound hX dX13_closes_246 ?_
      refine zs_sipush (v := 160) hX dX13_closes_249 (by decide) ?_
      refine zs_iload_n hX dX13_closes_252 rfl rfl ?_
      refine zs_iconst (v := 1) hX dX13_closes_253 (by decide) ?_
      refine zs_ixor hX dX13_closes_254 ?_
      refine zs_imul hX dX13_closes_255 ?_
      refine zs_iload_n hX dX13_closes_256 rfl rfl ?_
      refine zs_iadd hX dX13_closes_257 ?_
      obtain ⟨b3, h⟩ := zgd_e h
      refine zl_bound hX dX13_closes_258 (zin_ok b3) ?_
      refine zs_lstore hX dX13_closes_259 (by decide) rfl ?_
      dsimp only [List.set]
      refine zs_lload_n hX dX13_closes_261 rfl rfl ?_
      refine zs_ldc2 (v := 1125899906842624) hX dX13_closes_262 (by decide) ?_
      refine zs_lcmp hX dX13_closes_265 ?_
      refine zs_if_ge (tgt := 289) hX dX13_closes_266 (by decide) (fun c4 => ?_) (fun c4 => ?_)
      · rw [if_pos c4] at h
        refine zs_weak hX (lw := [some (.ref h0), some (.int x1), some (.int x2), none, none, none, none, none, none]) ⟨rfl, rfl, rfl, trivial⟩ ?_
        exact pj_closes_289 hX hc hk225 h
      · rw [if_neg c4] at h
        refine zs_lload hX dX13_closes_269 rfl ?_
        refine zs_ldc2 (v := 1125899906842624) hX dX13_closes_271 (by decide) ?_
        refine zs_lcmp hX dX13_closes_274 ?_
        refine zs_if_ge (tgt := 289) hX dX13_closes_275 (by decide) (fun c5 => ?_) (fun c5 => ?_)
        · rw [if_pos c5] at h
          refine zs_weak hX (lw := [some (.ref h0), some (.int x1), some (.int x2), none, none, none, none, none, none]) ⟨rfl, rfl, rfl, trivial⟩ ?_
          exact pj_closes_289 hX hc hk225 h
        · rw [if_neg c5] at h
          refine zs_lload_n hX dX13_closes_278 rfl rfl ?_
          refine zs_lload hX dX13_closes_279 rfl ?_
          refine zs_ladd hX dX13_closes_281 ?_
          refine zs_lconst (v := 0) hX dX13_closes_282 (by decide) ?_
          refine zs_lcmp hX dX13_closes_283 ?_
          refine zs_if_ge (tgt := 289) hX dX13_closes_284 (by decide) (fun c6 => ?_) (fun c6 => ?_)
          · rw [if_pos c6] at h
            refine zs_weak hX (lw := [some (.ref h0), some (.int x1), some (.int x2), none, none, none, none, none, none]) ⟨rfl, rfl, rfl, trivial⟩ ?_
            exact pj_closes_289 hX hc hk225 h
          · rw [if_neg c6] at h
            refine zs_iconst (v := 0) hX dX13_closes_287 (by decide) ?_
            exact zs_zret hX dX13_closes_288 rfl (by decide) (Option.some.inj h)
set_option maxHeartbeats 4000000 in
theorem pj_closes_217 {h0 : Nat} {qs : List Nat} {ks : Nat → Nat} {n : Nat} {call : zCl} {kc : Nat → List Value → zSt → (Option Value → zSt → Prop) → Prop} {v : Option Value × zSt} {X : Nat → zLv → List Value → zSt → Prop} (hX : zSem cX13_closes 9 (some .boolean) h0 qs ks kc (fun r u => (r, u) = v) X) (hc : ∀ j av s w, call j av s = some w → kc j av s (fun r u => (r, u) = w)) {k148 : Int32 → Int32 → zSt → zRs} (hk148 : ∀ (x1 : Int32) (x2 : Int32) (s : zSt), k148 x1 x2 s = some v → X 148 [some (.ref h0), some (.int x1), some (.int x2), none, none, none, none, none, none] [] s) {x1 : Int32} {x2 : Int32} {σ : zSt} (h : j_closes_217 n call h0 qs ks k148 x1 x2 σ = some v) : X 217 [some (.ref h0), some (.int x1), some (.int x2), none, none, none, none, none, none] [] σ := by
  rw [j_closes_217] at h
  refine zs_iinc (v := x2 + 1) hX dX13_closes_217 rfl rfl (by decide) rfl ?_
  dsimp only [List.set]
  refine zs_goto (tgt := 148) hX dX13_closes_220 (by decide) ?_
  exact hk148 _ _ _ h
set_option maxHeartbeats 4000000 in
theorem pl_closes_148 {h0 : Nat} {qs : List Nat} {ks : Nat → Nat} {n : Nat} {call : zCl} {kc : Nat → List Value → zSt → (Option Value → zSt → Prop) → Prop} {v : Option Value × zSt} {X : Nat → zLv → List Value → zSt → Prop} (hX : zSem cX13_closes 9 (some .boolean) h0 qs ks kc (fun r u => (r, u) = v) X) (hc : ∀ j av s w, call j av s = some w → kc j av s (fun r u => (r, u) = w)) : ∀ (f : Nat) (x1 : Int32) (x2 : Int32) (σ : zSt), l_closes_148 n call h0 qs ks f x1 x2 σ = some v → X 148 [some (.ref h0), some (.int x1), some (.int x2), none, none, none, none, none, none] [] σ := by
  intro f
  induction f with
  | zero => intro x1 x2 σ h; cases h
  | succ f hk148 =>
    intro x1 x2 σ h
    rw [l_closes_148] at h
    refine zs_iload_n hX dX13_closes_148 rfl rfl ?_
    refine zs_iload_n hX dX13_closes_149 rfl rfl ?_
    refine zs_icmp_ge (tgt := 223) hX dX13_closes_150 (by decide) (fun c1 => ?_) (fun c1 => ?_)
    · rw [if_pos c1] at h
      refine zs_iconst (v := 0) hX dX13_closes_223 (by decide) ?_
      refine zs_istore_n hX dX13_closes_224 rfl (by decide) rfl ?_
      dsimp only [List.set]
      exact pl_closes_225 hX hc n _ _ _ h
    · rw [if_neg c1] at h
      refine zs_aload_n hX dX13_closes_153 rfl rfl ?_
      refine zg_bound hX dX13_closes_154 ?_
      refine zs_sipush (v := 160) hX dX13_closes_157 (by decide) ?_
      refine zs_iload_n hX dX13_closes_160 rfl rfl ?_
      refine zs_imul hX dX13_closes_161 ?_
      refine zs_iload_n hX dX13_closes_162 rfl rfl ?_
      refine zs_iadd hX dX13_closes_163 ?_
      obtain ⟨b2, h⟩ := zgd_e h
      refine zl_bound hX dX13_closes_164 (zin_ok b2) ?_
      refine zs_lconst (v := 0) hX dX13_closes_165 (by decide) ?_
      refine zs_lcmp hX dX13_closes_166 ?_
      refine zs_if_ge (tgt := 172) hX dX13_closes_167 (by decide) (fun c3 => ?_) (fun c3 => ?_)
      · rw [if_pos c3] at h
        refine zs_sipush (v := 160) hX dX13_closes_172 (by decide) ?_
        refine zs_iload_n hX dX13_closes_175 rfl rfl ?_
        refine zs_imul hX dX13_closes_176 ?_
        refine zs_iload_n hX dX13_closes_177 rfl rfl ?_
        refine zs_iconst (v := 1) hX dX13_closes_178 (by decide) ?_
        refine zs_ixor hX dX13_closes_179 ?_
        refine zs_iadd hX dX13_closes_180 ?_
        refine zs_istore_n hX dX13_closes_181 rfl (by decide) rfl ?_
        dsimp only [List.set]
        refine zs_aload_n hX dX13_closes_182 rfl rfl ?_
        refine zg_bound hX dX13_closes_183 ?_
        refine zs_iload_n hX dX13_closes_186 rfl rfl ?_
        obtain ⟨b4, h⟩ := zgd_e h
        refine zl_bound hX dX13_closes_187 (zin_ok b4) ?_
        refine zs_ldc2 (v := 1125899906842624) hX dX13_closes_188 (by decide) ?_
        refine zs_lcmp hX dX13_closes_191 ?_
        refine zs_if_ge (tgt := 217) hX dX13_closes_192 (by decide) (fun c5 => ?_) (fun c5 => ?_)
        · rw [if_pos c5] at h
          refine zs_weak hX (lw := [some (.ref h0), some (.int x1), some (.int x2), none, none, none, none, none, none]) ⟨rfl, rfl, rfl, trivial⟩ ?_
          exact pj_closes_217 hX hc hk148 h
        · rw [if_neg c5] at h
          refine zs_aload_n hX dX13_closes_195 rfl rfl ?_
          refine zg_bound hX dX13_closes_196 ?_
          refine zs_iload_n hX dX13_closes_199 rfl rfl ?_
          refine zs_ldc2 (v := 2) hX dX13_closes_200 (by decide) ?_
          refine zs_aload_n hX dX13_closes_203 rfl rfl ?_
          refine zg_bound hX dX13_closes_204 ?_
          refine zs_iload_n hX dX13_closes_207 rfl rfl ?_
          obtain ⟨b6, h⟩ := zgd_e h
          refine zl_bound hX dX13_closes_208 (zin_ok b6) ?_
          refine zs_ldc2 (v := 2) hX dX13_closes_209 (by decide) ?_
          obtain ⟨r9, s7, e8, h⟩ := zcl'_e h
          refine zc_downwards hX dX13_closes_212 (Nat.le_of_ble_eq_true rfl) (hc _ _ _ _ e8) (fun r9 u9 h9 => ?_)
          cases h9
          refine zs_lmul hX dX13_closes_215 ?_
          obtain ⟨b10, h⟩ := zgd_e h
          obtain ⟨s11, e12, h⟩ := zlet_e h
          refine zt_bound hX dX13_closes_216 (zin_ok b10) ?_
          rw [← e12]
          refine zs_weak hX (lw := [some (.ref h0), some (.int x1), some (.int x2), none, none, none, none, none, none]) ⟨rfl, rfl, rfl, trivial⟩ ?_
          exact pj_closes_217 hX hc hk148 h
      · rw [if_neg c3] at h
        refine zs_iconst (v := 0) hX dX13_closes_170 (by decide) ?_
        exact zs_zret hX dX13_closes_171 rfl (by decide) (Option.some.inj h)
set_option maxHeartbeats 4000000 in
theorem pj_closes_134 {h0 : Nat} {qs : List Nat} {ks : Nat → Nat} {n : Nat} {call : zCl} {kc : Nat → List Value → zSt → (Option Value → zSt → Prop) → Prop} {v : Option Value × zSt} {X : Nat → zLv → List Value → zSt → Prop} (hX : zSem cX13_closes 9 (some .boolean) h0 qs ks kc (fun r u => (r, u) = v) X) (hc : ∀ j av s w, call j av s = some w → kc j av s (fun r u => (r, u) = w)) {k9 : Int32 → Int32 → zSt → zRs} (hk9 : ∀ (x1 : Int32) (x2 : Int32) (s : zSt), k9 x1 x2 s = some v → X 9 [some (.ref h0), some (.int x1), some (.int x2), none, none, none, none, none, none] [] s) {k16 : Int32 → Int32 → Int32 → zSt → zRs} (hk16 : ∀ (x1 : Int32) (x2 : Int32) (x3 : Int32) (s : zSt), k16 x1 x2 x3 s = some v → X 16 [some (.ref h0), some (.int x1), some (.int x2), some (.int x3), none, none, none, none, none] [] s) {x1 : Int32} {x2 : Int32} {x3 : Int32} {σ : zSt} (h : j_closes_134 n call h0 qs ks k9 k16 x1 x2 x3 σ = some v) : X 134 [some (.ref h0), some (.int x1), some (.int x2), some (.int x3), none, none, none, none, none] [] σ := by
  rw [j_closes_134] at h
  refine zs_iinc (v := x3 + 1) hX dX13_closes_134 rfl rfl (by decide) rfl ?_
  dsimp only [List.set]
  refine zs_goto (tgt := 16) hX dX13_closes_137 (by decide) ?_
  exact hk16 _ _ _ _ h
set_option maxHeartbeats 4000000 in
theorem pj_closes_128 {h0 : Nat} {qs : List Nat} {ks : Nat → Nat} {n : Nat} {call : zCl} {kc : Nat → List Value → zSt → (Option Value → zSt → Prop) → Prop} {v : Option Value × zSt} {X : Nat → zLv → List Value → zSt → Prop} (hX : zSem cX13_closes 9 (some .boolean) h0 qs ks kc (fun r u => (r, u) = v) X) (hc : ∀ j av s w, call j av s = some w → kc j av s (fun r u => (r, u) = w)) {k9 : Int32 → Int32 → zSt → zRs} (hk9 : ∀ (x1 : Int32) (x2 : Int32) (s : zSt), k9 x1 x2 s = some v → X 9 [some (.ref h0), some (.int x1), some (.int x2), none, none, none, none, none, none] [] s) {k16 : Int32 → Int32 → Int32 → zSt → zRs} (hk16 : ∀ (x1 : Int32) (x2 : Int32) (x3 : Int32) (s : zSt), k16 x1 x2 x3 s = some v → X 16 [some (.ref h0), some (.int x1), some (.int x2), some (.int x3), none, none, none, none, none] [] s) {k50 : Int32 → Int32 → Int32 → Int64 → Int32 → zSt → zRs} (hk50 : ∀ (x1 : Int32) (x2 : Int32) (x3 : Int32) (x4 : Int64) (x6 : Int32) (s : zSt), k50 x1 x2 x3 x4 x6 s = some v → X 50 [some (.ref h0), some (.int x1), some (.int x2), some (.int x3), some (.long x4), none, some (.int x6), none, none] [] s) {x1 : Int32} {x2 : Int32} {x3 : Int32} {x4 : Int64} {x6 : Int32} {σ : zSt} (h : j_closes_128 n call h0 qs ks k9 k16 k50 x1 x2 x3 x4 x6 σ = some v) : X 128 [some (.ref h0), some (.int x1), some (.int x2), some (.int x3), some (.long x4), none, some (.int x6), none, none] [] σ := by
  rw [j_closes_128] at h
  refine zs_iinc (v := x6 + 1) hX dX13_closes_128 rfl rfl (by decide) rfl ?_
  dsimp only [List.set]
  refine zs_goto (tgt := 50) hX dX13_closes_131 (by decide) ?_
  exact hk50 _ _ _ _ _ _ h
set_option maxHeartbeats 4000000 in
theorem pl_closes_50 {h0 : Nat} {qs : List Nat} {ks : Nat → Nat} {n : Nat} {call : zCl} {kc : Nat → List Value → zSt → (Option Value → zSt → Prop) → Prop} {v : Option Value × zSt} {X : Nat → zLv → List Value → zSt → Prop} (hX : zSem cX13_closes 9 (some .boolean) h0 qs ks kc (fun r u => (r, u) = v) X) (hc : ∀ j av s w, call j av s = some w → kc j av s (fun r u => (r, u) = w)) {k9 : Int32 → Int32 → zSt → zRs} (hk9 : ∀ (x1 : Int32) (x2 : Int32) (s : zSt), k9 x1 x2 s = some v → X 9 [some (.ref h0), some (.int x1), some (.int x2), none, none, none, none, none, none] [] s) {k16 : Int32 → Int32 → Int32 → zSt → zRs} (hk16 : ∀ (x1 : Int32) (x2 : Int32) (x3 : Int32) (s : zSt), k16 x1 x2 x3 s = some v → X 16 [some (.ref h0), some (.int x1), some (.int x2), some (.int x3), none, none, none, none, none] [] s) : ∀ (f : Nat) (x1 : Int32) (x2 : Int32) (x3 : Int32) (x4 : Int64) (x6 : Int32) (σ : zSt), l_closes_50 n call h0 qs ks k9 k16 f x1 x2 x3 x4 x6 σ = some v → X 50 [some (.ref h0), some (.int x1), some (.int x2), some (.int x3), some (.long x4), none, some (.int x6), none, none] [] σ := by
  intro f
  induction f with
  | zero => intro x1 x2 x3 x4 x6 σ h; cases h
  | succ f hk50 =>
    intro x1 x2 x3 x4 x6 σ h
    rw [l_closes_50] at h
    refine zs_iload hX dX13_closes_50 rfl ?_
    refine zs_iload_n hX dX13_closes_52 rfl rfl ?_
    refine zs_icmp_ge (tgt := 134) hX dX13_closes_53 (by decide) (fun c1 => ?_) (fun c1 => ?_)
    · rw [if_pos c1] at h
      refine zs_weak hX (lw := [some (.ref h0), some (.int x1), some (.int x2), some (.int x3), none, none, none, none, none]) ⟨rfl, rfl, rfl, rfl, trivial⟩ ?_
      exact pj_closes_134 hX hc hk9 hk16 h
    · rw [if_neg c1] at h
      refine zs_lload hX dX13_closes_56 rfl ?_
      refine zs_aload_n hX dX13_closes_58 rfl rfl ?_
      refine zg_bound hX dX13_closes_59 ?_
      refine zs_sipush (v := 160) hX dX13_closes_62 (by decide) ?_
      refine zs_iload_n hX dX13_closes_65 rfl rfl ?_
      refine zs_imul hX dX13_closes_66 ?_
      refine zs_iload hX dX13_closes_67 rfl ?_
      refine zs_iadd hX dX13_closes_69 ?_
      obtain ⟨b2, h⟩ := zgd_e h
      refine zl_bound hX dX13_closes_70 (zin_ok b2) ?_
      refine zs_ladd hX dX13_closes_71 ?_
      refine zs_lstore hX dX13_closes_72 (by decide) rfl ?_
      dsimp only [List.set]
      refine zs_lload hX dX13_closes_74 rfl ?_
      refine zs_aload_n hX dX13_closes_76 rfl rfl ?_
      refine zg_bound hX dX13_closes_77 ?_
      refine zs_sipush (v := 160) hX dX13_closes_80 (by decide) ?_
      refine zs_iload_n hX dX13_closes_83 rfl rfl ?_
      refine zs_imul hX dX13_closes_84 ?_
      refine zs_iload hX dX13_closes_85 rfl ?_
      refine zs_iadd hX dX13_closes_87 ?_
      obtain ⟨b3, h⟩ := zgd_e h
      refine zl_bound hX dX13_closes_88 (zin_ok b3) ?_
      refine zs_lcmp hX dX13_closes_89 ?_
      refine zs_if_ge (tgt := 128) hX dX13_closes_90 (by decide) (fun c4 => ?_) (fun c4 => ?_)
      · rw [if_pos c4] at h
        refine zs_weak hX (lw := [some (.ref h0), some (.int x1), some (.int x2), some (.int x3), some (.long x4), none, some (.int x6), none, none]) ⟨rfl, rfl, rfl, rfl, rfl, rfl, trivial⟩ ?_
        exact pj_closes_128 hX hc hk9 hk16 hk50 h
      · rw [if_neg c4] at h
        refine zs_aload_n hX dX13_closes_93 rfl rfl ?_
        refine zg_bound hX dX13_closes_94 ?_
        refine zs_sipush (v := 160) hX dX13_closes_97 (by decide) ?_
        refine zs_iload_n hX dX13_closes_100 rfl rfl ?_
        refine zs_imul hX dX13_closes_101 ?_
        refine zs_iload hX dX13_closes_102 rfl ?_
        refine zs_iadd hX dX13_closes_104 ?_
        obtain ⟨b5, h⟩ := zgd_e h
        refine zl_bound hX dX13_closes_105 (zin_ok b5) ?_
        refine zs_ldc2 (v := 1125899906842624) hX dX13_closes_106 (by decide) ?_
        refine zs_lcmp hX dX13_closes_109 ?_
        refine zs_if_ge (tgt := 128) hX dX13_closes_110 (by decide) (fun c6 => ?_) (fun c6 => ?_)
        · rw [if_pos c6] at h
          refine zs_weak hX (lw := [some (.ref h0), some (.int x1), some (.int x2), some (.int x3), some (.long x4), none, some (.int x6), none, none]) ⟨rfl, rfl, rfl, rfl, rfl, rfl, trivial⟩ ?_
          exact pj_closes_128 hX hc hk9 hk16 hk50 h
        · rw [if_neg c6] at h
          refine zs_aload_n hX dX13_closes_113 rfl rfl ?_
          refine zg_bound hX dX13_closes_114 ?_
          refine zs_sipush (v := 160) hX dX13_closes_117 (by decide) ?_
          refine zs_iload_n hX dX13_closes_120 rfl rfl ?_
          refine zs_imul hX dX13_closes_121 ?_
          refine zs_iload hX dX13_closes_122 rfl ?_
          refine zs_iadd hX dX13_closes_124 ?_
          refine zs_lload hX dX13_closes_125 rfl ?_
          obtain ⟨b7, h⟩ := zgd_e h
          obtain ⟨s8, e9, h⟩ := zlet_e h
          refine zt_bound hX dX13_closes_127 (zin_ok b7) ?_
          rw [← e9]
          refine zs_weak hX (lw := [some (.ref h0), some (.int x1), some (.int x2), some (.int x3), some (.long x4), none, some (.int x6), none, none]) ⟨rfl, rfl, rfl, rfl, rfl, rfl, trivial⟩ ?_
          exact pj_closes_128 hX hc hk9 hk16 hk50 h
set_option maxHeartbeats 4000000 in
theorem pl_closes_16 {h0 : Nat} {qs : List Nat} {ks : Nat → Nat} {n : Nat} {call : zCl} {kc : Nat → List Value → zSt → (Option Value → zSt → Prop) → Prop} {v : Option Value × zSt} {X : Nat → zLv → List Value → zSt → Prop} (hX : zSem cX13_closes 9 (some .boolean) h0 qs ks kc (fun r u => (r, u) = v) X) (hc : ∀ j av s w, call j av s = some w → kc j av s (fun r u => (r, u) = w)) {k9 : Int32 → Int32 → zSt → zRs} (hk9 : ∀ (x1 : Int32) (x2 : Int32) (s : zSt), k9 x1 x2 s = some v → X 9 [some (.ref h0), some (.int x1), some (.int x2), none, none, none, none, none, none] [] s) : ∀ (f : Nat) (x1 : Int32) (x2 : Int32) (x3 : Int32) (σ : zSt), l_closes_16 n call h0 qs ks k9 f x1 x2 x3 σ = some v → X 16 [some (.ref h0), some (.int x1), some (.int x2), some (.int x3), none, none, none, none, none] [] σ := by
  intro f
  induction f with
  | zero => intro x1 x2 x3 σ h; cases h
  | succ f hk16 =>
    intro x1 x2 x3 σ h
    rw [l_closes_16] at h
    refine zs_iload_n hX dX13_closes_16 rfl rfl ?_
    refine zs_iload_n hX dX13_closes_17 rfl rfl ?_
    refine zs_icmp_ge (tgt := 140) hX dX13_closes_18 (by decide) (fun c1 => ?_) (fun c1 => ?_)
    · rw [if_pos c1] at h
      refine zs_iinc (v := x2 + 1) hX dX13_closes_140 rfl rfl (by decide) rfl ?_
      dsimp only [List.set]
      refine zs_goto (tgt := 9) hX dX13_closes_143 (by decide) ?_
      refine zs_weak hX (lw := [some (.ref h0), some (.int x1), some (.int (x2 + 1)), none, none, none, none, none, none]) ⟨rfl, rfl, rfl, trivial⟩ ?_
      exact hk9 _ _ _ h
    · rw [if_neg c1] at h
      refine zs_aload_n hX dX13_closes_21 rfl rfl ?_
      refine zg_bound hX dX13_closes_22 ?_
      refine zs_sipush (v := 160) hX dX13_closes_25 (by decide) ?_
      refine zs_iload_n hX dX13_closes_28 rfl rfl ?_
      refine zs_imul hX dX13_closes_29 ?_
      refine zs_iload_n hX dX13_closes_30 rfl rfl ?_
      refine zs_iadd hX dX13_closes_31 ?_
      obtain ⟨b2, h⟩ := zgd_e h
      refine zl_bound hX dX13_closes_32 (zin_ok b2) ?_
      refine zs_lstore hX dX13_closes_33 (by decide) rfl ?_
      dsimp only [List.set]
      refine zs_lload hX dX13_closes_35 rfl ?_
      refine zs_ldc2 (v := 1125899906842624) hX dX13_closes_37 (by decide) ?_
      refine zs_lcmp hX dX13_closes_40 ?_
      refine zs_if_lt (tgt := 47) hX dX13_closes_41 (by decide) (fun c3 => ?_) (fun c3 => ?_)
      · rw [if_pos c3] at h
        refine zs_iconst (v := 0) hX dX13_closes_47 (by decide) ?_
        refine zs_istore hX dX13_closes_48 (by decide) rfl ?_
        dsimp only [List.set]
        exact pl_closes_50 hX hc hk9 hk16 n _ _ _ _ _ _ h
      · rw [if_neg c3] at h
        refine zs_goto (tgt := 134) hX dX13_closes_44 (by decide) ?_
        refine zs_weak hX (lw := [some (.ref h0), some (.int x1), some (.int x2), some (.int x3), none, none, none, none, none]) ⟨rfl, rfl, rfl, rfl, trivial⟩ ?_
        exact pj_closes_134 hX hc hk9 hk16 h
set_option maxHeartbeats 4000000 in
theorem pl_closes_9 {h0 : Nat} {qs : List Nat} {ks : Nat → Nat} {n : Nat} {call : zCl} {kc : Nat → List Value → zSt → (Option Value → zSt → Prop) → Prop} {v : Option Value × zSt} {X : Nat → zLv → List Value → zSt → Prop} (hX : zSem cX13_closes 9 (some .boolean) h0 qs ks kc (fun r u => (r, u) = v) X) (hc : ∀ j av s w, call j av s = some w → kc j av s (fun r u => (r, u) = w)) : ∀ (f : Nat) (x1 : Int32) (x2 : Int32) (σ : zSt), l_closes_9 n call h0 qs ks f x1 x2 σ = some v → X 9 [some (.ref h0), some (.int x1), some (.int x2), none, none, none, none, none, none] [] σ := by
  intro f
  induction f with
  | zero => intro x1 x2 σ h; cases h
  | succ f hk9 =>
    intro x1 x2 σ h
    rw [l_closes_9] at h
    refine zs_iload_n hX dX13_closes_9 rfl rfl ?_
    refine zs_iload_n hX dX13_closes_10 rfl rfl ?_
    refine zs_icmp_ge (tgt := 146) hX dX13_closes_11 (by decide) (fun c1 => ?_) (fun c1 => ?_)
    · rw [if_pos c1] at h
      refine zs_iconst (v := 0) hX dX13_closes_146 (by decide) ?_
      refine zs_istore_n hX dX13_closes_147 rfl (by decide) rfl ?_
      dsimp only [List.set]
      exact pl_closes_148 hX hc n _ _ _ h
    · rw [if_neg c1] at h
      refine zs_iconst (v := 0) hX dX13_closes_14 (by decide) ?_
      refine zs_istore_n hX dX13_closes_15 rfl (by decide) rfl ?_
      dsimp only [List.set]
      exact pl_closes_16 hX hc hk9 n _ _ _ _ h
set_option maxHeartbeats 4000000 in
theorem pb_closes {h0 : Nat} {qs : List Nat} {ks : Nat → Nat} {n : Nat} {call : zCl} {kc : Nat → List Value → zSt → (Option Value → zSt → Prop) → Prop} {v : Option Value × zSt} {X : Nat → zLv → List Value → zSt → Prop} (hX : zSem cX13_closes 9 (some .boolean) h0 qs ks kc (fun r u => (r, u) = v) X) (hc : ∀ j av s w, call j av s = some w → kc j av s (fun r u => (r, u) = w)) {σ : zSt} (h : b_closes n call h0 qs ks σ = some v) : X 0 [some (.ref h0), none, none, none, none, none, none, none, none] [] σ := by
  rw [b_closes] at h
  refine zs_iconst (v := 2) hX dX13_closes_0 (by decide) ?_
  refine zs_aload_n hX dX13_closes_1 rfl rfl ?_
  refine zg_columns hX dX13_closes_2 ?_
  refine zs_imul hX dX13_closes_5 ?_
  refine zs_istore_n hX dX13_closes_6 rfl (by decide) rfl ?_
  dsimp only [List.set]
  refine zs_iconst (v := 0) hX dX13_closes_7 (by decide) ?_
  refine zs_istore_n hX dX13_closes_8 rfl (by decide) rfl ?_
  dsimp only [List.set]
  exact pl_closes_9 hX hc n _ _ _ h
def j_says_161 (n : Nat) (call : zCl) (h0 : Nat) (qs : List Nat) (ks : Nat → Nat) (x5 : Int64) (x7 : Int32) (t0 : Int32) (t1 : Int32) (σ : zSt) : zRs :=
  zgd (zin ((160 * (t0 + t1)) + x7) 25600) (
  if 0 < (lg_cmp (σ.2.2.2 88 (((160 * (t0 + t1)) + x7)).toNatClampNeg) (-x5)) then
    some (some (.int 0), σ)
  else
    some (some (.int 1), σ))
def j_says_145 (n : Nat) (call : zCl) (h0 : Nat) (qs : List Nat) (ks : Nat → Nat) (x3 : Int32) (x4 : Int32) (x5 : Int64) (t0 : Int32) (t1 : Int32) (σ : zSt) : zRs :=
  if x4 ≤ 0 then
    j_says_161 n call h0 qs ks x5 (t0 + t1) (2 * x3) 0 σ
  else
    j_says_161 n call h0 qs ks x5 (t0 + t1) (2 * x3) 1 σ
def j_says_98 (n : Nat) (call : zCl) (h0 : Nat) (qs : List Nat) (ks : Nat → Nat) (x9 : Int64) (t0 : Int32) (t1 : Int32) (σ : zSt) : zRs :=
  zgd (zin ((160 * ((t0 + t1) ^^^ 1)) + (t0 + t1)) 25600) (
  if 0 < (lg_cmp (σ.2.2.2 88 (((160 * ((t0 + t1) ^^^ 1)) + (t0 + t1))).toNatClampNeg) (2 * x9)) then
    some (some (.int 0), σ)
  else
    some (some (.int 1), σ))
def j_says_84 (n : Nat) (call : zCl) (h0 : Nat) (qs : List Nat) (ks : Nat → Nat) (x7 : Int32) (x8 : Int32) (x9 : Int64) (σ : zSt) : zRs :=
  if x8 ≤ 0 then
    j_says_98 n call h0 qs ks x9 (2 * x7) 1 σ
  else
    j_says_98 n call h0 qs ks x9 (2 * x7) 0 σ
def j_says_74 (n : Nat) (call : zCl) (h0 : Nat) (qs : List Nat) (ks : Nat → Nat) (x7 : Int32) (x8 : Int32) (x9 : Int64) (σ : zSt) : zRs :=
  zcl' (call 86 [.long x9, .long 2] σ) fun r3 s1 =>
  j_says_84 n call h0 qs ks x7 x8 r3 s1
def j_says_54 (n : Nat) (call : zCl) (h0 : Nat) (qs : List Nat) (ks : Nat → Nat) (x5 : Int64) (x7 : Int32) (t0 : Int32) (σ : zSt) : zRs :=
  if t0 = 2 then
    j_says_74 n call h0 qs ks x7 t0 (-x5) σ
  else
    if t0 = (-2) then
      j_says_74 n call h0 qs ks x7 t0 (-x5) σ
    else
      j_says_84 n call h0 qs ks x7 t0 (-x5) σ
def j_says_41 (n : Nat) (call : zCl) (h0 : Nat) (qs : List Nat) (ks : Nat → Nat) (x2 : Int32) (x4 : Int32) (x5 : Int64) (t0 : Int32) (σ : zSt) : zRs :=
  if x4 = 0 then
    j_says_54 n call h0 qs ks x5 t0 x2 σ
  else
    j_says_54 n call h0 qs ks x5 t0 x4 σ
def j_says_31 (n : Nat) (call : zCl) (h0 : Nat) (qs : List Nat) (ks : Nat → Nat) (x1 : Int32) (x2 : Int32) (x3 : Int32) (x4 : Int32) (x5 : Int64) (σ : zSt) : zRs :=
  if x4 = 0 then
    j_says_41 n call h0 qs ks x2 x4 x5 x1 σ
  else
    j_says_41 n call h0 qs ks x2 x4 x5 x3 σ
def j_says_22 (n : Nat) (call : zCl) (h0 : Nat) (qs : List Nat) (ks : Nat → Nat) (x1 : Int32) (x2 : Int32) (x3 : Int32) (x4 : Int32) (x5 : Int64) (σ : zSt) : zRs :=
  if x4 = 0 then
    j_says_31 n call h0 qs ks x1 x2 x3 x4 x5 σ
  else
    if x2 = 0 then
      j_says_31 n call h0 qs ks x1 x2 x3 x4 x5 σ
    else
      if x2 ≤ 0 then
        j_says_145 n call h0 qs ks x3 x4 x5 (2 * x1) 1 σ
      else
        j_says_145 n call h0 qs ks x3 x4 x5 (2 * x1) 0 σ
def b_says (n : Nat) (call : zCl) (h0 : Nat) (qs : List Nat) (ks : Nat → Nat) (x1 : Int32) (x2 : Int32) (x3 : Int32) (x4 : Int32) (x5 : Int64) (σ : zSt) : zRs :=
  if x2 = 0 then
    if x4 = 0 then
      if 0 < (lg_cmp x5 0) then
        some (some (.int 0), σ)
      else
        some (some (.int 1), σ)
    else
      j_says_22 n call h0 qs ks x1 x2 x3 x4 x5 σ
  else
    j_says_22 n call h0 qs ks x1 x2 x3 x4 x5 σ
set_option maxHeartbeats 4000000 in
theorem pj_says_161 {h0 : Nat} {qs : List Nat} {ks : Nat → Nat} {n : Nat} {call : zCl} {kc : Nat → List Value → zSt → (Option Value → zSt → Prop) → Prop} {v : Option Value × zSt} {X : Nat → zLv → List Value → zSt → Prop} (hX : zSem cX13_says 12 (some .boolean) h0 qs ks kc (fun r u => (r, u) = v) X) (hc : ∀ j av s w, call j av s = some w → kc j av s (fun r u => (r, u) = w)) {x5 : Int64} {x7 : Int32} {t0 : Int32} {t1 : Int32} {σ : zSt} (h : j_says_161 n call h0 qs ks x5 x7 t0 t1 σ = some v) : X 161 [some (.ref h0), none, none, none, none, some (.long x5), none, some (.int x7), none, none, none, none] [.int t1, .int t0] σ := by
  rw [j_says_161] at h
  refine zs_iadd hX dX13_says_161 ?_
  refine zs_istore hX dX13_says_162 (by decide) rfl ?_
  dsimp only [List.set]
  refine zs_aload_n hX dX13_says_164 rfl rfl ?_
  refine zg_bound hX dX13_says_165 ?_
  refine zs_sipush (v := 160) hX dX13_says_168 (by decide) ?_
  refine zs_iload hX dX13_says_171 rfl ?_
  refine zs_imul hX dX13_says_173 ?_
  refine zs_iload hX dX13_says_174 rfl ?_
  refine zs_iadd hX dX13_says_176 ?_
  obtain ⟨b1, h⟩ := zgd_e h
  refine zl_bound hX dX13_says_177 (zin_ok b1) ?_
  refine zs_lload hX dX13_says_178 rfl ?_
  refine zs_lneg hX dX13_says_180 ?_
  refine zs_lcmp hX dX13_says_181 ?_
  refine zs_if_gt (tgt := 189) hX dX13_says_182 (by decide) (fun c2 => ?_) (fun c2 => ?_)
  · rw [if_pos c2] at h
    refine zs_iconst (v := 0) hX dX13_says_189 (by decide) ?_
    exact zs_zret hX dX13_says_190 rfl (by decide) (Option.some.inj h)
  · rw [if_neg c2] at h
    refine zs_iconst (v := 1) hX dX13_says_185 (by decide) ?_
    refine zs_goto (tgt := 190) hX dX13_says_186 (by decide) ?_
    exact zs_zret hX dX13_says_190 rfl (by decide) (Option.some.inj h)
set_option maxHeartbeats 4000000 in
theorem pj_says_145 {h0 : Nat} {qs : List Nat} {ks : Nat → Nat} {n : Nat} {call : zCl} {kc : Nat → List Value → zSt → (Option Value → zSt → Prop) → Prop} {v : Option Value × zSt} {X : Nat → zLv → List Value → zSt → Prop} (hX : zSem cX13_says 12 (some .boolean) h0 qs ks kc (fun r u => (r, u) = v) X) (hc : ∀ j av s w, call j av s = some w → kc j av s (fun r u => (r, u) = w)) {x3 : Int32} {x4 : Int32} {x5 : Int64} {t0 : Int32} {t1 : Int32} {σ : zSt} (h : j_says_145 n call h0 qs ks x3 x4 x5 t0 t1 σ = some v) : X 145 [some (.ref h0), none, none, some (.int x3), some (.int x4), some (.long x5), none, none, none, none, none, none] [.int t1, .int t0] σ := by
  rw [j_says_145] at h
  refine zs_iadd hX dX13_says_145 ?_
  refine zs_istore hX dX13_says_146 (by decide) rfl ?_
  dsimp only [List.set]
  refine zs_iconst (v := 2) hX dX13_says_148 (by decide) ?_
  refine zs_iload_n hX dX13_says_149 rfl rfl ?_
  refine zs_imul hX dX13_says_150 ?_
  refine zs_iload hX dX13_says_151 rfl ?_
  refine zs_if_le (tgt := 160) hX dX13_says_153 (by decide) (fun c1 => ?_) (fun c1 => ?_)
  · rw [if_pos c1] at h
    refine zs_iconst (v := 0) hX dX13_says_160 (by decide) ?_
    refine zs_weak hX (lw := [some (.ref h0), none, none, none, none, some (.long x5), none, some (.int (t0 + t1)), none, none, none, none]) ⟨rfl, rfl, rfl, trivial⟩ ?_
    exact pj_says_161 hX hc h
  · rw [if_neg c1] at h
    refine zs_iconst (v := 1) hX dX13_says_156 (by decide) ?_
    refine zs_goto (tgt := 161) hX dX13_says_157 (by decide) ?_
    refine zs_weak hX (lw := [some (.ref h0), none, none, none, none, some (.long x5), none, some (.int (t0 + t1)), none, none, none, none]) ⟨rfl, rfl, rfl, trivial⟩ ?_
    exact pj_says_161 hX hc h
set_option maxHeartbeats 4000000 in
theorem pj_says_98 {h0 : Nat} {qs : List Nat} {ks : Nat → Nat} {n : Nat} {call : zCl} {kc : Nat → List Value → zSt → (Option Value → zSt → Prop) → Prop} {v : Option Value × zSt} {X : Nat → zLv → List Value → zSt → Prop} (hX : zSem cX13_says 12 (some .boolean) h0 qs ks kc (fun r u => (r, u) = v) X) (hc : ∀ j av s w, call j av s = some w → kc j av s (fun r u => (r, u) = w)) {x9 : Int64} {t0 : Int32} {t1 : Int32} {σ : zSt} (h : j_says_98 n call h0 qs ks x9 t0 t1 σ = some v) : X 98 [some (.ref h0), none, none, none, none, none, none, none, none, some (.long x9), none, none] [.int t1, .int t0] σ := by
  rw [j_says_98] at h
  refine zs_iadd hX dX13_says_98 ?_
  refine zs_istore hX dX13_says_99 (by decide) rfl ?_
  dsimp only [List.set]
  refine zs_aload_n hX dX13_says_101 rfl rfl ?_
  refine zg_bound hX dX13_says_102 ?_
  refine zs_sipush (v := 160) hX dX13_says_105 (by decide) ?_
  refine zs_iload hX dX13_says_108 rfl ?_
  refine zs_iconst (v := 1) hX dX13_says_110 (by decide) ?_
  refine zs_ixor hX dX13_says_111 ?_
  refine zs_imul hX dX13_says_112 ?_
  refine zs_iload hX dX13_says_113 rfl ?_
  refine zs_iadd hX dX13_says_115 ?_
  obtain ⟨b1, h⟩ := zgd_e h
  refine zl_bound hX dX13_says_116 (zin_ok b1) ?_
  refine zs_ldc2 (v := 2) hX dX13_says_117 (by decide) ?_
  refine zs_lload hX dX13_says_120 rfl ?_
  refine zs_lmul hX dX13_says_122 ?_
  refine zs_lcmp hX dX13_says_123 ?_
  refine zs_if_gt (tgt := 131) hX dX13_says_124 (by decide) (fun c2 => ?_) (fun c2 => ?_)
  · rw [if_pos c2] at h
    refine zs_iconst (v := 0) hX dX13_says_131 (by decide) ?_
    exact zs_zret hX dX13_says_132 rfl (by decide) (Option.some.inj h)
  · rw [if_neg c2] at h
    refine zs_iconst (v := 1) hX dX13_says_127 (by decide) ?_
    refine zs_goto (tgt := 132) hX dX13_says_128 (by decide) ?_
    exact zs_zret hX dX13_says_132 rfl (by decide) (Option.some.inj h)
set_option maxHeartbeats 4000000 in
theorem pj_says_84 {h0 : Nat} {qs : List Nat} {ks : Nat → Nat} {n : Nat} {call : zCl} {kc : Nat → List Value → zSt → (Option Value → zSt → Prop) → Prop} {v : Option Value × zSt} {X : Nat → zLv → List Value → zSt → Prop} (hX : zSem cX13_says 12 (some .boolean) h0 qs ks kc (fun r u => (r, u) = v) X) (hc : ∀ j av s w, call j av s = some w → kc j av s (fun r u => (r, u) = w)) {x7 : Int32} {x8 : Int32} {x9 : Int64} {σ : zSt} (h : j_says_84 n call h0 qs ks x7 x8 x9 σ = some v) : X 84 [some (.ref h0), none, none, none, none, none, none, some (.int x7), some (.int x8), some (.long x9), none, none] [] σ := by
  rw [j_says_84] at h
  refine zs_iconst (v := 2) hX dX13_says_84 (by decide) ?_
  refine zs_iload hX dX13_says_85 rfl ?_
  refine zs_imul hX dX13_says_87 ?_
  refine zs_iload hX dX13_says_88 rfl ?_
  refine zs_if_le (tgt := 97) hX dX13_says_90 (by decide) (fun c1 => ?_) (fun c1 => ?_)
  · rw [if_pos c1] at h
    refine zs_iconst (v := 1) hX dX13_says_97 (by decide) ?_
    refine zs_weak hX (lw := [some (.ref h0), none, none, none, none, none, none, none, none, some (.long x9), none, none]) ⟨rfl, rfl, trivial⟩ ?_
    exact pj_says_98 hX hc h
  · rw [if_neg c1] at h
    refine zs_iconst (v := 0) hX dX13_says_93 (by decide) ?_
    refine zs_goto (tgt := 98) hX dX13_says_94 (by decide) ?_
    refine zs_weak hX (lw := [some (.ref h0), none, none, none, none, none, none, none, none, some (.long x9), none, none]) ⟨rfl, rfl, trivial⟩ ?_
    exact pj_says_98 hX hc h
set_option maxHeartbeats 4000000 in
theorem pj_says_74 {h0 : Nat} {qs : List Nat} {ks : Nat → Nat} {n : Nat} {call : zCl} {kc : Nat → List Value → zSt → (Option Value → zSt → Prop) → Prop} {v : Option Value × zSt} {X : Nat → zLv → List Value → zSt → Prop} (hX : zSem cX13_says 12 (some .boolean) h0 qs ks kc (fun r u => (r, u) = v) X) (hc : ∀ j av s w, call j av s = some w → kc j av s (fun r u => (r, u) = w)) {x7 : Int32} {x8 : Int32} {x9 : Int64} {σ : zSt} (h : j_says_74 n call h0 qs ks x7 x8 x9 σ = some v) : X 74 [some (.ref h0), none, none, none, none, none, none, some (.int x7), some (.int x8), some (.long x9), none, none] [] σ := by
  rw [j_says_74] at h
  refine zs_lload hX dX13_says_74 rfl ?_
  refine zs_ldc2 (v := 2) hX dX13_says_76 (by decide) ?_
  obtain ⟨r3, s1, e2, h⟩ := zcl'_e h
  refine zc_downwards hX dX13_says_79 (Nat.le_of_ble_eq_true rfl) (hc _ _ _ _ e2) (fun r9 u9 h9 => ?_)
  cases h9
  refine zs_lstore hX dX13_says_82 (by decide) rfl ?_
  dsimp only [List.set]
  exact pj_says_84 hX hc h
set_option maxHeartbeats 4000000 in
theorem pj_says_54 {h0 : Nat} {qs : List Nat} {ks : Nat → Nat} {n : Nat} {call : zCl} {kc : Nat → List Value → zSt → (Option Value → zSt → Prop) → Prop} {v : Option Value × zSt} {X : Nat → zLv → List Value → zSt → Prop} (hX : zSem cX13_says 12 (some .boolean) h0 qs ks kc (fun r u => (r, u) = v) X) (hc : ∀ j av s w, call j av s = some w → kc j av s (fun r u => (r, u) = w)) {x5 : Int64} {x7 : Int32} {t0 : Int32} {σ : zSt} (h : j_says_54 n call h0 qs ks x5 x7 t0 σ = some v) : X 54 [some (.ref h0), none, none, none, none, some (.long x5), none, some (.int x7), none, none, none, none] [.int t0] σ := by
  rw [j_says_54] at h
  refine zs_istore hX dX13_says_54 (by decide) rfl ?_
  dsimp only [List.set]
  refine zs_lload hX dX13_says_56 rfl ?_
  refine zs_lneg hX dX13_says_58 ?_
  refine zs_lstore hX dX13_says_59 (by decide) rfl ?_
  dsimp only [List.set]
  refine zs_iload hX dX13_says_61 rfl ?_
  refine zs_iconst (v := 2) hX dX13_says_63 (by decide) ?_
  refine zs_icmp_eq (tgt := 74) hX dX13_says_64 (by decide) (fun c1 => ?_) (fun c1 => ?_)
  · rw [if_pos c1] at h
    refine zs_weak hX (lw := [some (.ref h0), none, none, none, none, none, none, some (.int x7), some (.int t0), some (.long (-x5)), none, none]) ⟨rfl, rfl, rfl, rfl, trivial⟩ ?_
    exact pj_says_74 hX hc h
  · rw [if_neg c1] at h
    refine zs_iload hX dX13_says_67 rfl ?_
    refine zs_bipush (v := (-2)) hX dX13_says_69 (by decide) ?_
    refine zs_icmp_ne (tgt := 84) hX dX13_says_71 (by decide) (fun c2 => ?_) (fun c2 => ?_)
    · rw [if_neg c2] at h
      refine zs_weak hX (lw := [some (.ref h0), none, none, none, none, none, none, some (.int x7), some (.int t0), some (.long (-x5)), none, none]) ⟨rfl, rfl, rfl, rfl, trivial⟩ ?_
      exact pj_says_84 hX hc h
    · rw [if_pos c2] at h
      refine zs_weak hX (lw := [some (.ref h0), none, none, none, none, none, none, some (.int x7), some (.int t0), some (.long (-x5)), none, none]) ⟨rfl, rfl, rfl, rfl, trivial⟩ ?_
      exact pj_says_74 hX hc h
set_option maxHeartbeats 4000000 in
theorem pj_says_41 {h0 : Nat} {qs : List Nat} {ks : Nat → Nat} {n : Nat} {call : zCl} {kc : Nat → List Value → zSt → (Option Value → zSt → Prop) → Prop} {v : Option Value × zSt} {X : Nat → zLv → List Value → zSt → Prop} (hX : zSem cX13_says 12 (some .boolean) h0 qs ks kc (fun r u => (r, u) = v) X) (hc : ∀ j av s w, call j av s = some w → kc j av s (fun r u => (r, u) = w)) {x2 : Int32} {x4 : Int32} {x5 : Int64} {t0 : Int32} {σ : zSt} (h : j_says_41 n call h0 qs ks x2 x4 x5 t0 σ = some v) : X 41 [some (.ref h0), none, some (.int x2), none, some (.int x4), some (.long x5), none, none, none, none, none, none] [.int t0] σ := by
  rw [j_says_41] at h
  refine zs_istore hX dX13_says_41 (by decide) rfl ?_
  dsimp only [List.set]
  refine zs_iload hX dX13_says_43 rfl ?_
  refine zs_if_ne (tgt := 52) hX dX13_says_45 (by decide) (fun c1 => ?_) (fun c1 => ?_)
  · rw [if_neg c1] at h
    refine zs_iload hX dX13_says_52 rfl ?_
    refine zs_weak hX (lw := [some (.ref h0), none, none, none, none, some (.long x5), none, some (.int t0), none, none, none, none]) ⟨rfl, rfl, rfl, trivial⟩ ?_
    exact pj_says_54 hX hc h
  · rw [if_pos c1] at h
    refine zs_iload_n hX dX13_says_48 rfl rfl ?_
    refine zs_goto (tgt := 54) hX dX13_says_49 (by decide) ?_
    refine zs_weak hX (lw := [some (.ref h0), none, none, none, none, some (.long x5), none, some (.int t0), none, none, none, none]) ⟨rfl, rfl, rfl, trivial⟩ ?_
    exact pj_says_54 hX hc h
set_option maxHeartbeats 4000000 in
theorem pj_says_31 {h0 : Nat} {qs : List Nat} {ks : Nat → Nat} {n : Nat} {call : zCl} {kc : Nat → List Value → zSt → (Option Value → zSt → Prop) → Prop} {v : Option Value × zSt} {X : Nat → zLv → List Value → zSt → Prop} (hX : zSem cX13_says 12 (some .boolean) h0 qs ks kc (fun r u => (r, u) = v) X) (hc : ∀ j av s w, call j av s = some w → kc j av s (fun r u => (r, u) = w)) {x1 : Int32} {x2 : Int32} {x3 : Int32} {x4 : Int32} {x5 : Int64} {σ : zSt} (h : j_says_31 n call h0 qs ks x1 x2 x3 x4 x5 σ = some v) : X 31 [some (.ref h0), some (.int x1), some (.int x2), some (.int x3), some (.int x4), some (.long x5), none, none, none, none, none, none] [] σ := by
  rw [j_says_31] at h
  refine zs_iload hX dX13_says_31 rfl ?_
  refine zs_if_ne (tgt := 40) hX dX13_says_33 (by decide) (fun c1 => ?_) (fun c1 => ?_)
  · rw [if_neg c1] at h
    refine zs_iload_n hX dX13_says_40 rfl rfl ?_
    refine zs_weak hX (lw := [some (.ref h0), none, some (.int x2), none, some (.int x4), some (.long x5), none, none, none, none, none, none]) ⟨rfl, rfl, rfl, rfl, trivial⟩ ?_
    exact pj_says_41 hX hc h
  · rw [if_pos c1] at h
    refine zs_iload_n hX dX13_says_36 rfl rfl ?_
    refine zs_goto (tgt := 41) hX dX13_says_37 (by decide) ?_
    refine zs_weak hX (lw := [some (.ref h0), none, some (.int x2), none, some (.int x4), some (.long x5), none, none, none, none, none, none]) ⟨rfl, rfl, rfl, rfl, trivial⟩ ?_
    exact pj_says_41 hX hc h
set_option maxHeartbeats 4000000 in
theorem pj_says_22 {h0 : Nat} {qs : List Nat} {ks : Nat → Nat} {n : Nat} {call : zCl} {kc : Nat → List Value → zSt → (Option Value → zSt → Prop) → Prop} {v : Option Value × zSt} {X : Nat → zLv → List Value → zSt → Prop} (hX : zSem cX13_says 12 (some .boolean) h0 qs ks kc (fun r u => (r, u) = v) X) (hc : ∀ j av s w, call j av s = some w → kc j av s (fun r u => (r, u) = w)) {x1 : Int32} {x2 : Int32} {x3 : Int32} {x4 : Int32} {x5 : Int64} {σ : zSt} (h : j_says_22 n call h0 qs ks x1 x2 x3 x4 x5 σ = some v) : X 22 [some (.ref h0), some (.int x1), some (.int x2), some (.int x3), some (.int x4), some (.long x5), none, none, none, none, none, none] [] σ := by
  rw [j_says_22] at h
  refine zs_iload hX dX13_says_22 rfl ?_
  refine zs_if_eq (tgt := 31) hX dX13_says_24 (by decide) (fun c1 => ?_) (fun c1 => ?_)
  · rw [if_pos c1] at h
    exact pj_says_31 hX hc h
  · rw [if_neg c1] at h
    refine zs_iload_n hX dX13_says_27 rfl rfl ?_
    refine zs_if_ne (tgt := 133) hX dX13_says_28 (by decide) (fun c2 => ?_) (fun c2 => ?_)
    · rw [if_neg c2] at h
      refine zs_iconst (v := 2) hX dX13_says_133 (by decide) ?_
      refine zs_iload_n hX dX13_says_134 rfl rfl ?_
      refine zs_imul hX dX13_says_135 ?_
      refine zs_iload_n hX dX13_says_136 rfl rfl ?_
      refine zs_if_le (tgt := 144) hX dX13_says_137 (by decide) (fun c3 => ?_) (fun c3 => ?_)
      · rw [if_pos c3] at h
        refine zs_iconst (v := 1) hX dX13_says_144 (by decide) ?_
        refine zs_weak hX (lw := [some (.ref h0), none, none, some (.int x3), some (.int x4), some (.long x5), none, none, none, none, none, none]) ⟨rfl, rfl, rfl, rfl, trivial⟩ ?_
        exact pj_says_145 hX hc h
      · rw [if_neg c3] at h
        refine zs_iconst (v := 0) hX dX13_says_140 (by decide) ?_
        refine zs_goto (tgt := 145) hX dX13_says_141 (by decide) ?_
        refine zs_weak hX (lw := [some (.ref h0), none, none, some (.int x3), some (.int x4), some (.long x5), none, none, none, none, none, none]) ⟨rfl, rfl, rfl, rfl, trivial⟩ ?_
        exact pj_says_145 hX hc h
    · rw [if_pos c2] at h
      exact pj_says_31 hX hc h
set_option maxHeartbeats 4000000 in
theorem pb_says {h0 : Nat} {qs : List Nat} {ks : Nat → Nat} {n : Nat} {call : zCl} {kc : Nat → List Value → zSt → (Option Value → zSt → Prop) → Prop} {v : Option Value × zSt} {X : Nat → zLv → List Value → zSt → Prop} (hX : zSem cX13_says 12 (some .boolean) h0 qs ks kc (fun r u => (r, u) = v) X) (hc : ∀ j av s w, call j av s = some w → kc j av s (fun r u => (r, u) = w)) {x1 : Int32} {x2 : Int32} {x3 : Int32} {x4 : Int32} {x5 : Int64} {σ : zSt} (h : b_says n call h0 qs ks x1 x2 x3 x4 x5 σ = some v) : X 0 [some (.ref h0), some (.int x1), some (.int x2), some (.int x3), some (.int x4), some (.long x5), none, none, none, none, none, none] [] σ := by
  rw [b_says] at h
  refine zs_iload_n hX dX13_says_0 rfl rfl ?_
  refine zs_if_ne (tgt := 22) hX dX13_says_1 (by decide) (fun c1 => ?_) (fun c1 => ?_)
  · rw [if_neg c1] at h
    exact pj_says_22 hX hc h
  · rw [if_pos c1] at h
    refine zs_iload hX dX13_says_4 rfl ?_
    refine zs_if_ne (tgt := 22) hX dX13_says_6 (by decide) (fun c2 => ?_) (fun c2 => ?_)
    · rw [if_neg c2] at h
      exact pj_says_22 hX hc h
    · rw [if_pos c2] at h
      refine zs_lload hX dX13_says_9 rfl ?_
      refine zs_lconst (v := 0) hX dX13_says_11 (by decide) ?_
      refine zs_lcmp hX dX13_says_12 ?_
      refine zs_if_gt (tgt := 20) hX dX13_says_13 (by decide) (fun c3 => ?_) (fun c3 => ?_)
      · rw [if_pos c3] at h
        refine zs_iconst (v := 0) hX dX13_says_20 (by decide) ?_
        exact zs_zret hX dX13_says_21 rfl (by decide) (Option.some.inj h)
      · rw [if_neg c3] at h
        refine zs_iconst (v := 1) hX dX13_says_16 (by decide) ?_
        refine zs_goto (tgt := 21) hX dX13_says_17 (by decide) ?_
        exact zs_zret hX dX13_says_21 rfl (by decide) (Option.some.inj h)
def b_putIn (n : Nat) (call : zCl) (h0 : Nat) (qs : List Nat) (ks : Nat → Nat) (x1 : Int32) (σ : zSt) : zRs :=
  if 0 ≤ x1 then
    zgd (zin x1 24000) (
    zcv (call 91 [.ref h0, .int (σ.2.2.1 58 (x1).toNatClampNeg)] σ) fun s3 =>
    if (s3.1 141) = 0 then
      if (s3.1 139) = 0 then
        some (none, s3)
      else
        zgd (zin x1 24000) (
        if (s3.1 138) = (s3.2.2.1 55 (x1).toNatClampNeg) then
          zlet (zI s3 141 1) fun s9 =>
          zgd (zin x1 24000) (
          zlet (zJ s9 140 ((s9.2.1 140) + ((((s9.1 139)).toInt64) * (s9.2.2.2 59 (x1).toNatClampNeg)))) fun s12 =>
          zgd (zin x1 24000) (
          zlet (zI s12 139 ((s12.1 139) * (s12.2.2.1 57 (x1).toNatClampNeg))) fun s15 =>
          if (s15.1 139) = 0 then
            zlet (zI s15 138 (-1)) fun s21 =>
            some (none, s21)
          else
            zgd (zin x1 24000) (
            zlet (zI s15 138 (s15.2.2.1 56 (x1).toNatClampNeg)) fun s19 =>
            some (none, s19))))
        else
          some (none, s3))
    else
      some (none, s3))
  else
    some (none, σ)
set_option maxHeartbeats 4000000 in
theorem pb_putIn {h0 : Nat} {qs : List Nat} {ks : Nat → Nat} {n : Nat} {call : zCl} {kc : Nat → List Value → zSt → (Option Value → zSt → Prop) → Prop} {v : Option Value × zSt} {X : Nat → zLv → List Value → zSt → Prop} (hX : zSem cX13_putIn 2 none h0 qs ks kc (fun r u => (r, u) = v) X) (hc : ∀ j av s w, call j av s = some w → kc j av s (fun r u => (r, u) = w)) {x1 : Int32} {σ : zSt} (h : b_putIn n call h0 qs ks x1 σ = some v) : X 0 [some (.ref h0), some (.int x1)] [] σ := by
  rw [b_putIn] at h
  refine zs_iload_n hX dX13_putIn_0 rfl rfl ?_
  refine zs_if_ge (tgt := 5) hX dX13_putIn_1 (by decide) (fun c1 => ?_) (fun c1 => ?_)
  · rw [if_pos c1] at h
    refine zs_aload_n hX dX13_putIn_5 rfl rfl ?_
    refine zs_aload_n hX dX13_putIn_6 rfl rfl ?_
    refine zg_putNext hX dX13_putIn_7 ?_
    refine zs_iload_n hX dX13_putIn_10 rfl rfl ?_
    obtain ⟨b2, h⟩ := zgd_e h
    refine zl_putNext hX dX13_putIn_11 (zin_ok b2) ?_
    obtain ⟨s3, e4, h⟩ := zcv_e h
    refine zc_putIn hX dX13_putIn_12 (Nat.le_of_ble_eq_true rfl) (hc _ _ _ _ e4) (fun u9 h9 => ?_)
    cases h9
    refine zs_aload_n hX dX13_putIn_15 rfl rfl ?_
    refine zg_wasPut hX dX13_putIn_16 ?_
    refine zs_if_ne (tgt := 42) hX dX13_putIn_19 (by decide) (fun c5 => ?_) (fun c5 => ?_)
    · rw [if_neg c5] at h
      exact zs_vret hX dX13_putIn_42 rfl (Option.some.inj h)
    · rw [if_pos c5] at h
      refine zs_aload_n hX dX13_putIn_22 rfl rfl ?_
      refine zg_uTimes hX dX13_putIn_23 ?_
      refine zs_if_eq (tgt := 42) hX dX13_putIn_26 (by decide) (fun c6 => ?_) (fun c6 => ?_)
      · rw [if_pos c6] at h
        exact zs_vret hX dX13_putIn_42 rfl (Option.some.inj h)
      · rw [if_neg c6] at h
        refine zs_aload_n hX dX13_putIn_29 rfl rfl ?_
        refine zg_uName hX dX13_putIn_30 ?_
        refine zs_aload_n hX dX13_putIn_33 rfl rfl ?_
        refine zg_putName hX dX13_putIn_34 ?_
        refine zs_iload_n hX dX13_putIn_37 rfl rfl ?_
        obtain ⟨b7, h⟩ := zgd_e h
        refine zl_putName hX dX13_putIn_38 (zin_ok b7) ?_
        refine zs_icmp_eq (tgt := 43) hX dX13_putIn_39 (by decide) (fun c8 => ?_) (fun c8 => ?_)
        · rw [if_pos c8] at h
          refine zs_aload_n hX dX13_putIn_43 rfl rfl ?_
          refine zs_iconst (v := 1) hX dX13_putIn_44 (by decide) ?_
          obtain ⟨s9, e10, h⟩ := zlet_e h
          refine zp_wasPut hX dX13_putIn_45 (by decide) (by decide) ?_
          rw [← e10]
          refine zs_aload_n hX dX13_putIn_48 rfl rfl ?_
          refine zs_dup hX dX13_putIn_49 rfl ?_
          refine zg_uNumber hX dX13_putIn_50 ?_
          refine zs_aload_n hX dX13_putIn_53 rfl rfl ?_
          refine zg_uTimes hX dX13_putIn_54 ?_
          refine zs_i2l hX dX13_putIn_57 ?_
          refine zs_aload_n hX dX13_putIn_58 rfl rfl ?_
          refine zg_putNumber hX dX13_putIn_59 ?_
          refine zs_iload_n hX dX13_putIn_62 rfl rfl ?_
          obtain ⟨b11, h⟩ := zgd_e h
          refine zl_putNumber hX dX13_putIn_63 (zin_ok b11) ?_
          refine zs_lmul hX dX13_putIn_64 ?_
          refine zs_ladd hX dX13_putIn_65 ?_
          obtain ⟨s12, e13, h⟩ := zlet_e h
          refine zp_uNumber hX dX13_putIn_66 ?_
          rw [← e13]
          refine zs_aload_n hX dX13_putIn_69 rfl rfl ?_
          refine zs_aload_n hX dX13_putIn_70 rfl rfl ?_
          refine zg_uTimes hX dX13_putIn_71 ?_
          refine zs_aload_n hX dX13_putIn_74 rfl rfl ?_
          refine zg_putTimes hX dX13_putIn_75 ?_
          refine zs_iload_n hX dX13_putIn_78 rfl rfl ?_
          obtain ⟨b14, h⟩ := zgd_e h
          refine zl_putTimes hX dX13_putIn_79 (zin_ok b14) ?_
          refine zs_imul hX dX13_putIn_80 ?_
          obtain ⟨s15, e16, h⟩ := zlet_e h
          refine zp_uTimes hX dX13_putIn_81 ?_
          rw [← e16]
          refine zs_aload_n hX dX13_putIn_84 rfl rfl ?_
          refine zs_aload_n hX dX13_putIn_85 rfl rfl ?_
          refine zg_uTimes hX dX13_putIn_86 ?_
          refine zs_if_ne (tgt := 96) hX dX13_putIn_89 (by decide) (fun c17 => ?_) (fun c17 => ?_)
          · rw [if_neg c17] at h
            refine zs_aload_n hX dX13_putIn_96 rfl rfl ?_
            refine zg_putBy hX dX13_putIn_97 ?_
            refine zs_iload_n hX dX13_putIn_100 rfl rfl ?_
            obtain ⟨b18, h⟩ := zgd_e h
            refine zl_putBy hX dX13_putIn_101 (zin_ok b18) ?_
            obtain ⟨s19, e20, h⟩ := zlet_e h
            refine zp_uName hX dX13_putIn_102 ?_
            rw [← e20]
            exact zs_vret hX dX13_putIn_105 rfl (Option.some.inj h)
          · rw [if_pos c17] at h
            refine zs_iconst (v := (-1)) hX dX13_putIn_92 (by decide) ?_
            refine zs_goto (tgt := 102) hX dX13_putIn_93 (by decide) ?_
            obtain ⟨s21, e22, h⟩ := zlet_e h
            refine zp_uName hX dX13_putIn_102 ?_
            rw [← e22]
            exact zs_vret hX dX13_putIn_105 rfl (Option.some.inj h)
        · rw [if_neg c8] at h
          exact zs_vret hX dX13_putIn_42 rfl (Option.some.inj h)
  · rw [if_neg c1] at h
    exact zs_vret hX dX13_putIn_4 rfl (Option.some.inj h)
def j_termOf_15 (n : Nat) (call : zCl) (h0 : Nat) (qs : List Nat) (ks : Nat → Nat) (x3 : Int64) (x5 : Int32) (t1 : Int32) (σ : zSt) : zRs :=
  zlet (zI σ 139 t1) fun s1 =>
  zlet (zJ s1 140 x3) fun s3 =>
  zlet (zI s3 141 0) fun s5 =>
  zcv (call 91 [.ref h0, .int x5] s5) fun s7 =>
  some (none, s7)
def b_termOf (n : Nat) (call : zCl) (h0 : Nat) (qs : List Nat) (ks : Nat → Nat) (x1 : Int32) (x2 : Int32) (x3 : Int64) (x5 : Int32) (σ : zSt) : zRs :=
  zlet (zI σ 138 x1) fun s1 =>
  if 0 ≤ x1 then
    j_termOf_15 n call h0 qs ks x3 x5 x2 s1
  else
    j_termOf_15 n call h0 qs ks x3 x5 0 s1
set_option maxHeartbeats 4000000 in
theorem pj_termOf_15 {h0 : Nat} {qs : List Nat} {ks : Nat → Nat} {n : Nat} {call : zCl} {kc : Nat → List Value → zSt → (Option Value → zSt → Prop) → Prop} {v : Option Value × zSt} {X : Nat → zLv → List Value → zSt → Prop} (hX : zSem cX13_termOf 6 none h0 qs ks kc (fun r u => (r, u) = v) X) (hc : ∀ j av s w, call j av s = some w → kc j av s (fun r u => (r, u) = w)) {x3 : Int64} {x5 : Int32} {t1 : Int32} {σ : zSt} (h : j_termOf_15 n call h0 qs ks x3 x5 t1 σ = some v) : X 15 [some (.ref h0), none, none, some (.long x3), none, some (.int x5)] [.int t1, .ref h0] σ := by
  rw [j_termOf_15] at h
  obtain ⟨s1, e2, h⟩ := zlet_e h
  refine zp_uTimes hX dX13_termOf_15 ?_
  rw [← e2]
  refine zs_aload_n hX dX13_termOf_18 rfl rfl ?_
  refine zs_lload_n hX dX13_termOf_19 rfl rfl ?_
  obtain ⟨s3, e4, h⟩ := zlet_e h
  refine zp_uNumber hX dX13_termOf_20 ?_
  rw [← e4]
  refine zs_aload_n hX dX13_termOf_23 rfl rfl ?_
  refine zs_iconst (v := 0) hX dX13_termOf_24 (by decide) ?_
  obtain ⟨s5, e6, h⟩ := zlet_e h
  refine zp_wasPut hX dX13_termOf_25 (by decide) (by decide) ?_
  rw [← e6]
  refine zs_aload_n hX dX13_termOf_28 rfl rfl ?_
  refine zs_iload hX dX13_termOf_29 rfl ?_
  obtain ⟨s7, e8, h⟩ := zcv_e h
  refine zc_putIn hX dX13_termOf_31 (Nat.le_of_ble_eq_true rfl) (hc _ _ _ _ e8) (fun u9 h9 => ?_)
  cases h9
  exact zs_vret hX dX13_termOf_34 rfl (Option.some.inj h)
set_option maxHeartbeats 4000000 in
theorem pb_termOf {h0 : Nat} {qs : List Nat} {ks : Nat → Nat} {n : Nat} {call : zCl} {kc : Nat → List Value → zSt → (Option Value → zSt → Prop) → Prop} {v : Option Value × zSt} {X : Nat → zLv → List Value → zSt → Prop} (hX : zSem cX13_termOf 6 none h0 qs ks kc (fun r u => (r, u) = v) X) (hc : ∀ j av s w, call j av s = some w → kc j av s (fun r u => (r, u) = w)) {x1 : Int32} {x2 : Int32} {x3 : Int64} {x5 : Int32} {σ : zSt} (h : b_termOf n call h0 qs ks x1 x2 x3 x5 σ = some v) : X 0 [some (.ref h0), some (.int x1), some (.int x2), some (.long x3), none, some (.int x5)] [] σ := by
  rw [b_termOf] at h
  refine zs_aload_n hX dX13_termOf_0 rfl rfl ?_
  refine zs_iload_n hX dX13_termOf_1 rfl rfl ?_
  obtain ⟨s1, e2, h⟩ := zlet_e h
  refine zp_uName hX dX13_termOf_2 ?_
  rw [← e2]
  refine zs_aload_n hX dX13_termOf_5 rfl rfl ?_
  refine zs_iload_n hX dX13_termOf_6 rfl rfl ?_
  refine zs_if_ge (tgt := 14) hX dX13_termOf_7 (by decide) (fun c3 => ?_) (fun c3 => ?_)
  · rw [if_pos c3] at h
    refine zs_iload_n hX dX13_termOf_14 rfl rfl ?_
    refine zs_weak hX (lw := [some (.ref h0), none, none, some (.long x3), none, some (.int x5)]) ⟨rfl, rfl, rfl, trivial⟩ ?_
    exact pj_termOf_15 hX hc h
  · rw [if_neg c3] at h
    refine zs_iconst (v := 0) hX dX13_termOf_10 (by decide) ?_
    refine zs_goto (tgt := 15) hX dX13_termOf_11 (by decide) ?_
    refine zs_weak hX (lw := [some (.ref h0), none, none, some (.long x3), none, some (.int x5)]) ⟨rfl, rfl, rfl, trivial⟩ ?_
    exact pj_termOf_15 hX hc h
def j_instanceTerm_39 (n : Nat) (call : zCl) (h0 : Nat) (qs : List Nat) (ks : Nat → Nat) (x2 : Int32) (x3 : Int32) (t1 : Int32) (t2 : Int32) (σ : zSt) : zRs :=
  zgd (zin x3 6) (
  zcv (call 92 [.ref h0, .int t1, .int t2, .long (((σ.2.2.1 26 (x3).toNatClampNeg)).toInt64), .int x2] σ) fun s2 =>
  some (none, s2))
def b_instanceTerm (n : Nat) (call : zCl) (h0 : Nat) (qs : List Nat) (ks : Nat → Nat) (x1 : Int32) (x2 : Int32) (σ : zSt) : zRs :=
  zgd (zin x1 8000) (
  zgd (zin (σ.2.2.1 63 (x1).toNatClampNeg) 6) (
  if (σ.2.2.1 25 ((σ.2.2.1 63 (x1).toNatClampNeg)).toNatClampNeg) = 1 then
    zgd (zin x1 8000) (
    zgd (zin (σ.2.2.1 63 (x1).toNatClampNeg) 6) (
    if (σ.2.2.1 24 ((σ.2.2.1 63 (x1).toNatClampNeg)).toNatClampNeg) = 1 then
      j_instanceTerm_39 n call h0 qs ks x2 (σ.2.2.1 63 (x1).toNatClampNeg) (σ.2.2.1 64 (x1).toNatClampNeg) (-1) σ
    else
      j_instanceTerm_39 n call h0 qs ks x2 (σ.2.2.1 63 (x1).toNatClampNeg) (σ.2.2.1 64 (x1).toNatClampNeg) 1 σ))
  else
    zgd (zin (σ.2.2.1 63 (x1).toNatClampNeg) 6) (
    zcv (call 92 [.ref h0, .int (-1), .int 0, .long (((σ.2.2.1 26 ((σ.2.2.1 63 (x1).toNatClampNeg)).toNatClampNeg)).toInt64), .int x2] σ) fun s5 =>
    some (none, s5))))
set_option maxHeartbeats 4000000 in
theorem pj_instanceTerm_39 {h0 : Nat} {qs : List Nat} {ks : Nat → Nat} {n : Nat} {call : zCl} {kc : Nat → List Value → zSt → (Option Value → zSt → Prop) → Prop} {v : Option Value × zSt} {X : Nat → zLv → List Value → zSt → Prop} (hX : zSem cX13_instanceTerm 4 none h0 qs ks kc (fun r u => (r, u) = v) X) (hc : ∀ j av s w, call j av s = some w → kc j av s (fun r u => (r, u) = w)) {x2 : Int32} {x3 : Int32} {t1 : Int32} {t2 : Int32} {σ : zSt} (h : j_instanceTerm_39 n call h0 qs ks x2 x3 t1 t2 σ = some v) : X 39 [some (.ref h0), none, some (.int x2), some (.int x3)] [.int t2, .int t1, .ref h0] σ := by
  rw [j_instanceTerm_39] at h
  refine zs_aload_n hX dX13_instanceTerm_39 rfl rfl ?_
  refine zg_qNumber hX dX13_instanceTerm_40 ?_
  refine zs_iload_n hX dX13_instanceTerm_43 rfl rfl ?_
  obtain ⟨b1, h⟩ := zgd_e h
  refine zl_qNumber hX dX13_instanceTerm_44 (zin_ok b1) ?_
  refine zs_i2l hX dX13_instanceTerm_45 ?_
  refine zs_iload_n hX dX13_instanceTerm_46 rfl rfl ?_
  obtain ⟨s2, e3, h⟩ := zcv_e h
  refine zc_termOf hX dX13_instanceTerm_47 (Nat.le_of_ble_eq_true rfl) (hc _ _ _ _ e3) (fun u9 h9 => ?_)
  cases h9
  refine zs_goto (tgt := 67) hX dX13_instanceTerm_50 (by decide) ?_
  exact zs_vret hX dX13_instanceTerm_67 rfl (Option.some.inj h)
set_option maxHeartbeats 4000000 in
theorem pb_instanceTerm {h0 : Nat} {qs : List Nat} {ks : Nat → Nat} {n : Nat} {call : zCl} {kc : Nat → List Value → zSt → (Option Value → zSt → Prop) → Prop} {v : Option Value × zSt} {X : Nat → zLv → List Value → zSt → Prop} (hX : zSem cX13_instanceTerm 4 none h0 qs ks kc (fun r u => (r, u) = v) X) (hc : ∀ j av s w, call j av s = some w → kc j av s (fun r u => (r, u) = w)) {x1 : Int32} {x2 : Int32} {σ : zSt} (h : b_instanceTerm n call h0 qs ks x1 x2 σ = some v) : X 0 [some (.ref h0), some (.int x1), some (.int x2), none] [] σ := by
  rw [b_instanceTerm] at h
  refine zs_aload_n hX dX13_instanceTerm_0 rfl rfl ?_
  refine zg_byQual hX dX13_instanceTerm_1 ?_
  refine zs_iload_n hX dX13_instanceTerm_4 rfl rfl ?_
  obtain ⟨b1, h⟩ := zgd_e h
  refine zl_byQual hX dX13_instanceTerm_5 (zin_ok b1) ?_
  refine zs_istore_n hX dX13_instanceTerm_6 rfl (by decide) rfl ?_
  dsimp only [List.set]
  refine zs_aload_n hX dX13_instanceTerm_7 rfl rfl ?_
  refine zg_qStar hX dX13_instanceTerm_8 ?_
  refine zs_iload_n hX dX13_instanceTerm_11 rfl rfl ?_
  obtain ⟨b2, h⟩ := zgd_e h
  refine zl_qStar hX dX13_instanceTerm_12 (zin_ok b2) ?_
  refine zs_iconst (v := 1) hX dX13_instanceTerm_13 (by decide) ?_
  refine zs_icmp_ne (tgt := 53) hX dX13_instanceTerm_14 (by decide) (fun c3 => ?_) (fun c3 => ?_)
  · rw [if_neg c3] at h
    refine zs_aload_n hX dX13_instanceTerm_53 rfl rfl ?_
    refine zs_iconst (v := (-1)) hX dX13_instanceTerm_54 (by decide) ?_
    refine zs_iconst (v := 0) hX dX13_instanceTerm_55 (by decide) ?_
    refine zs_aload_n hX dX13_instanceTerm_56 rfl rfl ?_
    refine zg_qNumber hX dX13_instanceTerm_57 ?_
    refine zs_iload_n hX dX13_instanceTerm_60 rfl rfl ?_
    obtain ⟨b4, h⟩ := zgd_e h
    refine zl_qNumber hX dX13_instanceTerm_61 (zin_ok b4) ?_
    refine zs_i2l hX dX13_instanceTerm_62 ?_
    refine zs_iload_n hX dX13_instanceTerm_63 rfl rfl ?_
    obtain ⟨s5, e6, h⟩ := zcv_e h
    refine zc_termOf hX dX13_instanceTerm_64 (Nat.le_of_ble_eq_true rfl) (hc _ _ _ _ e6) (fun u9 h9 => ?_)
    cases h9
    exact zs_vret hX dX13_instanceTerm_67 rfl (Option.some.inj h)
  · rw [if_pos c3] at h
    refine zs_aload_n hX dX13_instanceTerm_17 rfl rfl ?_
    refine zs_aload_n hX dX13_instanceTerm_18 rfl rfl ?_
    refine zg_byName hX dX13_instanceTerm_19 ?_
    refine zs_iload_n hX dX13_instanceTerm_22 rfl rfl ?_
    obtain ⟨b7, h⟩ := zgd_e h
    refine zl_byName hX dX13_instanceTerm_23 (zin_ok b7) ?_
    refine zs_aload_n hX dX13_instanceTerm_24 rfl rfl ?_
    refine zg_qMinus hX dX13_instanceTerm_25 ?_
    refine zs_iload_n hX dX13_instanceTerm_28 rfl rfl ?_
    obtain ⟨b8, h⟩ := zgd_e h
    refine zl_qMinus hX dX13_instanceTerm_29 (zin_ok b8) ?_
    refine zs_iconst (v := 1) hX dX13_instanceTerm_30 (by decide) ?_
    refine zs_icmp_ne (tgt := 38) hX dX13_instanceTerm_31 (by decide) (fun c9 => ?_) (fun c9 => ?_)
    · rw [if_neg c9] at h
      refine zs_iconst (v := 1) hX dX13_instanceTerm_38 (by decide) ?_
      refine zs_weak hX (lw := [some (.ref h0), none, some (.int x2), some (.int (σ.2.2.1 63 (x1).toNatClampNeg))]) ⟨rfl, rfl, rfl, trivial⟩ ?_
      exact pj_instanceTerm_39 hX hc h
    · rw [if_pos c9] at h
      refine zs_iconst (v := (-1)) hX dX13_instanceTerm_34 (by decide) ?_
      refine zs_goto (tgt := 39) hX dX13_instanceTerm_35 (by decide) ?_
      refine zs_weak hX (lw := [some (.ref h0), none, some (.int x2), some (.int (σ.2.2.1 63 (x1).toNatClampNeg))]) ⟨rfl, rfl, rfl, trivial⟩ ?_
      exact pj_instanceTerm_39 hX hc h
def j_relates_167 (n : Nat) (call : zCl) (h0 : Nat) (qs : List Nat) (ks : Nat → Nat) (t0 : Int32) (σ : zSt) : zRs :=
  zgd (zbo t0) (some (some (.int t0), σ))
def j_relates_166 (n : Nat) (call : zCl) (h0 : Nat) (qs : List Nat) (ks : Nat → Nat) (σ : zSt) : zRs :=
  j_relates_167 n call h0 qs ks 0 σ
def j_relates_150 (n : Nat) (call : zCl) (h0 : Nat) (qs : List Nat) (ks : Nat → Nat) (x5 : Int32) (t2 : Int32) (t3 : Int32) (t4 : Int32) (t5 : Int32) (t6 : Int64) (t7 : Int64) (σ : zSt) : zRs :=
  zci (call 88 [.ref h0, .ref (qs.getD 87 0), .int t2, .int t3, .int t4, .int t5, .long (t6 + t7)] σ) fun r3 s1 =>
  if r3 = 0 then
    j_relates_166 n call h0 qs ks s1
  else
    if x5 = 0 then
      j_relates_166 n call h0 qs ks s1
    else
      j_relates_167 n call h0 qs ks 1 s1
def j_relates_122 (n : Nat) (call : zCl) (h0 : Nat) (qs : List Nat) (ks : Nat → Nat) (x2 : Int32) (x3 : Int32) (x4 : Int32) (x5 : Int32) (x6 : Int32) (x7 : Int32) (σ : zSt) : zRs :=
  if x2 = 3 then
    j_relates_150 n call h0 qs ks x5 x3 (-x6) x4 (-x7) (σ.2.1 140) 1 σ
  else
    j_relates_150 n call h0 qs ks x5 x3 (-x6) x4 (-x7) (σ.2.1 140) 0 σ
def j_relates_113 (n : Nat) (call : zCl) (h0 : Nat) (qs : List Nat) (ks : Nat → Nat) (x2 : Int32) (x3 : Int32) (x4 : Int32) (x5 : Int32) (x6 : Int32) (x7 : Int32) (σ : zSt) : zRs :=
  if x2 = 0 then
    j_relates_122 n call h0 qs ks x2 x3 x4 x5 x6 x7 σ
  else
    if x2 ≤ 2 then
      zgd (zbo x5) (some (some (.int x5), σ))
    else
      j_relates_122 n call h0 qs ks x2 x3 x4 x5 x6 x7 σ
def j_relates_107 (n : Nat) (call : zCl) (h0 : Nat) (qs : List Nat) (ks : Nat → Nat) (x2 : Int32) (x3 : Int32) (x4 : Int32) (x6 : Int32) (x7 : Int32) (t2 : Int32) (t3 : Int32) (t4 : Int32) (t5 : Int32) (t6 : Int64) (t7 : Int64) (σ : zSt) : zRs :=
  zci (call 88 [.ref h0, .ref (qs.getD 87 0), .int t2, .int t3, .int t4, .int t5, .long (t6 + t7)] σ) fun r3 s1 =>
  j_relates_113 n call h0 qs ks x2 x3 x4 r3 x6 x7 s1
def j_relates_80 (n : Nat) (call : zCl) (h0 : Nat) (qs : List Nat) (ks : Nat → Nat) (x2 : Int32) (x3 : Int32) (x4 : Int32) (x6 : Int32) (x7 : Int32) (σ : zSt) : zRs :=
  if x2 = 1 then
    j_relates_107 n call h0 qs ks x2 x3 x4 x6 x7 x3 x6 x4 x7 (-(σ.2.1 140)) 1 σ
  else
    j_relates_107 n call h0 qs ks x2 x3 x4 x6 x7 x3 x6 x4 x7 (-(σ.2.1 140)) 0 σ
def j_relates_66 (n : Nat) (call : zCl) (h0 : Nat) (qs : List Nat) (ks : Nat → Nat) (x2 : Int32) (x3 : Int32) (x4 : Int32) (x5 : Int32) (x6 : Int32) (x7 : Int32) (σ : zSt) : zRs :=
  if x2 = 0 then
    j_relates_80 n call h0 qs ks x2 x3 x4 x6 x7 σ
  else
    if x2 = 1 then
      j_relates_80 n call h0 qs ks x2 x3 x4 x6 x7 σ
    else
      if x2 = 2 then
        j_relates_80 n call h0 qs ks x2 x3 x4 x6 x7 σ
      else
        j_relates_113 n call h0 qs ks x2 x3 x4 x5 x6 x7 σ
def j_relates_25 (n : Nat) (call : zCl) (h0 : Nat) (qs : List Nat) (ks : Nat → Nat) (x1 : Int32) (x2 : Int32) (x3 : Int32) (t0 : Int32) (σ : zSt) : zRs :=
  if (σ.1 139) = 0 then
    j_relates_66 n call h0 qs ks x2 x3 t0 1 1 (-(σ.1 139)) σ
  else
    if (σ.1 138) = x1 then
      j_relates_66 n call h0 qs ks x2 x3 t0 1 (1 - (σ.1 139)) 0 σ
    else
      j_relates_66 n call h0 qs ks x2 x3 t0 1 1 (-(σ.1 139)) σ
def b_relates (n : Nat) (call : zCl) (h0 : Nat) (qs : List Nat) (ks : Nat → Nat) (x1 : Int32) (x2 : Int32) (σ : zSt) : zRs :=
  zci (call 85 [.ref h0, .int x1] σ) fun r3 s1 =>
  if (s1.1 139) = 0 then
    j_relates_25 n call h0 qs ks x1 x2 r3 0 s1
  else
    zci (call 85 [.ref h0, .int (s1.1 138)] s1) fun r7 s5 =>
    j_relates_25 n call h0 qs ks x1 x2 r3 r7 s5
set_option maxHeartbeats 4000000 in
theorem pj_relates_167 {h0 : Nat} {qs : List Nat} {ks : Nat → Nat} {n : Nat} {call : zCl} {kc : Nat → List Value → zSt → (Option Value → zSt → Prop) → Prop} {v : Option Value × zSt} {X : Nat → zLv → List Value → zSt → Prop} (hX : zSem cX13_relates 8 (some .boolean) h0 qs ks kc (fun r u => (r, u) = v) X) (hc : ∀ j av s w, call j av s = some w → kc j av s (fun r u => (r, u) = w)) {t0 : Int32} {σ : zSt} (h : j_relates_167 n call h0 qs ks t0 σ = some v) : X 167 [none, none, none, none, none, none, none, none] [.int t0] σ := by
  rw [j_relates_167] at h
  refine zs_istore hX dX13_relates_167 (by decide) rfl ?_
  dsimp only [List.set]
  refine zs_iload hX dX13_relates_169 rfl ?_
  obtain ⟨b1, h⟩ := zgd_e h
  exact zs_zret hX dX13_relates_171 rfl (zbo_n b1) (Option.some.inj h)
set_option maxHeartbeats 4000000 in
theorem pj_relates_166 {h0 : Nat} {qs : List Nat} {ks : Nat → Nat} {n : Nat} {call : zCl} {kc : Nat → List Value → zSt → (Option Value → zSt → Prop) → Prop} {v : Option Value × zSt} {X : Nat → zLv → List Value → zSt → Prop} (hX : zSem cX13_relates 8 (some .boolean) h0 qs ks kc (fun r u => (r, u) = v) X) (hc : ∀ j av s w, call j av s = some w → kc j av s (fun r u => (r, u) = w)) {σ : zSt} (h : j_relates_166 n call h0 qs ks σ = some v) : X 166 [none, none, none, none, none, none, none, none] [] σ := by
  rw [j_relates_166] at h
  refine zs_iconst (v := 0) hX dX13_relates_166 (by decide) ?_
  exact pj_relates_167 hX hc h
set_option maxHeartbeats 4000000 in
theorem pj_relates_150 {h0 : Nat} {qs : List Nat} {ks : Nat → Nat} {n : Nat} {call : zCl} {kc : Nat → List Value → zSt → (Option Value → zSt → Prop) → Prop} {v : Option Value × zSt} {X : Nat → zLv → List Value → zSt → Prop} (hX : zSem cX13_relates 8 (some .boolean) h0 qs ks kc (fun r u => (r, u) = v) X) (hc : ∀ j av s w, call j av s = some w → kc j av s (fun r u => (r, u) = w)) {x5 : Int32} {t2 : Int32} {t3 : Int32} {t4 : Int32} {t5 : Int32} {t6 : Int64} {t7 : Int64} {σ : zSt} (h : j_relates_150 n call h0 qs ks x5 t2 t3 t4 t5 t6 t7 σ = some v) : X 150 [none, none, none, none, none, some (.int x5), none, none] [.long t7, .long t6, .int t5, .int t4, .int t3, .int t2, .ref (qs.getD 87 0), .ref h0] σ := by
  rw [j_relates_150] at h
  refine zs_ladd hX dX13_relates_150 ?_
  obtain ⟨r3, s1, e2, h⟩ := zci_e h
  refine zc_atMost hX dX13_relates_151 (Nat.le_of_ble_eq_true rfl) (hc _ _ _ _ e2) (fun r9 u9 h9 => ?_)
  cases h9
  refine zs_if_eq (tgt := 166) hX dX13_relates_154 (by decide) (fun c4 => ?_) (fun c4 => ?_)
  · rw [if_pos c4] at h
    refine zs_weak hX (lw := [none, none, none, none, none, none, none, none]) trivial ?_
    exact pj_relates_166 hX hc h
  · rw [if_neg c4] at h
    refine zs_iload hX dX13_relates_157 rfl ?_
    refine zs_if_eq (tgt := 166) hX dX13_relates_159 (by decide) (fun c5 => ?_) (fun c5 => ?_)
    · rw [if_pos c5] at h
      refine zs_weak hX (lw := [none, none, none, none, none, none, none, none]) trivial ?_
      exact pj_relates_166 hX hc h
    · rw [if_neg c5] at h
      refine zs_iconst (v := 1) hX dX13_relates_162 (by decide) ?_
      refine zs_goto (tgt := 167) hX dX13_relates_163 (by decide) ?_
      refine zs_weak hX (lw := [none, none, none, none, none, none, none, none]) trivial ?_
      exact pj_relates_167 hX hc h
set_option maxHeartbeats 4000000 in
theorem pj_relates_122 {h0 : Nat} {qs : List Nat} {ks : Nat → Nat} {n : Nat} {call : zCl} {kc : Nat → List Value → zSt → (Option Value → zSt → Prop) → Prop} {v : Option Value × zSt} {X : Nat → zLv → List Value → zSt → Prop} (hX : zSem cX13_relates 8 (some .boolean) h0 qs ks kc (fun r u => (r, u) = v) X) (hc : ∀ j av s w, call j av s = some w → kc j av s (fun r u => (r, u) = w)) {x2 : Int32} {x3 : Int32} {x4 : Int32} {x5 : Int32} {x6 : Int32} {x7 : Int32} {σ : zSt} (h : j_relates_122 n call h0 qs ks x2 x3 x4 x5 x6 x7 σ = some v) : X 122 [some (.ref h0), none, some (.int x2), some (.int x3), some (.int x4), some (.int x5), some (.int x6), some (.int x7)] [] σ := by
  rw [j_relates_122] at h
  refine zs_aload_n hX dX13_relates_122 rfl rfl ?_
  refine zs_aload_n hX dX13_relates_123 rfl rfl ?_
  refine zg_base hX dX13_relates_124 ?_
  refine zs_iload_n hX dX13_relates_127 rfl rfl ?_
  refine zs_iload hX dX13_relates_128 rfl ?_
  refine zs_ineg hX dX13_relates_130 ?_
  refine zs_iload hX dX13_relates_131 rfl ?_
  refine zs_iload hX dX13_relates_133 rfl ?_
  refine zs_ineg hX dX13_relates_135 ?_
  refine zs_aload_n hX dX13_relates_136 rfl rfl ?_
  refine zg_uNumber hX dX13_relates_137 ?_
  refine zs_iload_n hX dX13_relates_140 rfl rfl ?_
  refine zs_iconst (v := 3) hX dX13_relates_141 (by decide) ?_
  refine zs_icmp_ne (tgt := 149) hX dX13_relates_142 (by decide) (fun c1 => ?_) (fun c1 => ?_)
  · rw [if_neg c1] at h
    refine zs_lconst (v := 0) hX dX13_relates_149 (by decide) ?_
    refine zs_weak hX (lw := [none, none, none, none, none, some (.int x5), none, none]) ⟨rfl, trivial⟩ ?_
    exact pj_relates_150 hX hc h
  · rw [if_pos c1] at h
    refine zs_lconst (v := 1) hX dX13_relates_145 (by decide) ?_
    refine zs_goto (tgt := 150) hX dX13_relates_146 (by decide) ?_
    refine zs_weak hX (lw := [none, none, none, none, none, some (.int x5), none, none]) ⟨rfl, trivial⟩ ?_
    exact pj_relates_150 hX hc h
set_option maxHeartbeats 4000000 in
theorem pj_relates_113 {h0 : Nat} {qs : List Nat} {ks : Nat → Nat} {n : Nat} {call : zCl} {kc : Nat → List Value → zSt → (Option Value → zSt → Prop) → Prop} {v : Option Value × zSt} {X : Nat → zLv → List Value → zSt → Prop} (hX : zSem cX13_relates 8 (some .boolean) h0 qs ks kc (fun r u => (r, u) = v) X) (hc : ∀ j av s w, call j av s = some w → kc j av s (fun r u => (r, u) = w)) {x2 : Int32} {x3 : Int32} {x4 : Int32} {x5 : Int32} {x6 : Int32} {x7 : Int32} {σ : zSt} (h : j_relates_113 n call h0 qs ks x2 x3 x4 x5 x6 x7 σ = some v) : X 113 [some (.ref h0), none, some (.int x2), some (.int x3), some (.int x4), some (.int x5), some (.int x6), some (.int x7)] [] σ := by
  rw [j_relates_113] at h
  refine zs_iload_n hX dX13_relates_113 rfl rfl ?_
  refine zs_if_eq (tgt := 122) hX dX13_relates_114 (by decide) (fun c1 => ?_) (fun c1 => ?_)
  · rw [if_pos c1] at h
    exact pj_relates_122 hX hc h
  · rw [if_neg c1] at h
    refine zs_iload_n hX dX13_relates_117 rfl rfl ?_
    refine zs_iconst (v := 2) hX dX13_relates_118 (by decide) ?_
    refine zs_icmp_le (tgt := 169) hX dX13_relates_119 (by decide) (fun c2 => ?_) (fun c2 => ?_)
    · rw [if_pos c2] at h
      refine zs_iload hX dX13_relates_169 rfl ?_
      obtain ⟨b3, h⟩ := zgd_e h
      exact zs_zret hX dX13_relates_171 rfl (zbo_n b3) (Option.some.inj h)
    · rw [if_neg c2] at h
      exact pj_relates_122 hX hc h
set_option maxHeartbeats 4000000 in
theorem pj_relates_107 {h0 : Nat} {qs : List Nat} {ks : Nat → Nat} {n : Nat} {call : zCl} {kc : Nat → List Value → zSt → (Option Value → zSt → Prop) → Prop} {v : Option Value × zSt} {X : Nat → zLv → List Value → zSt → Prop} (hX : zSem cX13_relates 8 (some .boolean) h0 qs ks kc (fun r u => (r, u) = v) X) (hc : ∀ j av s w, call j av s = some w → kc j av s (fun r u => (r, u) = w)) {x2 : Int32} {x3 : Int32} {x4 : Int32} {x6 : Int32} {x7 : Int32} {t2 : Int32} {t3 : Int32} {t4 : Int32} {t5 : Int32} {t6 : Int64} {t7 : Int64} {σ : zSt} (h : j_relates_107 n call h0 qs ks x2 x3 x4 x6 x7 t2 t3 t4 t5 t6 t7 σ = some v) : X 107 [some (.ref h0), none, some (.int x2), some (.int x3), some (.int x4), none, some (.int x6), some (.int x7)] [.long t7, .long t6, .int t5, .int t4, .int t3, .int t2, .ref (qs.getD 87 0), .ref h0] σ := by
  rw [j_relates_107] at h
  refine zs_ladd hX dX13_relates_107 ?_
  obtain ⟨r3, s1, e2, h⟩ := zci_e h
  refine zc_atMost hX dX13_relates_108 (Nat.le_of_ble_eq_true rfl) (hc _ _ _ _ e2) (fun r9 u9 h9 => ?_)
  cases h9
  refine zs_istore hX dX13_relates_111 (by decide) rfl ?_
  dsimp only [List.set]
  exact pj_relates_113 hX hc h
set_option maxHeartbeats 4000000 in
theorem pj_relates_80 {h0 : Nat} {qs : List Nat} {ks : Nat → Nat} {n : Nat} {call : zCl} {kc : Nat → List Value → zSt → (Option Value → zSt → Prop) → Prop} {v : Option Value × zSt} {X : Nat → zLv → List Value → zSt → Prop} (hX : zSem cX13_relates 8 (some .boolean) h0 qs ks kc (fun r u => (r, u) = v) X) (hc : ∀ j av s w, call j av s = some w → kc j av s (fun r u => (r, u) = w)) {x2 : Int32} {x3 : Int32} {x4 : Int32} {x6 : Int32} {x7 : Int32} {σ : zSt} (h : j_relates_80 n call h0 qs ks x2 x3 x4 x6 x7 σ = some v) : X 80 [some (.ref h0), none, some (.int x2), some (.int x3), some (.int x4), none, some (.int x6), some (.int x7)] [] σ := by
  rw [j_relates_80] at h
  refine zs_aload_n hX dX13_relates_80 rfl rfl ?_
  refine zs_aload_n hX dX13_relates_81 rfl rfl ?_
  refine zg_base hX dX13_relates_82 ?_
  refine zs_iload_n hX dX13_relates_85 rfl rfl ?_
  refine zs_iload hX dX13_relates_86 rfl ?_
  refine zs_iload hX dX13_relates_88 rfl ?_
  refine zs_iload hX dX13_relates_90 rfl ?_
  refine zs_aload_n hX dX13_relates_92 rfl rfl ?_
  refine zg_uNumber hX dX13_relates_93 ?_
  refine zs_lneg hX dX13_relates_96 ?_
  refine zs_iload_n hX dX13_relates_97 rfl rfl ?_
  refine zs_iconst (v := 1) hX dX13_relates_98 (by decide) ?_
  refine zs_icmp_ne (tgt := 106) hX dX13_relates_99 (by decide) (fun c1 => ?_) (fun c1 => ?_)
  · rw [if_neg c1] at h
    refine zs_lconst (v := 0) hX dX13_relates_106 (by decide) ?_
    exact pj_relates_107 hX hc h
  · rw [if_pos c1] at h
    refine zs_lconst (v := 1) hX dX13_relates_102 (by decide) ?_
    refine zs_goto (tgt := 107) hX dX13_relates_103 (by decide) ?_
    exact pj_relates_107 hX hc h
set_option maxHeartbeats 4000000 in
theorem pj_relates_66 {h0 : Nat} {qs : List Nat} {ks : Nat → Nat} {n : Nat} {call : zCl} {kc : Nat → List Value → zSt → (Option Value → zSt → Prop) → Prop} {v : Option Value × zSt} {X : Nat → zLv → List Value → zSt → Prop} (hX : zSem cX13_relates 8 (some .boolean) h0 qs ks kc (fun r u => (r, u) = v) X) (hc : ∀ j av s w, call j av s = some w → kc j av s (fun r u => (r, u) = w)) {x2 : Int32} {x3 : Int32} {x4 : Int32} {x5 : Int32} {x6 : Int32} {x7 : Int32} {σ : zSt} (h : j_relates_66 n call h0 qs ks x2 x3 x4 x5 x6 x7 σ = some v) : X 66 [some (.ref h0), none, some (.int x2), some (.int x3), some (.int x4), some (.int x5), some (.int x6), some (.int x7)] [] σ := by
  rw [j_relates_66] at h
  refine zs_iload_n hX dX13_relates_66 rfl rfl ?_
  refine zs_if_eq (tgt := 80) hX dX13_relates_67 (by decide) (fun c1 => ?_) (fun c1 => ?_)
  · rw [if_pos c1] at h
    refine zs_weak hX (lw := [some (.ref h0), none, some (.int x2), some (.int x3), some (.int x4), none, some (.int x6), some (.int x7)]) ⟨rfl, rfl, rfl, rfl, rfl, rfl, trivial⟩ ?_
    exact pj_relates_80 hX hc h
  · rw [if_neg c1] at h
    refine zs_iload_n hX dX13_relates_70 rfl rfl ?_
    refine zs_iconst (v := 1) hX dX13_relates_71 (by decide) ?_
    refine zs_icmp_eq (tgt := 80) hX dX13_relates_72 (by decide) (fun c2 => ?_) (fun c2 => ?_)
    · rw [if_pos c2] at h
      refine zs_weak hX (lw := [some (.ref h0), none, some (.int x2), some (.int x3), some (.int x4), none, some (.int x6), some (.int x7)]) ⟨rfl, rfl, rfl, rfl, rfl, rfl, trivial⟩ ?_
      exact pj_relates_80 hX hc h
    · rw [if_neg c2] at h
      refine zs_iload_n hX dX13_relates_75 rfl rfl ?_
      refine zs_iconst (v := 2) hX dX13_relates_76 (by decide) ?_
      refine zs_icmp_ne (tgt := 113) hX dX13_relates_77 (by decide) (fun c3 => ?_) (fun c3 => ?_)
      · rw [if_neg c3] at h
        exact pj_relates_113 hX hc h
      · rw [if_pos c3] at h
        refine zs_weak hX (lw := [some (.ref h0), none, some (.int x2), some (.int x3), some (.int x4), none, some (.int x6), some (.int x7)]) ⟨rfl, rfl, rfl, rfl, rfl, rfl, trivial⟩ ?_
        exact pj_relates_80 hX hc h
set_option maxHeartbeats 4000000 in
theorem pj_relates_25 {h0 : Nat} {qs : List Nat} {ks : Nat → Nat} {n : Nat} {call : zCl} {kc : Nat → List Value → zSt → (Option Value → zSt → Prop) → Prop} {v : Option Value × zSt} {X : Nat → zLv → List Value → zSt → Prop} (hX : zSem cX13_relates 8 (some .boolean) h0 qs ks kc (fun r u => (r, u) = v) X) (hc : ∀ j av s w, call j av s = some w → kc j av s (fun r u => (r, u) = w)) {x1 : Int32} {x2 : Int32} {x3 : Int32} {t0 : Int32} {σ : zSt} (h : j_relates_25 n call h0 qs ks x1 x2 x3 t0 σ = some v) : X 25 [some (.ref h0), some (.int x1), some (.int x2), some (.int x3), none, none, none, none] [.int t0] σ := by
  rw [j_relates_25] at h
  refine zs_istore hX dX13_relates_25 (by decide) rfl ?_
  dsimp only [List.set]
  refine zs_iconst (v := 1) hX dX13_relates_27 (by decide) ?_
  refine zs_istore hX dX13_relates_28 (by decide) rfl ?_
  dsimp only [List.set]
  refine zs_iconst (v := 1) hX dX13_relates_30 (by decide) ?_
  refine zs_istore hX dX13_relates_31 (by decide) rfl ?_
  dsimp only [List.set]
  refine zs_aload_n hX dX13_relates_33 rfl rfl ?_
  refine zg_uTimes hX dX13_relates_34 ?_
  refine zs_ineg hX dX13_relates_37 ?_
  refine zs_istore hX dX13_relates_38 (by decide) rfl ?_
  dsimp only [List.set]
  refine zs_aload_n hX dX13_relates_40 rfl rfl ?_
  refine zg_uTimes hX dX13_relates_41 ?_
  refine zs_if_eq (tgt := 66) hX dX13_relates_44 (by decide) (fun c1 => ?_) (fun c1 => ?_)
  · rw [if_pos c1] at h
    refine zs_weak hX (lw := [some (.ref h0), none, some (.int x2), some (.int x3), some (.int t0), some (.int 1), some (.int 1), some (.int (-(σ.1 139)))]) ⟨rfl, rfl, rfl, rfl, rfl, rfl, rfl, trivial⟩ ?_
    exact pj_relates_66 hX hc h
  · rw [if_neg c1] at h
    refine zs_aload_n hX dX13_relates_47 rfl rfl ?_
    refine zg_uName hX dX13_relates_48 ?_
    refine zs_iload_n hX dX13_relates_51 rfl rfl ?_
    refine zs_icmp_ne (tgt := 66) hX dX13_relates_52 (by decide) (fun c2 => ?_) (fun c2 => ?_)
    · rw [if_neg c2] at h
      refine zs_weak hX (lw := [some (.ref h0), none, some (.int x2), some (.int x3), some (.int t0), some (.int 1), some (.int 1), some (.int (-(σ.1 139)))]) ⟨rfl, rfl, rfl, rfl, rfl, rfl, rfl, trivial⟩ ?_
      exact pj_relates_66 hX hc h
    · rw [if_pos c2] at h
      refine zs_iconst (v := 1) hX dX13_relates_55 (by decide) ?_
      refine zs_aload_n hX dX13_relates_56 rfl rfl ?_
      refine zg_uTimes hX dX13_relates_57 ?_
      refine zs_isub hX dX13_relates_60 ?_
      refine zs_istore hX dX13_relates_61 (by decide) rfl ?_
      dsimp only [List.set]
      refine zs_iconst (v := 0) hX dX13_relates_63 (by decide) ?_
      refine zs_istore hX dX13_relates_64 (by decide) rfl ?_
      dsimp only [List.set]
      refine zs_weak hX (lw := [some (.ref h0), none, some (.int x2), some (.int x3), some (.int t0), some (.int 1), some (.int (1 - (σ.1 139))), some (.int 0)]) ⟨rfl, rfl, rfl, rfl, rfl, rfl, rfl, trivial⟩ ?_
      exact pj_relates_66 hX hc h
set_option maxHeartbeats 4000000 in
theorem pb_relates {h0 : Nat} {qs : List Nat} {ks : Nat → Nat} {n : Nat} {call : zCl} {kc : Nat → List Value → zSt → (Option Value → zSt → Prop) → Prop} {v : Option Value × zSt} {X : Nat → zLv → List Value → zSt → Prop} (hX : zSem cX13_relates 8 (some .boolean) h0 qs ks kc (fun r u => (r, u) = v) X) (hc : ∀ j av s w, call j av s = some w → kc j av s (fun r u => (r, u) = w)) {x1 : Int32} {x2 : Int32} {σ : zSt} (h : b_relates n call h0 qs ks x1 x2 σ = some v) : X 0 [some (.ref h0), some (.int x1), some (.int x2), none, none, none, none, none] [] σ := by
  rw [b_relates] at h
  refine zs_aload_n hX dX13_relates_0 rfl rfl ?_
  refine zs_iload_n hX dX13_relates_1 rfl rfl ?_
  obtain ⟨r3, s1, e2, h⟩ := zci_e h
  refine zc_columnOf hX dX13_relates_2 (Nat.le_of_ble_eq_true rfl) (hc _ _ _ _ e2) (fun r9 u9 h9 => ?_)
  cases h9
  refine zs_istore_n hX dX13_relates_5 rfl (by decide) rfl ?_
  dsimp only [List.set]
  refine zs_aload_n hX dX13_relates_6 rfl rfl ?_
  refine zg_uTimes hX dX13_relates_7 ?_
  refine zs_if_ne (tgt := 17) hX dX13_relates_10 (by decide) (fun c4 => ?_) (fun c4 => ?_)
  · rw [if_neg c4] at h
    refine zs_aload_n hX dX13_relates_17 rfl rfl ?_
    refine zs_aload_n hX dX13_relates_18 rfl rfl ?_
    refine zg_uName hX dX13_relates_19 ?_
    obtain ⟨r7, s5, e6, h⟩ := zci_e h
    refine zc_columnOf hX dX13_relates_22 (Nat.le_of_ble_eq_true rfl) (hc _ _ _ _ e6) (fun r9 u9 h9 => ?_)
    cases h9
    exact pj_relates_25 hX hc h
  · rw [if_pos c4] at h
    refine zs_iconst (v := 0) hX dX13_relates_13 (by decide) ?_
    refine zs_goto (tgt := 25) hX dX13_relates_14 (by decide) ?_
    exact pj_relates_25 hX hc h
def j_saysOf_174 (n : Nat) (call : zCl) (h0 : Nat) (qs : List Nat) (ks : Nat → Nat) (k107 : Int32 → Int32 → Int32 → Int32 → Int32 → zSt → zRs) (x1 : Int32) (x2 : Int32) (x3 : Int32) (x4 : Int32) (x5 : Int32) (σ : zSt) : zRs :=
  k107 x1 x2 x3 x4 (x5 + 1) σ
def j_saysOf_173 (n : Nat) (call : zCl) (h0 : Nat) (qs : List Nat) (ks : Nat → Nat) (k107 : Int32 → Int32 → Int32 → Int32 → Int32 → zSt → zRs) (x1 : Int32) (x2 : Int32) (x4 : Int32) (x5 : Int32) (t0 : Int32) (σ : zSt) : zRs :=
  j_saysOf_174 n call h0 qs ks k107 x1 x2 t0 x4 x5 σ
def j_saysOf_172 (n : Nat) (call : zCl) (h0 : Nat) (qs : List Nat) (ks : Nat → Nat) (k107 : Int32 → Int32 → Int32 → Int32 → Int32 → zSt → zRs) (x1 : Int32) (x2 : Int32) (x4 : Int32) (x5 : Int32) (σ : zSt) : zRs :=
  j_saysOf_173 n call h0 qs ks k107 x1 x2 x4 x5 0 σ
def l_saysOf_107 (n : Nat) (call : zCl) (h0 : Nat) (qs : List Nat) (ks : Nat → Nat) : Nat → Int32 → Int32 → Int32 → Int32 → Int32 → zSt → zRs
  | 0, _, _, _, _, _, _ => none
  | f + 1, x1, x2, x3, x4, x5, σ =>
    zgd (zin x4 64) (
    if (σ.2.2.1 62 (x4).toNatClampNeg) ≤ x5 then
      zgd (zbo x3) (some (some (.int x3), σ))
    else
      zgd (zin x5 8000) (
      if (σ.2.2.1 65 (x5).toNatClampNeg) = 0 then
        j_saysOf_174 n call h0 qs ks (l_saysOf_107 n call h0 qs ks f) x1 x2 x3 x4 x5 σ
      else
        zgd (zin x1 24000) (
        zcv (call 93 [.ref h0, .int x5, .int (σ.2.2.1 49 (x1).toNatClampNeg)] σ) fun s7 =>
        zgd (zin x5 8000) (
        zgd (zin (s7.2.2.1 63 (x5).toNatClampNeg) 6) (
        zci (call 94 [.ref h0, .int x2, .int (s7.2.2.1 23 ((s7.2.2.1 63 (x5).toNatClampNeg)).toNatClampNeg)] s7) fun r13 s11 =>
        if r13 = 0 then
          j_saysOf_172 n call h0 qs ks (l_saysOf_107 n call h0 qs ks f) x1 x2 x4 x5 s11
        else
          if x3 = 0 then
            j_saysOf_172 n call h0 qs ks (l_saysOf_107 n call h0 qs ks f) x1 x2 x4 x5 s11
          else
            j_saysOf_173 n call h0 qs ks (l_saysOf_107 n call h0 qs ks f) x1 x2 x4 x5 1 s11)))))
def j_saysOf_70 (n : Nat) (call : zCl) (h0 : Nat) (qs : List Nat) (ks : Nat → Nat) (k10 : Int32 → Int32 → Int32 → Int32 → zSt → zRs) (x1 : Int32) (x2 : Int32) (x4 : Int32) (t0 : Int32) (σ : zSt) : zRs :=
  zgd (zin x4 12000) (
  k10 x1 x2 t0 (σ.2.2.1 53 (x4).toNatClampNeg) σ)
def j_saysOf_69 (n : Nat) (call : zCl) (h0 : Nat) (qs : List Nat) (ks : Nat → Nat) (k10 : Int32 → Int32 → Int32 → Int32 → zSt → zRs) (x1 : Int32) (x2 : Int32) (x4 : Int32) (σ : zSt) : zRs :=
  j_saysOf_70 n call h0 qs ks k10 x1 x2 x4 0 σ
def l_saysOf_10 (n : Nat) (call : zCl) (h0 : Nat) (qs : List Nat) (ks : Nat → Nat) : Nat → Int32 → Int32 → Int32 → Int32 → zSt → zRs
  | 0, _, _, _, _, _ => none
  | f + 1, x1, x2, x3, x4, σ =>
    if x4 < 0 then
      zgd (zin x1 24000) (
      if 0 ≤ (σ.2.2.1 47 (x1).toNatClampNeg) then
        zgd (zin (σ.2.2.1 47 (x1).toNatClampNeg) 64) (
        l_saysOf_107 n call h0 qs ks n x1 x2 x3 (σ.2.2.1 47 (x1).toNatClampNeg) (σ.2.2.1 61 ((σ.2.2.1 47 (x1).toNatClampNeg)).toNatClampNeg) σ)
      else
        zgd (zbo x3) (some (some (.int x3), σ)))
    else
      zgd (zin x4 12000) (
      zgd (zin x4 12000) (
      zgd (zin x4 12000) (
      zgd (zin x1 24000) (
      zcv (call 92 [.ref h0, .int (σ.2.2.1 51 (x4).toNatClampNeg), .int (σ.2.2.1 52 (x4).toNatClampNeg), .long (σ.2.2.2 54 (x4).toNatClampNeg), .int (σ.2.2.1 49 (x1).toNatClampNeg)] σ) fun s10 =>
      zgd (zin x4 12000) (
      zci (call 94 [.ref h0, .int x2, .int (s10.2.2.1 50 (x4).toNatClampNeg)] s10) fun r15 s13 =>
      if r15 = 0 then
        j_saysOf_69 n call h0 qs ks (l_saysOf_10 n call h0 qs ks f) x1 x2 x4 s13
      else
        if x3 = 0 then
          j_saysOf_69 n call h0 qs ks (l_saysOf_10 n call h0 qs ks f) x1 x2 x4 s13
        else
          j_saysOf_70 n call h0 qs ks (l_saysOf_10 n call h0 qs ks f) x1 x2 x4 1 s13)))))
def b_saysOf (n : Nat) (call : zCl) (h0 : Nat) (qs : List Nat) (ks : Nat → Nat) (x1 : Int32) (x2 : Int32) (σ : zSt) : zRs :=
  zgd (zin x1 24000) (
  l_saysOf_10 n call h0 qs ks n x1 x2 1 (σ.2.2.1 48 (x1).toNatClampNeg) σ)
set_option maxHeartbeats 4000000 in
theorem pj_saysOf_174 {h0 : Nat} {qs : List Nat} {ks : Nat → Nat} {n : Nat} {call : zCl} {kc : Nat → List Value → zSt → (Option Value → zSt → Prop) → Prop} {v : Option Value × zSt} {X : Nat → zLv → List Value → zSt → Prop} (hX : zSem cX13_saysOf 6 (some .boolean) h0 qs ks kc (fun r u => (r, u) = v) X) (hc : ∀ j av s w, call j av s = some w → kc j av s (fun r u => (r, u) = w)) {k107 : Int32 → Int32 → Int32 → Int32 → Int32 → zSt → zRs} (hk107 : ∀ (x1 : Int32) (x2 : Int32) (x3 : Int32) (x4 : Int32) (x5 : Int32) (s : zSt), k107 x1 x2 x3 x4 x5 s = some v → X 107 [some (.ref h0), some (.int x1), some (.int x2), some (.int x3), some (.int x4), some (.int x5)] [] s) {x1 : Int32} {x2 : Int32} {x3 : Int32} {x4 : Int32} {x5 : Int32} {σ : zSt} (h : j_saysOf_174 n call h0 qs ks k107 x1 x2 x3 x4 x5 σ = some v) : X 174 [some (.ref h0), some (.int x1), some (.int x2), some (.int x3), some (.int x4), some (.int x5)] [] σ := by
  rw [j_saysOf_174] at h
  refine zs_iinc (v := x5 + 1) hX dX13_saysOf_174 rfl rfl (by decide) rfl ?_
  dsimp only [List.set]
  refine zs_goto (tgt := 107) hX dX13_saysOf_177 (by decide) ?_
  exact hk107 _ _ _ _ _ _ h
set_option maxHeartbeats 4000000 in
theorem pj_saysOf_173 {h0 : Nat} {qs : List Nat} {ks : Nat → Nat} {n : Nat} {call : zCl} {kc : Nat → List Value → zSt → (Option Value → zSt → Prop) → Prop} {v : Option Value × zSt} {X : Nat → zLv → List Value → zSt → Prop} (hX : zSem cX13_saysOf 6 (some .boolean) h0 qs ks kc (fun r u => (r, u) = v) X) (hc : ∀ j av s w, call j av s = some w → kc j av s (fun r u => (r, u) = w)) {k107 : Int32 → Int32 → Int32 → Int32 → Int32 → zSt → zRs} (hk107 : ∀ (x1 : Int32) (x2 : Int32) (x3 : Int32) (x4 : Int32) (x5 : Int32) (s : zSt), k107 x1 x2 x3 x4 x5 s = some v → X 107 [some (.ref h0), some (.int x1), some (.int x2), some (.int x3), some (.int x4), some (.int x5)] [] s) {x1 : Int32} {x2 : Int32} {x4 : Int32} {x5 : Int32} {t0 : Int32} {σ : zSt} (h : j_saysOf_173 n call h0 qs ks k107 x1 x2 x4 x5 t0 σ = some v) : X 173 [some (.ref h0), some (.int x1), some (.int x2), none, some (.int x4), some (.int x5)] [.int t0] σ := by
  rw [j_saysOf_173] at h
  refine zs_istore_n hX dX13_saysOf_173 rfl (by decide) rfl ?_
  dsimp only [List.set]
  exact pj_saysOf_174 hX hc hk107 h
set_option maxHeartbeats 4000000 in
theorem pj_saysOf_172 {h0 : Nat} {qs : List Nat} {ks : Nat → Nat} {n : Nat} {call : zCl} {kc : Nat → List Value → zSt → (Option Value → zSt → Prop) → Prop} {v : Option Value × zSt} {X : Nat → zLv → List Value → zSt → Prop} (hX : zSem cX13_saysOf 6 (some .boolean) h0 qs ks kc (fun r u => (r, u) = v) X) (hc : ∀ j av s w, call j av s = some w → kc j av s (fun r u => (r, u) = w)) {k107 : Int32 → Int32 → Int32 → Int32 → Int32 → zSt → zRs} (hk107 : ∀ (x1 : Int32) (x2 : Int32) (x3 : Int32) (x4 : Int32) (x5 : Int32) (s : zSt), k107 x1 x2 x3 x4 x5 s = some v → X 107 [some (.ref h0), some (.int x1), some (.int x2), some (.int x3), some (.int x4), some (.int x5)] [] s) {x1 : Int32} {x2 : Int32} {x4 : Int32} {x5 : Int32} {σ : zSt} (h : j_saysOf_172 n call h0 qs ks k107 x1 x2 x4 x5 σ = some v) : X 172 [some (.ref h0), some (.int x1), some (.int x2), none, some (.int x4), some (.int x5)] [] σ := by
  rw [j_saysOf_172] at h
  refine zs_iconst (v := 0) hX dX13_saysOf_172 (by decide) ?_
  exact pj_saysOf_173 hX hc hk107 h
set_option maxHeartbeats 4000000 in
theorem pl_saysOf_107 {h0 : Nat} {qs : List Nat} {ks : Nat → Nat} {n : Nat} {call : zCl} {kc : Nat → List Value → zSt → (Option Value → zSt → Prop) → Prop} {v : Option Value × zSt} {X : Nat → zLv → List Value → zSt → Prop} (hX : zSem cX13_saysOf 6 (some .boolean) h0 qs ks kc (fun r u => (r, u) = v) X) (hc : ∀ j av s w, call j av s = some w → kc j av s (fun r u => (r, u) = w)) : ∀ (f : Nat) (x1 : Int32) (x2 : Int32) (x3 : Int32) (x4 : Int32) (x5 : Int32) (σ : zSt), l_saysOf_107 n call h0 qs ks f x1 x2 x3 x4 x5 σ = some v → X 107 [some (.ref h0), some (.int x1), some (.int x2), some (.int x3), some (.int x4), some (.int x5)] [] σ := by
  intro f
  induction f with
  | zero => intro x1 x2 x3 x4 x5 σ h; cases h
  | succ f hk107 =>
    intro x1 x2 x3 x4 x5 σ h
    rw [l_saysOf_107] at h
    refine zs_iload hX dX13_saysOf_107 rfl ?_
    refine zs_aload_n hX dX13_saysOf_109 rfl rfl ?_
    refine zg_caseTo hX dX13_saysOf_110 ?_
    refine zs_iload hX dX13_saysOf_113 rfl ?_
    obtain ⟨b1, h⟩ := zgd_e h
    refine zl_caseTo hX dX13_saysOf_115 (zin_ok b1) ?_
    refine zs_icmp_ge (tgt := 180) hX dX13_saysOf_116 (by decide) (fun c2 => ?_) (fun c2 => ?_)
    · rw [if_pos c2] at h
      refine zs_iload_n hX dX13_saysOf_180 rfl rfl ?_
      obtain ⟨b3, h⟩ := zgd_e h
      exact zs_zret hX dX13_saysOf_181 rfl (zbo_n b3) (Option.some.inj h)
    · rw [if_neg c2] at h
      refine zs_aload_n hX dX13_saysOf_119 rfl rfl ?_
      refine zg_alive hX dX13_saysOf_120 ?_
      refine zs_iload hX dX13_saysOf_123 rfl ?_
      obtain ⟨b4, h⟩ := zgd_e h
      refine zl_alive hX dX13_saysOf_125 (zin_ok b4) ?_
      refine zs_if_ne (tgt := 132) hX dX13_saysOf_126 (by decide) (fun c5 => ?_) (fun c5 => ?_)
      · rw [if_neg c5] at h
        refine zs_aload_n hX dX13_saysOf_132 rfl rfl ?_
        refine zs_iload hX dX13_saysOf_133 rfl ?_
        refine zs_aload_n hX dX13_saysOf_135 rfl rfl ?_
        refine zg_saidPut hX dX13_saysOf_136 ?_
        refine zs_iload_n hX dX13_saysOf_139 rfl rfl ?_
        obtain ⟨b6, h⟩ := zgd_e h
        refine zl_saidPut hX dX13_saysOf_140 (zin_ok b6) ?_
        obtain ⟨s7, e8, h⟩ := zcv_e h
        refine zc_instanceTerm hX dX13_saysOf_141 (Nat.le_of_ble_eq_true rfl) (hc _ _ _ _ e8) (fun u9 h9 => ?_)
        cases h9
        refine zs_aload_n hX dX13_saysOf_144 rfl rfl ?_
        refine zs_iload_n hX dX13_saysOf_145 rfl rfl ?_
        refine zs_aload_n hX dX13_saysOf_146 rfl rfl ?_
        refine zg_qRel hX dX13_saysOf_147 ?_
        refine zs_aload_n hX dX13_saysOf_150 rfl rfl ?_
        refine zg_byQual hX dX13_saysOf_151 ?_
        refine zs_iload hX dX13_saysOf_154 rfl ?_
        obtain ⟨b9, h⟩ := zgd_e h
        refine zl_byQual hX dX13_saysOf_156 (zin_ok b9) ?_
        obtain ⟨b10, h⟩ := zgd_e h
        refine zl_qRel hX dX13_saysOf_157 (zin_ok b10) ?_
        obtain ⟨r13, s11, e12, h⟩ := zci_e h
        refine zc_relates hX dX13_saysOf_158 (Nat.le_of_ble_eq_true rfl) (hc _ _ _ _ e12) (fun r9 u9 h9 => ?_)
        cases h9
        refine zs_if_eq (tgt := 172) hX dX13_saysOf_161 (by decide) (fun c14 => ?_) (fun c14 => ?_)
        · rw [if_pos c14] at h
          refine zs_weak hX (lw := [some (.ref h0), some (.int x1), some (.int x2), none, some (.int x4), some (.int x5)]) ⟨rfl, rfl, rfl, rfl, rfl, trivial⟩ ?_
          exact pj_saysOf_172 hX hc hk107 h
        · rw [if_neg c14] at h
          refine zs_iload_n hX dX13_saysOf_164 rfl rfl ?_
          refine zs_if_eq (tgt := 172) hX dX13_saysOf_165 (by decide) (fun c15 => ?_) (fun c15 => ?_)
          · rw [if_pos c15] at h
            refine zs_weak hX (lw := [some (.ref h0), some (.int x1), some (.int x2), none, some (.int x4), some (.int x5)]) ⟨rfl, rfl, rfl, rfl, rfl, trivial⟩ ?_
            exact pj_saysOf_172 hX hc hk107 h
          · rw [if_neg c15] at h
            refine zs_iconst (v := 1) hX dX13_saysOf_168 (by decide) ?_
            refine zs_goto (tgt := 173) hX dX13_saysOf_169 (by decide) ?_
            refine zs_weak hX (lw := [some (.ref h0), some (.int x1), some (.int x2), none, some (.int x4), some (.int x5)]) ⟨rfl, rfl, rfl, rfl, rfl, trivial⟩ ?_
            exact pj_saysOf_173 hX hc hk107 h
      · rw [if_pos c5] at h
        refine zs_goto (tgt := 174) hX dX13_saysOf_129 (by decide) ?_
        exact pj_saysOf_174 hX hc hk107 h
set_option maxHeartbeats 4000000 in
theorem pj_saysOf_70 {h0 : Nat} {qs : List Nat} {ks : Nat → Nat} {n : Nat} {call : zCl} {kc : Nat → List Value → zSt → (Option Value → zSt → Prop) → Prop} {v : Option Value × zSt} {X : Nat → zLv → List Value → zSt → Prop} (hX : zSem cX13_saysOf 6 (some .boolean) h0 qs ks kc (fun r u => (r, u) = v) X) (hc : ∀ j av s w, call j av s = some w → kc j av s (fun r u => (r, u) = w)) {k10 : Int32 → Int32 → Int32 → Int32 → zSt → zRs} (hk10 : ∀ (x1 : Int32) (x2 : Int32) (x3 : Int32) (x4 : Int32) (s : zSt), k10 x1 x2 x3 x4 s = some v → X 10 [some (.ref h0), some (.int x1), some (.int x2), some (.int x3), some (.int x4), none] [] s) {x1 : Int32} {x2 : Int32} {x4 : Int32} {t0 : Int32} {σ : zSt} (h : j_saysOf_70 n call h0 qs ks k10 x1 x2 x4 t0 σ = some v) : X 70 [some (.ref h0), some (.int x1), some (.int x2), none, some (.int x4), none] [.int t0] σ := by
  rw [j_saysOf_70] at h
  refine zs_istore_n hX dX13_saysOf_70 rfl (by decide) rfl ?_
  dsimp only [List.set]
  refine zs_aload_n hX dX13_saysOf_71 rfl rfl ?_
  refine zg_factNext hX dX13_saysOf_72 ?_
  refine zs_iload hX dX13_saysOf_75 rfl ?_
  obtain ⟨b1, h⟩ := zgd_e h
  refine zl_factNext hX dX13_saysOf_77 (zin_ok b1) ?_
  refine zs_istore hX dX13_saysOf_78 (by decide) rfl ?_
  dsimp only [List.set]
  refine zs_goto (tgt := 10) hX dX13_saysOf_80 (by decide) ?_
  exact hk10 _ _ _ _ _ h
set_option maxHeartbeats 4000000 in
theorem pj_saysOf_69 {h0 : Nat} {qs : List Nat} {ks : Nat → Nat} {n : Nat} {call : zCl} {kc : Nat → List Value → zSt → (Option Value → zSt → Prop) → Prop} {v : Option Value × zSt} {X : Nat → zLv → List Value → zSt → Prop} (hX : zSem cX13_saysOf 6 (some .boolean) h0 qs ks kc (fun r u => (r, u) = v) X) (hc : ∀ j av s w, call j av s = some w → kc j av s (fun r u => (r, u) = w)) {k10 : Int32 → Int32 → Int32 → Int32 → zSt → zRs} (hk10 : ∀ (x1 : Int32) (x2 : Int32) (x3 : Int32) (x4 : Int32) (s : zSt), k10 x1 x2 x3 x4 s = some v → X 10 [some (.ref h0), some (.int x1), some (.int x2), some (.int x3), some (.int x4), none] [] s) {x1 : Int32} {x2 : Int32} {x4 : Int32} {σ : zSt} (h : j_saysOf_69 n call h0 qs ks k10 x1 x2 x4 σ = some v) : X 69 [some (.ref h0), some (.int x1), some (.int x2), none, some (.int x4), none] [] σ := by
  rw [j_saysOf_69] at h
  refine zs_iconst (v := 0) hX dX13_saysOf_69 (by decide) ?_
  exact pj_saysOf_70 hX hc hk10 h
set_option maxHeartbeats 4000000 in
theorem pl_saysOf_10 {h0 : Nat} {qs : List Nat} {ks : Nat → Nat} {n : Nat} {call : zCl} {kc : Nat → List Value → zSt → (Option Value → zSt → Prop) → Prop} {v : Option Value × zSt} {X : Nat → zLv → List Value → zSt → Prop} (hX : zSem cX13_saysOf 6 (some .boolean) h0 qs ks kc (fun r u => (r, u) = v) X) (hc : ∀ j av s w, call j av s = some w → kc j av s (fun r u => (r, u) = w)) : ∀ (f : Nat) (x1 : Int32) (x2 : Int32) (x3 : Int32) (x4 : Int32) (σ : zSt), l_saysOf_10 n call h0 qs ks f x1 x2 x3 x4 σ = some v → X 10 [some (.ref h0), some (.int x1), some (.int x2), some (.int x3), some (.int x4), none] [] σ := by
  intro f
  induction f with
  | zero => intro x1 x2 x3 x4 σ h; cases h
  | succ f hk10 =>
    intro x1 x2 x3 x4 σ h
    rw [l_saysOf_10] at h
    refine zs_iload hX dX13_saysOf_10 rfl ?_
    refine zs_if_lt (tgt := 83) hX dX13_saysOf_12 (by decide) (fun c1 => ?_) (fun c1 => ?_)
    · rw [if_pos c1] at h
      refine zs_aload_n hX dX13_saysOf_83 rfl rfl ?_
      refine zg_saidCase hX dX13_saysOf_84 ?_
      refine zs_iload_n hX dX13_saysOf_87 rfl rfl ?_
      obtain ⟨b2, h⟩ := zgd_e h
      refine zl_saidCase hX dX13_saysOf_88 (zin_ok b2) ?_
      refine zs_istore hX dX13_saysOf_89 (by decide) rfl ?_
      dsimp only [List.set]
      refine zs_iload hX dX13_saysOf_91 rfl ?_
      refine zs_if_ge (tgt := 98) hX dX13_saysOf_93 (by decide) (fun c3 => ?_) (fun c3 => ?_)
      · rw [if_pos c3] at h
        refine zs_aload_n hX dX13_saysOf_98 rfl rfl ?_
        refine zg_caseFrom hX dX13_saysOf_99 ?_
        refine zs_iload hX dX13_saysOf_102 rfl ?_
        obtain ⟨b4, h⟩ := zgd_e h
        refine zl_caseFrom hX dX13_saysOf_104 (zin_ok b4) ?_
        refine zs_istore hX dX13_saysOf_105 (by decide) rfl ?_
        dsimp only [List.set]
        exact pl_saysOf_107 hX hc n _ _ _ _ _ _ h
      · rw [if_neg c3] at h
        refine zs_iload_n hX dX13_saysOf_96 rfl rfl ?_
        obtain ⟨b5, h⟩ := zgd_e h
        exact zs_zret hX dX13_saysOf_97 rfl (zbo_n b5) (Option.some.inj h)
    · rw [if_neg c1] at h
      refine zs_aload_n hX dX13_saysOf_15 rfl rfl ?_
      refine zs_aload_n hX dX13_saysOf_16 rfl rfl ?_
      refine zg_factName hX dX13_saysOf_17 ?_
      refine zs_iload hX dX13_saysOf_20 rfl ?_
      obtain ⟨b6, h⟩ := zgd_e h
      refine zl_factName hX dX13_saysOf_22 (zin_ok b6) ?_
      refine zs_aload_n hX dX13_saysOf_23 rfl rfl ?_
      refine zg_factTimes hX dX13_saysOf_24 ?_
      refine zs_iload hX dX13_saysOf_27 rfl ?_
      obtain ⟨b7, h⟩ := zgd_e h
      refine zl_factTimes hX dX13_saysOf_29 (zin_ok b7) ?_
      refine zs_aload_n hX dX13_saysOf_30 rfl rfl ?_
      refine zg_factNumber hX dX13_saysOf_31 ?_
      refine zs_iload hX dX13_saysOf_34 rfl ?_
      obtain ⟨b8, h⟩ := zgd_e h
      refine zl_factNumber hX dX13_saysOf_36 (zin_ok b8) ?_
      refine zs_aload_n hX dX13_saysOf_37 rfl rfl ?_
      refine zg_saidPut hX dX13_saysOf_38 ?_
      refine zs_iload_n hX dX13_saysOf_41 rfl rfl ?_
      obtain ⟨b9, h⟩ := zgd_e h
      refine zl_saidPut hX dX13_saysOf_42 (zin_ok b9) ?_
      obtain ⟨s10, e11, h⟩ := zcv_e h
      refine zc_termOf hX dX13_saysOf_43 (Nat.le_of_ble_eq_true rfl) (hc _ _ _ _ e11) (fun u9 h9 => ?_)
      cases h9
      refine zs_aload_n hX dX13_saysOf_46 rfl rfl ?_
      refine zs_iload_n hX dX13_saysOf_47 rfl rfl ?_
      refine zs_aload_n hX dX13_saysOf_48 rfl rfl ?_
      refine zg_factRel hX dX13_saysOf_49 ?_
      refine zs_iload hX dX13_saysOf_52 rfl ?_
      obtain ⟨b12, h⟩ := zgd_e h
      refine zl_factRel hX dX13_saysOf_54 (zin_ok b12) ?_
      obtain ⟨r15, s13, e14, h⟩ := zci_e h
      refine zc_relates hX dX13_saysOf_55 (Nat.le_of_ble_eq_true rfl) (hc _ _ _ _ e14) (fun r9 u9 h9 => ?_)
      cases h9
      refine zs_if_eq (tgt := 69) hX dX13_saysOf_58 (by decide) (fun c16 => ?_) (fun c16 => ?_)
      · rw [if_pos c16] at h
        refine zs_weak hX (lw := [some (.ref h0), some (.int x1), some (.int x2), none, some (.int x4), none]) ⟨rfl, rfl, rfl, rfl, trivial⟩ ?_
        exact pj_saysOf_69 hX hc hk10 h
      · rw [if_neg c16] at h
        refine zs_iload_n hX dX13_saysOf_61 rfl rfl ?_
        refine zs_if_eq (tgt := 69) hX dX13_saysOf_62 (by decide) (fun c17 => ?_) (fun c17 => ?_)
        · rw [if_pos c17] at h
          refine zs_weak hX (lw := [some (.ref h0), some (.int x1), some (.int x2), none, some (.int x4), none]) ⟨rfl, rfl, rfl, rfl, trivial⟩ ?_
          exact pj_saysOf_69 hX hc hk10 h
        · rw [if_neg c17] at h
          refine zs_iconst (v := 1) hX dX13_saysOf_65 (by decide) ?_
          refine zs_goto (tgt := 70) hX dX13_saysOf_66 (by decide) ?_
          refine zs_weak hX (lw := [some (.ref h0), some (.int x1), some (.int x2), none, some (.int x4), none]) ⟨rfl, rfl, rfl, rfl, trivial⟩ ?_
          exact pj_saysOf_70 hX hc hk10 h
set_option maxHeartbeats 4000000 in
theorem pb_saysOf {h0 : Nat} {qs : List Nat} {ks : Nat → Nat} {n : Nat} {call : zCl} {kc : Nat → List Value → zSt → (Option Value → zSt → Prop) → Prop} {v : Option Value × zSt} {X : Nat → zLv → List Value → zSt → Prop} (hX : zSem cX13_saysOf 6 (some .boolean) h0 qs ks kc (fun r u => (r, u) = v) X) (hc : ∀ j av s w, call j av s = some w → kc j av s (fun r u => (r, u) = w)) {x1 : Int32} {x2 : Int32} {σ : zSt} (h : b_saysOf n call h0 qs ks x1 x2 σ = some v) : X 0 [some (.ref h0), some (.int x1), some (.int x2), none, none, none] [] σ := by
  rw [b_saysOf] at h
  refine zs_iconst (v := 1) hX dX13_saysOf_0 (by decide) ?_
  refine zs_istore_n hX dX13_saysOf_1 rfl (by decide) rfl ?_
  dsimp only [List.set]
  refine zs_aload_n hX dX13_saysOf_2 rfl rfl ?_
  refine zg_saidFact hX dX13_saysOf_3 ?_
  refine zs_iload_n hX dX13_saysOf_6 rfl rfl ?_
  obtain ⟨b1, h⟩ := zgd_e h
  refine zl_saidFact hX dX13_saysOf_7 (zin_ok b1) ?_
  refine zs_istore hX dX13_saysOf_8 (by decide) rfl ?_
  dsimp only [List.set]
  exact pl_saysOf_10 hX hc n _ _ _ _ _ h
def b_way (n : Nat) (call : zCl) (h0 : Nat) (qs : List Nat) (ks : Nat → Nat) (x1 : Int32) (x2 : Int32) (x3 : Int32) (x4 : Int32) (x5 : Int64) (σ : zSt) : zRs :=
  zgd (zin (σ.1 152) 300) (zlet (zA σ 93 (upd (σ.2.2.1 93) ((σ.1 152)).toNatClampNeg x1)) fun s2 =>
  zgd (zin (s2.1 152) 300) (zlet (zA s2 94 (upd (s2.2.2.1 94) ((s2.1 152)).toNatClampNeg x2)) fun s5 =>
  zgd (zin (s5.1 152) 300) (zlet (zA s5 95 (upd (s5.2.2.1 95) ((s5.1 152)).toNatClampNeg x3)) fun s8 =>
  zgd (zin (s8.1 152) 300) (zlet (zA s8 96 (upd (s8.2.2.1 96) ((s8.1 152)).toNatClampNeg x4)) fun s11 =>
  zgd (zin (s11.1 152) 300) (zlet (zG s11 99 (vp_updL (s11.2.2.2 99) ((s11.1 152)).toNatClampNeg x5)) fun s14 =>
  zlet (zI s14 152 ((s14.1 152) + 1)) fun s16 =>
  some (none, s16))))))
set_option maxHeartbeats 4000000 in
theorem pb_way {h0 : Nat} {qs : List Nat} {ks : Nat → Nat} {n : Nat} {call : zCl} {kc : Nat → List Value → zSt → (Option Value → zSt → Prop) → Prop} {v : Option Value × zSt} {X : Nat → zLv → List Value → zSt → Prop} (hX : zSem cX13_way 7 none h0 qs ks kc (fun r u => (r, u) = v) X) (hc : ∀ j av s w, call j av s = some w → kc j av s (fun r u => (r, u) = w)) {x1 : Int32} {x2 : Int32} {x3 : Int32} {x4 : Int32} {x5 : Int64} {σ : zSt} (h : b_way n call h0 qs ks x1 x2 x3 x4 x5 σ = some v) : X 0 [some (.ref h0), some (.int x1), some (.int x2), some (.int x3), some (.int x4), some (.long x5), none] [] σ := by
  rw [b_way] at h
  refine zs_aload_n hX dX13_way_0 rfl rfl ?_
  refine zg_wayA hX dX13_way_1 ?_
  refine zs_aload_n hX dX13_way_4 rfl rfl ?_
  refine zg_ways hX dX13_way_5 ?_
  refine zs_iload_n hX dX13_way_8 rfl rfl ?_
  obtain ⟨b1, h⟩ := zgd_e h
  obtain ⟨s2, e3, h⟩ := zlet_e h
  refine zt_wayA hX dX13_way_9 (zin_ok b1) ?_
  rw [← e3]
  refine zs_aload_n hX dX13_way_10 rfl rfl ?_
  refine zg_wayTa hX dX13_way_11 ?_
  refine zs_aload_n hX dX13_way_14 rfl rfl ?_
  refine zg_ways hX dX13_way_15 ?_
  refine zs_iload_n hX dX13_way_18 rfl rfl ?_
  obtain ⟨b4, h⟩ := zgd_e h
  obtain ⟨s5, e6, h⟩ := zlet_e h
  refine zt_wayTa hX dX13_way_19 (zin_ok b4) ?_
  rw [← e6]
  refine zs_aload_n hX dX13_way_20 rfl rfl ?_
  refine zg_wayB hX dX13_way_21 ?_
  refine zs_aload_n hX dX13_way_24 rfl rfl ?_
  refine zg_ways hX dX13_way_25 ?_
  refine zs_iload_n hX dX13_way_28 rfl rfl ?_
  obtain ⟨b7, h⟩ := zgd_e h
  obtain ⟨s8, e9, h⟩ := zlet_e h
  refine zt_wayB hX dX13_way_29 (zin_ok b7) ?_
  rw [← e9]
  refine zs_aload_n hX dX13_way_30 rfl rfl ?_
  refine zg_wayTb hX dX13_way_31 ?_
  refine zs_aload_n hX dX13_way_34 rfl rfl ?_
  refine zg_ways hX dX13_way_35 ?_
  refine zs_iload hX dX13_way_38 rfl ?_
  obtain ⟨b10, h⟩ := zgd_e h
  obtain ⟨s11, e12, h⟩ := zlet_e h
  refine zt_wayTb hX dX13_way_40 (zin_ok b10) ?_
  rw [← e12]
  refine zs_aload_n hX dX13_way_41 rfl rfl ?_
  refine zg_wayNumber hX dX13_way_42 ?_
  refine zs_aload_n hX dX13_way_45 rfl rfl ?_
  refine zg_ways hX dX13_way_46 ?_
  refine zs_lload hX dX13_way_49 rfl ?_
  obtain ⟨b13, h⟩ := zgd_e h
  obtain ⟨s14, e15, h⟩ := zlet_e h
  refine zt_wayNumber hX dX13_way_51 (zin_ok b13) ?_
  rw [← e15]
  refine zs_aload_n hX dX13_way_52 rfl rfl ?_
  refine zs_dup hX dX13_way_53 rfl ?_
  refine zg_ways hX dX13_way_54 ?_
  refine zs_iconst (v := 1) hX dX13_way_57 (by decide) ?_
  refine zs_iadd hX dX13_way_58 ?_
  obtain ⟨s16, e17, h⟩ := zlet_e h
  refine zp_ways hX dX13_way_59 ?_
  rw [← e17]
  exact zs_vret hX dX13_way_62 rfl (Option.some.inj h)
def j_lineWay_91 (n : Nat) (call : zCl) (h0 : Nat) (qs : List Nat) (ks : Nat → Nat) (x1 : Int32) (x2 : Int64) (t1 : Int32) (t2 : Int32) (t3 : Int32) (t4 : Int32) (σ : zSt) : zRs :=
  zcv (call 96 [.ref h0, .int t1, .int t2, .int t3, .int t4, .long ((((x1).toInt64) * (σ.2.1 64)) + x2)] σ) fun s1 =>
  some (none, s1)
def j_lineWay_69 (n : Nat) (call : zCl) (h0 : Nat) (qs : List Nat) (ks : Nat → Nat) (x1 : Int32) (x2 : Int64) (x5 : Int32) (t1 : Int32) (t2 : Int32) (σ : zSt) : zRs :=
  if (σ.1 63) ≤ 1 then
    j_lineWay_91 n call h0 qs ks x1 x2 t1 t2 x5 0 σ
  else
    zgd (zin 1 40) (
    j_lineWay_91 n call h0 qs ks x1 x2 t1 t2 x5 (x1 * (σ.2.2.1 41 ((1 : Int32)).toNatClampNeg)) σ)
def j_lineWay_45 (n : Nat) (call : zCl) (h0 : Nat) (qs : List Nat) (ks : Nat → Nat) (x1 : Int32) (x2 : Int64) (x4 : Int32) (t0 : Int32) (σ : zSt) : zRs :=
  if (σ.1 63) ≤ 0 then
    j_lineWay_69 n call h0 qs ks x1 x2 t0 x4 0 σ
  else
    zgd (zin 0 40) (
    j_lineWay_69 n call h0 qs ks x1 x2 t0 x4 (x1 * (σ.2.2.1 41 ((0 : Int32)).toNatClampNeg)) σ)
def j_lineWay_21 (n : Nat) (call : zCl) (h0 : Nat) (qs : List Nat) (ks : Nat → Nat) (x1 : Int32) (x2 : Int64) (t0 : Int32) (σ : zSt) : zRs :=
  if (σ.1 63) ≤ 1 then
    j_lineWay_45 n call h0 qs ks x1 x2 t0 0 σ
  else
    zgd (zin 1 40) (
    zci (call 85 [.ref h0, .int (σ.2.2.1 40 ((1 : Int32)).toNatClampNeg)] σ) fun r5 s3 =>
    j_lineWay_45 n call h0 qs ks x1 x2 t0 r5 s3)
def b_lineWay (n : Nat) (call : zCl) (h0 : Nat) (qs : List Nat) (ks : Nat → Nat) (x1 : Int32) (x2 : Int64) (σ : zSt) : zRs :=
  if (σ.1 63) ≤ 0 then
    j_lineWay_21 n call h0 qs ks x1 x2 0 σ
  else
    zgd (zin 0 40) (
    zci (call 85 [.ref h0, .int (σ.2.2.1 40 ((0 : Int32)).toNatClampNeg)] σ) fun r5 s3 =>
    j_lineWay_21 n call h0 qs ks x1 x2 r5 s3)
set_option maxHeartbeats 4000000 in
theorem pj_lineWay_91 {h0 : Nat} {qs : List Nat} {ks : Nat → Nat} {n : Nat} {call : zCl} {kc : Nat → List Value → zSt → (Option Value → zSt → Prop) → Prop} {v : Option Value × zSt} {X : Nat → zLv → List Value → zSt → Prop} (hX : zSem cX13_lineWay 6 none h0 qs ks kc (fun r u => (r, u) = v) X) (hc : ∀ j av s w, call j av s = some w → kc j av s (fun r u => (r, u) = w)) {x1 : Int32} {x2 : Int64} {t1 : Int32} {t2 : Int32} {t3 : Int32} {t4 : Int32} {σ : zSt} (h : j_lineWay_91 n call h0 qs ks x1 x2 t1 t2 t3 t4 σ = some v) : X 91 [some (.ref h0), some (.int x1), some (.long x2), none, none, none] [.int t4, .int t3, .int t2, .int t1, .ref h0] σ := by
  rw [j_lineWay_91] at h
  refine zs_iload_n hX dX13_lineWay_91 rfl rfl ?_
  refine zs_i2l hX dX13_lineWay_92 ?_
  refine zs_aload_n hX dX13_lineWay_93 rfl rfl ?_
  refine zg_lNumber hX dX13_lineWay_94 ?_
  refine zs_lmul hX dX13_lineWay_97 ?_
  refine zs_lload_n hX dX13_lineWay_98 rfl rfl ?_
  refine zs_ladd hX dX13_lineWay_99 ?_
  obtain ⟨s1, e2, h⟩ := zcv_e h
  refine zc_way hX dX13_lineWay_100 (Nat.le_of_ble_eq_true rfl) (hc _ _ _ _ e2) (fun u9 h9 => ?_)
  cases h9
  exact zs_vret hX dX13_lineWay_103 rfl (Option.some.inj h)
set_option maxHeartbeats 4000000 in
theorem pj_lineWay_69 {h0 : Nat} {qs : List Nat} {ks : Nat → Nat} {n : Nat} {call : zCl} {kc : Nat → List Value → zSt → (Option Value → zSt → Prop) → Prop} {v : Option Value × zSt} {X : Nat → zLv → List Value → zSt → Prop} (hX : zSem cX13_lineWay 6 none h0 qs ks kc (fun r u => (r, u) = v) X) (hc : ∀ j av s w, call j av s = some w → kc j av s (fun r u => (r, u) = w)) {x1 : Int32} {x2 : Int64} {x5 : Int32} {t1 : Int32} {t2 : Int32} {σ : zSt} (h : j_lineWay_69 n call h0 qs ks x1 x2 x5 t1 t2 σ = some v) : X 69 [some (.ref h0), some (.int x1), some (.long x2), none, none, some (.int x5)] [.int t2, .int t1, .ref h0] σ := by
  rw [j_lineWay_69] at h
  refine zs_iload hX dX13_lineWay_69 rfl ?_
  refine zs_aload_n hX dX13_lineWay_71 rfl rfl ?_
  refine zg_lMany hX dX13_lineWay_72 ?_
  refine zs_iconst (v := 1) hX dX13_lineWay_75 (by decide) ?_
  refine zs_icmp_le (tgt := 90) hX dX13_lineWay_76 (by decide) (fun c1 => ?_) (fun c1 => ?_)
  · rw [if_pos c1] at h
    refine zs_iconst (v := 0) hX dX13_lineWay_90 (by decide) ?_
    refine zs_weak hX (lw := [some (.ref h0), some (.int x1), some (.long x2), none, none, none]) ⟨rfl, rfl, rfl, trivial⟩ ?_
    exact pj_lineWay_91 hX hc h
  · rw [if_neg c1] at h
    refine zs_iload_n hX dX13_lineWay_79 rfl rfl ?_
    refine zs_aload_n hX dX13_lineWay_80 rfl rfl ?_
    refine zg_lTimes hX dX13_lineWay_81 ?_
    refine zs_iconst (v := 1) hX dX13_lineWay_84 (by decide) ?_
    obtain ⟨b2, h⟩ := zgd_e h
    refine zl_lTimes hX dX13_lineWay_85 (zin_ok b2) ?_
    refine zs_imul hX dX13_lineWay_86 ?_
    refine zs_goto (tgt := 91) hX dX13_lineWay_87 (by decide) ?_
    refine zs_weak hX (lw := [some (.ref h0), some (.int x1), some (.long x2), none, none, none]) ⟨rfl, rfl, rfl, trivial⟩ ?_
    exact pj_lineWay_91 hX hc h
set_option maxHeartbeats 4000000 in
theorem pj_lineWay_45 {h0 : Nat} {qs : List Nat} {ks : Nat → Nat} {n : Nat} {call : zCl} {kc : Nat → List Value → zSt → (Option Value → zSt → Prop) → Prop} {v : Option Value × zSt} {X : Nat → zLv → List Value → zSt → Prop} (hX : zSem cX13_lineWay 6 none h0 qs ks kc (fun r u => (r, u) = v) X) (hc : ∀ j av s w, call j av s = some w → kc j av s (fun r u => (r, u) = w)) {x1 : Int32} {x2 : Int64} {x4 : Int32} {t0 : Int32} {σ : zSt} (h : j_lineWay_45 n call h0 qs ks x1 x2 x4 t0 σ = some v) : X 45 [some (.ref h0), some (.int x1), some (.long x2), none, some (.int x4), none] [.int t0] σ := by
  rw [j_lineWay_45] at h
  refine zs_istore hX dX13_lineWay_45 (by decide) rfl ?_
  dsimp only [List.set]
  refine zs_aload_n hX dX13_lineWay_47 rfl rfl ?_
  refine zs_iload hX dX13_lineWay_48 rfl ?_
  refine zs_aload_n hX dX13_lineWay_50 rfl rfl ?_
  refine zg_lMany hX dX13_lineWay_51 ?_
  refine zs_if_le (tgt := 68) hX dX13_lineWay_54 (by decide) (fun c1 => ?_) (fun c1 => ?_)
  · rw [if_pos c1] at h
    refine zs_iconst (v := 0) hX dX13_lineWay_68 (by decide) ?_
    refine zs_weak hX (lw := [some (.ref h0), some (.int x1), some (.long x2), none, none, some (.int t0)]) ⟨rfl, rfl, rfl, rfl, trivial⟩ ?_
    exact pj_lineWay_69 hX hc h
  · rw [if_neg c1] at h
    refine zs_iload_n hX dX13_lineWay_57 rfl rfl ?_
    refine zs_aload_n hX dX13_lineWay_58 rfl rfl ?_
    refine zg_lTimes hX dX13_lineWay_59 ?_
    refine zs_iconst (v := 0) hX dX13_lineWay_62 (by decide) ?_
    obtain ⟨b2, h⟩ := zgd_e h
    refine zl_lTimes hX dX13_lineWay_63 (zin_ok b2) ?_
    refine zs_imul hX dX13_lineWay_64 ?_
    refine zs_goto (tgt := 69) hX dX13_lineWay_65 (by decide) ?_
    refine zs_weak hX (lw := [some (.ref h0), some (.int x1), some (.long x2), none, none, some (.int t0)]) ⟨rfl, rfl, rfl, rfl, trivial⟩ ?_
    exact pj_lineWay_69 hX hc h
set_option maxHeartbeats 4000000 in
theorem pj_lineWay_21 {h0 : Nat} {qs : List Nat} {ks : Nat → Nat} {n : Nat} {call : zCl} {kc : Nat → List Value → zSt → (Option Value → zSt → Prop) → Prop} {v : Option Value × zSt} {X : Nat → zLv → List Value → zSt → Prop} (hX : zSem cX13_lineWay 6 none h0 qs ks kc (fun r u => (r, u) = v) X) (hc : ∀ j av s w, call j av s = some w → kc j av s (fun r u => (r, u) = w)) {x1 : Int32} {x2 : Int64} {t0 : Int32} {σ : zSt} (h : j_lineWay_21 n call h0 qs ks x1 x2 t0 σ = some v) : X 21 [some (.ref h0), some (.int x1), some (.long x2), none, none, none] [.int t0] σ := by
  rw [j_lineWay_21] at h
  refine zs_istore hX dX13_lineWay_21 (by decide) rfl ?_
  dsimp only [List.set]
  refine zs_aload_n hX dX13_lineWay_23 rfl rfl ?_
  refine zg_lMany hX dX13_lineWay_24 ?_
  refine zs_iconst (v := 1) hX dX13_lineWay_27 (by decide) ?_
  refine zs_icmp_le (tgt := 44) hX dX13_lineWay_28 (by decide) (fun c1 => ?_) (fun c1 => ?_)
  · rw [if_pos c1] at h
    refine zs_iconst (v := 0) hX dX13_lineWay_44 (by decide) ?_
    exact pj_lineWay_45 hX hc h
  · rw [if_neg c1] at h
    refine zs_aload_n hX dX13_lineWay_31 rfl rfl ?_
    refine zs_aload_n hX dX13_lineWay_32 rfl rfl ?_
    refine zg_lName hX dX13_lineWay_33 ?_
    refine zs_iconst (v := 1) hX dX13_lineWay_36 (by decide) ?_
    obtain ⟨b2, h⟩ := zgd_e h
    refine zl_lName hX dX13_lineWay_37 (zin_ok b2) ?_
    obtain ⟨r5, s3, e4, h⟩ := zci_e h
    refine zc_columnOf hX dX13_lineWay_38 (Nat.le_of_ble_eq_true rfl) (hc _ _ _ _ e4) (fun r9 u9 h9 => ?_)
    cases h9
    refine zs_goto (tgt := 45) hX dX13_lineWay_41 (by decide) ?_
    exact pj_lineWay_45 hX hc h
set_option maxHeartbeats 4000000 in
theorem pb_lineWay {h0 : Nat} {qs : List Nat} {ks : Nat → Nat} {n : Nat} {call : zCl} {kc : Nat → List Value → zSt → (Option Value → zSt → Prop) → Prop} {v : Option Value × zSt} {X : Nat → zLv → List Value → zSt → Prop} (hX : zSem cX13_lineWay 6 none h0 qs ks kc (fun r u => (r, u) = v) X) (hc : ∀ j av s w, call j av s = some w → kc j av s (fun r u => (r, u) = w)) {x1 : Int32} {x2 : Int64} {σ : zSt} (h : b_lineWay n call h0 qs ks x1 x2 σ = some v) : X 0 [some (.ref h0), some (.int x1), some (.long x2), none, none, none] [] σ := by
  rw [b_lineWay] at h
  refine zs_aload_n hX dX13_lineWay_0 rfl rfl ?_
  refine zg_lMany hX dX13_lineWay_1 ?_
  refine zs_if_le (tgt := 20) hX dX13_lineWay_4 (by decide) (fun c1 => ?_) (fun c1 => ?_)
  · rw [if_pos c1] at h
    refine zs_iconst (v := 0) hX dX13_lineWay_20 (by decide) ?_
    exact pj_lineWay_21 hX hc h
  · rw [if_neg c1] at h
    refine zs_aload_n hX dX13_lineWay_7 rfl rfl ?_
    refine zs_aload_n hX dX13_lineWay_8 rfl rfl ?_
    refine zg_lName hX dX13_lineWay_9 ?_
    refine zs_iconst (v := 0) hX dX13_lineWay_12 (by decide) ?_
    obtain ⟨b2, h⟩ := zgd_e h
    refine zl_lName hX dX13_lineWay_13 (zin_ok b2) ?_
    obtain ⟨r5, s3, e4, h⟩ := zci_e h
    refine zc_columnOf hX dX13_lineWay_14 (Nat.le_of_ble_eq_true rfl) (hc _ _ _ _ e4) (fun r9 u9 h9 => ?_)
    cases h9
    refine zs_goto (tgt := 21) hX dX13_lineWay_17 (by decide) ?_
    exact pj_lineWay_21 hX hc h
def j_leaf_354 (n : Nat) (call : zCl) (h0 : Nat) (qs : List Nat) (ks : Nat → Nat) (k153 : Int32 → Int32 → zSt → zRs) (x2 : Int32) (x3 : Int32) (σ : zSt) : zRs :=
  k153 x2 (x3 + 1) σ
def j_leaf_353 (n : Nat) (call : zCl) (h0 : Nat) (qs : List Nat) (ks : Nat → Nat) (k153 : Int32 → Int32 → zSt → zRs) (x2 : Int32) (x3 : Int32) (t1 : Int32) (t2 : Int32) (σ : zSt) : zRs :=
  zgd (zin t1 8000) (zlet (zA σ 100 (upd (σ.2.2.1 100) (t1).toNatClampNeg (vp_nar .boolean t2))) fun s2 =>
  j_leaf_354 n call h0 qs ks k153 x2 x3 s2)
def j_leaf_338 (n : Nat) (call : zCl) (h0 : Nat) (qs : List Nat) (ks : Nat → Nat) (k153 : Int32 → Int32 → zSt → zRs) (x2 : Int32) (x3 : Int32) (x7 : Int32) (σ : zSt) : zRs :=
  if x7 = 0 then
    j_leaf_353 n call h0 qs ks k153 x2 x3 x3 1 σ
  else
    j_leaf_353 n call h0 qs ks k153 x2 x3 x3 0 σ
def j_leaf_336 (n : Nat) (call : zCl) (h0 : Nat) (qs : List Nat) (ks : Nat → Nat) (k153 : Int32 → Int32 → zSt → zRs) (x2 : Int32) (x3 : Int32) (t0 : Int32) (σ : zSt) : zRs :=
  j_leaf_338 n call h0 qs ks k153 x2 x3 t0 σ
def j_leaf_335 (n : Nat) (call : zCl) (h0 : Nat) (qs : List Nat) (ks : Nat → Nat) (k153 : Int32 → Int32 → zSt → zRs) (x2 : Int32) (x3 : Int32) (σ : zSt) : zRs :=
  j_leaf_336 n call h0 qs ks k153 x2 x3 0 σ
def j_leaf_319 (n : Nat) (call : zCl) (h0 : Nat) (qs : List Nat) (ks : Nat → Nat) (k153 : Int32 → Int32 → zSt → zRs) (x2 : Int32) (x3 : Int32) (x7 : Int32) (t1 : Int32) (t2 : Int32) (t3 : Int32) (t4 : Int32) (t5 : Int64) (t6 : Int64) (σ : zSt) : zRs :=
  zci (call 90 [.ref h0, .int t1, .int t2, .int t3, .int t4, .long (t5 + t6)] σ) fun r3 s1 =>
  if r3 = 0 then
    j_leaf_335 n call h0 qs ks k153 x2 x3 s1
  else
    if x7 = 0 then
      j_leaf_335 n call h0 qs ks k153 x2 x3 s1
    else
      j_leaf_336 n call h0 qs ks k153 x2 x3 1 s1
def j_leaf_294 (n : Nat) (call : zCl) (h0 : Nat) (qs : List Nat) (ks : Nat → Nat) (k153 : Int32 → Int32 → zSt → zRs) (x2 : Int32) (x3 : Int32) (x4 : Int32) (x5 : Int32) (x6 : Int32) (x7 : Int32) (σ : zSt) : zRs :=
  if x4 = 3 then
    j_leaf_319 n call h0 qs ks k153 x2 x3 x7 x5 (-1) x6 (σ.1 139) (σ.2.1 140) 1 σ
  else
    j_leaf_319 n call h0 qs ks k153 x2 x3 x7 x5 (-1) x6 (σ.1 139) (σ.2.1 140) 0 σ
def j_leaf_283 (n : Nat) (call : zCl) (h0 : Nat) (qs : List Nat) (ks : Nat → Nat) (k153 : Int32 → Int32 → zSt → zRs) (x2 : Int32) (x3 : Int32) (x4 : Int32) (x5 : Int32) (x6 : Int32) (x7 : Int32) (σ : zSt) : zRs :=
  if x4 = 0 then
    j_leaf_294 n call h0 qs ks k153 x2 x3 x4 x5 x6 x7 σ
  else
    if x4 ≤ 2 then
      j_leaf_338 n call h0 qs ks k153 x2 x3 x7 σ
    else
      j_leaf_294 n call h0 qs ks k153 x2 x3 x4 x5 x6 x7 σ
def j_leaf_277 (n : Nat) (call : zCl) (h0 : Nat) (qs : List Nat) (ks : Nat → Nat) (k153 : Int32 → Int32 → zSt → zRs) (x2 : Int32) (x3 : Int32) (x4 : Int32) (x5 : Int32) (x6 : Int32) (t1 : Int32) (t2 : Int32) (t3 : Int32) (t4 : Int32) (t5 : Int64) (t6 : Int64) (σ : zSt) : zRs :=
  zci (call 90 [.ref h0, .int t1, .int t2, .int t3, .int t4, .long (t5 + t6)] σ) fun r3 s1 =>
  j_leaf_283 n call h0 qs ks k153 x2 x3 x4 x5 x6 r3 s1
def j_leaf_239 (n : Nat) (call : zCl) (h0 : Nat) (qs : List Nat) (ks : Nat → Nat) (k153 : Int32 → Int32 → zSt → zRs) (x2 : Int32) (x3 : Int32) (x4 : Int32) (x5 : Int32) (t0 : Int32) (σ : zSt) : zRs :=
  if 3 ≤ x4 then
    j_leaf_283 n call h0 qs ks k153 x2 x3 x4 x5 t0 1 σ
  else
    if x4 = 1 then
      j_leaf_277 n call h0 qs ks k153 x2 x3 x4 x5 t0 x5 1 t0 (-(σ.1 139)) (-(σ.2.1 140)) 1 σ
    else
      j_leaf_277 n call h0 qs ks k153 x2 x3 x4 x5 t0 x5 1 t0 (-(σ.1 139)) (-(σ.2.1 140)) 0 σ
def l_leaf_153 (n : Nat) (call : zCl) (h0 : Nat) (qs : List Nat) (ks : Nat → Nat) : Nat → Int32 → Int32 → zSt → zRs
  | 0, _, _, _ => none
  | f + 1, x2, x3, σ =>
    zgd (zin x2 64) (
    if (σ.2.2.1 62 (x2).toNatClampNeg) ≤ x3 then
      some (none, σ)
    else
      zgd (zin x3 8000) (
      if (σ.2.2.1 65 (x3).toNatClampNeg) = 0 then
        j_leaf_354 n call h0 qs ks (l_leaf_153 n call h0 qs ks f) x2 x3 σ
      else
        zgd (zin x3 8000) (
        if (σ.2.2.1 100 (x3).toNatClampNeg) = 0 then
          zgd (zin (σ.1 155) 24000) (
          zcv (call 93 [.ref h0, .int x3, .int (σ.2.2.1 49 ((σ.1 155)).toNatClampNeg)] σ) fun s8 =>
          zgd (zin x3 8000) (
          zgd (zin (s8.2.2.1 63 (x3).toNatClampNeg) 6) (
          zci (call 85 [.ref h0, .int 1500] s8) fun r14 s12 =>
          if (s12.1 139) = 0 then
            j_leaf_239 n call h0 qs ks (l_leaf_153 n call h0 qs ks f) x2 x3 (s8.2.2.1 23 ((s8.2.2.1 63 (x3).toNatClampNeg)).toNatClampNeg) r14 0 s12
          else
            zci (call 85 [.ref h0, .int (s12.1 138)] s12) fun r18 s16 =>
            j_leaf_239 n call h0 qs ks (l_leaf_153 n call h0 qs ks f) x2 x3 (s8.2.2.1 23 ((s8.2.2.1 63 (x3).toNatClampNeg)).toNatClampNeg) r14 r18 s16)))
        else
          j_leaf_354 n call h0 qs ks (l_leaf_153 n call h0 qs ks f) x2 x3 σ)))
def l_leaf_59 (n : Nat) (call : zCl) (h0 : Nat) (qs : List Nat) (ks : Nat → Nat) : Nat → Int32 → zSt → zRs
  | 0, _, _ => none
  | f + 1, x2, σ =>
    if (σ.1 152) ≤ x2 then
      zci (call 89 [.ref h0] σ) fun r4 s2 =>
      if r4 = 0 then
        some (none, s2)
      else
        zlet (zI s2 154 1) fun s6 =>
        if 0 ≤ (s6.1 155) then
          zgd (zin (s6.1 155) 24000) (
          zgd (zin (s6.2.2.1 47 ((s6.1 155)).toNatClampNeg) 64) (
          l_leaf_153 n call h0 qs ks n (s6.2.2.1 47 ((s6.1 155)).toNatClampNeg) (s6.2.2.1 61 ((s6.2.2.1 47 ((s6.1 155)).toNatClampNeg)).toNatClampNeg) s6))
        else
          some (none, s6)
    else
      zgd (zin x2 300) (
      zgd (zin x2 300) (
      zgd (zin x2 300) (
      zgd (zin x2 300) (
      zgd (zin x2 300) (
      zci (call 88 [.ref h0, .ref (qs.getD 88 0), .int (σ.2.2.1 93 (x2).toNatClampNeg), .int (σ.2.2.1 94 (x2).toNatClampNeg), .int (σ.2.2.1 95 (x2).toNatClampNeg), .int (σ.2.2.1 96 (x2).toNatClampNeg), .long (σ.2.2.2 99 (x2).toNatClampNeg)] σ) fun r18 s16 =>
      if r18 = 0 then
        some (none, s16)
      else
        l_leaf_59 n call h0 qs ks f (x2 + 1) s16)))))
def l_leaf_16 (n : Nat) (call : zCl) (h0 : Nat) (qs : List Nat) (ks : Nat → Nat) (k9 : Int32 → Int32 → zSt → zRs) : Nat → Int32 → Int32 → Int32 → zSt → zRs
  | 0, _, _, _, _ => none
  | f + 1, x1, x2, x3, σ =>
    if x1 ≤ x3 then
      k9 x1 (x2 + 1) σ
    else
      zgd (zin ((160 * x2) + x3) 25600) (
      zgd (zin ((160 * x2) + x3) 25600) (zlet (zG σ 88 (vp_updL (σ.2.2.2 88) (((160 * x2) + x3)).toNatClampNeg (σ.2.2.2 87 (((160 * x2) + x3)).toNatClampNeg))) fun s4 =>
      l_leaf_16 n call h0 qs ks k9 f x1 x2 (x3 + 1) s4))
def l_leaf_9 (n : Nat) (call : zCl) (h0 : Nat) (qs : List Nat) (ks : Nat → Nat) : Nat → Int32 → Int32 → zSt → zRs
  | 0, _, _, _ => none
  | f + 1, x1, x2, σ =>
    if x1 ≤ x2 then
      l_leaf_59 n call h0 qs ks n 0 σ
    else
      l_leaf_16 n call h0 qs ks (l_leaf_9 n call h0 qs ks f) n x1 x2 0 σ
def b_leaf (n : Nat) (call : zCl) (h0 : Nat) (qs : List Nat) (ks : Nat → Nat) (σ : zSt) : zRs :=
  l_leaf_9 n call h0 qs ks n (2 * (σ.1 131)) 0 σ
set_option maxHeartbeats 4000000 in
theorem pj_leaf_354 {h0 : Nat} {qs : List Nat} {ks : Nat → Nat} {n : Nat} {call : zCl} {kc : Nat → List Value → zSt → (Option Value → zSt → Prop) → Prop} {v : Option Value × zSt} {X : Nat → zLv → List Value → zSt → Prop} (hX : zSem cX13_leaf 8 none h0 qs ks kc (fun r u => (r, u) = v) X) (hc : ∀ j av s w, call j av s = some w → kc j av s (fun r u => (r, u) = w)) {k153 : Int32 → Int32 → zSt → zRs} (hk153 : ∀ (x2 : Int32) (x3 : Int32) (s : zSt), k153 x2 x3 s = some v → X 153 [some (.ref h0), none, some (.int x2), some (.int x3), none, none, none, none] [] s) {x2 : Int32} {x3 : Int32} {σ : zSt} (h : j_leaf_354 n call h0 qs ks k153 x2 x3 σ = some v) : X 354 [some (.ref h0), none, some (.int x2), some (.int x3), none, none, none, none] [] σ := by
  rw [j_leaf_354] at h
  refine zs_iinc (v := x3 + 1) hX dX13_leaf_354 rfl rfl (by decide) rfl ?_
  dsimp only [List.set]
  refine zs_goto (tgt := 153) hX dX13_leaf_357 (by decide) ?_
  exact hk153 _ _ _ h
set_option maxHeartbeats 4000000 in
theorem pj_leaf_353 {h0 : Nat} {qs : List Nat} {ks : Nat → Nat} {n : Nat} {call : zCl} {kc : Nat → List Value → zSt → (Option Value → zSt → Prop) → Prop} {v : Option Value × zSt} {X : Nat → zLv → List Value → zSt → Prop} (hX : zSem cX13_leaf 8 none h0 qs ks kc (fun r u => (r, u) = v) X) (hc : ∀ j av s w, call j av s = some w → kc j av s (fun r u => (r, u) = w)) {k153 : Int32 → Int32 → zSt → zRs} (hk153 : ∀ (x2 : Int32) (x3 : Int32) (s : zSt), k153 x2 x3 s = some v → X 153 [some (.ref h0), none, some (.int x2), some (.int x3), none, none, none, none] [] s) {x2 : Int32} {x3 : Int32} {t1 : Int32} {t2 : Int32} {σ : zSt} (h : j_leaf_353 n call h0 qs ks k153 x2 x3 t1 t2 σ = some v) : X 353 [some (.ref h0), none, some (.int x2), some (.int x3), none, none, none, none] [.int t2, .int t1, .ref (qs.getD 100 0)] σ := by
  rw [j_leaf_353] at h
  obtain ⟨b1, h⟩ := zgd_e h
  obtain ⟨s2, e3, h⟩ := zlet_e h
  refine zt_fails hX dX13_leaf_353 (zin_ok b1) ?_
  rw [← e3]
  exact pj_leaf_354 hX hc hk153 h
set_option maxHeartbeats 4000000 in
theorem pj_leaf_338 {h0 : Nat} {qs : List Nat} {ks : Nat → Nat} {n : Nat} {call : zCl} {kc : Nat → List Value → zSt → (Option Value → zSt → Prop) → Prop} {v : Option Value × zSt} {X : Nat → zLv → List Value → zSt → Prop} (hX : zSem cX13_leaf 8 none h0 qs ks kc (fun r u => (r, u) = v) X) (hc : ∀ j av s w, call j av s = some w → kc j av s (fun r u => (r, u) = w)) {k153 : Int32 → Int32 → zSt → zRs} (hk153 : ∀ (x2 : Int32) (x3 : Int32) (s : zSt), k153 x2 x3 s = some v → X 153 [some (.ref h0), none, some (.int x2), some (.int x3), none, none, none, none] [] s) {x2 : Int32} {x3 : Int32} {x7 : Int32} {σ : zSt} (h : j_leaf_338 n call h0 qs ks k153 x2 x3 x7 σ = some v) : X 338 [some (.ref h0), none, some (.int x2), some (.int x3), none, none, none, some (.int x7)] [] σ := by
  rw [j_leaf_338] at h
  refine zs_aload_n hX dX13_leaf_338 rfl rfl ?_
  refine zg_fails hX dX13_leaf_339 ?_
  refine zs_iload_n hX dX13_leaf_342 rfl rfl ?_
  refine zs_iload hX dX13_leaf_343 rfl ?_
  refine zs_if_ne (tgt := 352) hX dX13_leaf_345 (by decide) (fun c1 => ?_) (fun c1 => ?_)
  · rw [if_neg c1] at h
    refine zs_iconst (v := 0) hX dX13_leaf_352 (by decide) ?_
    refine zs_weak hX (lw := [some (.ref h0), none, some (.int x2), some (.int x3), none, none, none, none]) ⟨rfl, rfl, rfl, trivial⟩ ?_
    exact pj_leaf_353 hX hc hk153 h
  · rw [if_pos c1] at h
    refine zs_iconst (v := 1) hX dX13_leaf_348 (by decide) ?_
    refine zs_goto (tgt := 353) hX dX13_leaf_349 (by decide) ?_
    refine zs_weak hX (lw := [some (.ref h0), none, some (.int x2), some (.int x3), none, none, none, none]) ⟨rfl, rfl, rfl, trivial⟩ ?_
    exact pj_leaf_353 hX hc hk153 h
set_option maxHeartbeats 4000000 in
theorem pj_leaf_336 {h0 : Nat} {qs : List Nat} {ks : Nat → Nat} {n : Nat} {call : zCl} {kc : Nat → List Value → zSt → (Option Value → zSt → Prop) → Prop} {v : Option Value × zSt} {X : Nat → zLv → List Value → zSt → Prop} (hX : zSem cX13_leaf 8 none h0 qs ks kc (fun r u => (r, u) = v) X) (hc : ∀ j av s w, call j av s = some w → kc j av s (fun r u => (r, u) = w)) {k153 : Int32 → Int32 → zSt → zRs} (hk153 : ∀ (x2 : Int32) (x3 : Int32) (s : zSt), k153 x2 x3 s = some v → X 153 [some (.ref h0), none, some (.int x2), some (.int x3), none, none, none, none] [] s) {x2 : Int32} {x3 : Int32} {t0 : Int32} {σ : zSt} (h : j_leaf_336 n call h0 qs ks k153 x2 x3 t0 σ = some v) : X 336 [some (.ref h0), none, some (.int x2), some (.int x3), none, none, none, none] [.int t0] σ := by
  rw [j_leaf_336] at h
  refine zs_istore hX dX13_leaf_336 (by decide) rfl ?_
  dsimp only [List.set]
  exact pj_leaf_338 hX hc hk153 h
set_option maxHeartbeats 4000000 in
theorem pj_leaf_335 {h0 : Nat} {qs : List Nat} {ks : Nat → Nat} {n : Nat} {call : zCl} {kc : Nat → List Value → zSt → (Option Value → zSt → Prop) → Prop} {v : Option Value × zSt} {X : Nat → zLv → List Value → zSt → Prop} (hX : zSem cX13_leaf 8 none h0 qs ks kc (fun r u => (r, u) = v) X) (hc : ∀ j av s w, call j av s = some w → kc j av s (fun r u => (r, u) = w)) {k153 : Int32 → Int32 → zSt → zRs} (hk153 : ∀ (x2 : Int32) (x3 : Int32) (s : zSt), k153 x2 x3 s = some v → X 153 [some (.ref h0), none, some (.int x2), some (.int x3), none, none, none, none] [] s) {x2 : Int32} {x3 : Int32} {σ : zSt} (h : j_leaf_335 n call h0 qs ks k153 x2 x3 σ = some v) : X 335 [some (.ref h0), none, some (.int x2), some (.int x3), none, none, none, none] [] σ := by
  rw [j_leaf_335] at h
  refine zs_iconst (v := 0) hX dX13_leaf_335 (by decide) ?_
  exact pj_leaf_336 hX hc hk153 h
set_option maxHeartbeats 4000000 in
theorem pj_leaf_319 {h0 : Nat} {qs : List Nat} {ks : Nat → Nat} {n : Nat} {call : zCl} {kc : Nat → List Value → zSt → (Option Value → zSt → Prop) → Prop} {v : Option Value × zSt} {X : Nat → zLv → List Value → zSt → Prop} (hX : zSem cX13_leaf 8 none h0 qs ks kc (fun r u => (r, u) = v) X) (hc : ∀ j av s w, call j av s = some w → kc j av s (fun r u => (r, u) = w)) {k153 : Int32 → Int32 → zSt → zRs} (hk153 : ∀ (x2 : Int32) (x3 : Int32) (s : zSt), k153 x2 x3 s = some v → X 153 [some (.ref h0), none, some (.int x2), some (.int x3), none, none, none, none] [] s) {x2 : Int32} {x3 : Int32} {x7 : Int32} {t1 : Int32} {t2 : Int32} {t3 : Int32} {t4 : Int32} {t5 : Int64} {t6 : Int64} {σ : zSt} (h : j_leaf_319 n call h0 qs ks k153 x2 x3 x7 t1 t2 t3 t4 t5 t6 σ = some v) : X 319 [some (.ref h0), none, some (.int x2), some (.int x3), none, none, none, some (.int x7)] [.long t6, .long t5, .int t4, .int t3, .int t2, .int t1, .ref h0] σ := by
  rw [j_leaf_319] at h
  refine zs_ladd hX dX13_leaf_319 ?_
  obtain ⟨r3, s1, e2, h⟩ := zci_e h
  refine zc_says hX dX13_leaf_320 (Nat.le_of_ble_eq_true rfl) (hc _ _ _ _ e2) (fun r9 u9 h9 => ?_)
  cases h9
  refine zs_if_eq (tgt := 335) hX dX13_leaf_323 (by decide) (fun c4 => ?_) (fun c4 => ?_)
  · rw [if_pos c4] at h
    refine zs_weak hX (lw := [some (.ref h0), none, some (.int x2), some (.int x3), none, none, none, none]) ⟨rfl, rfl, rfl, trivial⟩ ?_
    exact pj_leaf_335 hX hc hk153 h
  · rw [if_neg c4] at h
    refine zs_iload hX dX13_leaf_326 rfl ?_
    refine zs_if_eq (tgt := 335) hX dX13_leaf_328 (by decide) (fun c5 => ?_) (fun c5 => ?_)
    · rw [if_pos c5] at h
      refine zs_weak hX (lw := [some (.ref h0), none, some (.int x2), some (.int x3), none, none, none, none]) ⟨rfl, rfl, rfl, trivial⟩ ?_
      exact pj_leaf_335 hX hc hk153 h
    · rw [if_neg c5] at h
      refine zs_iconst (v := 1) hX dX13_leaf_331 (by decide) ?_
      refine zs_goto (tgt := 336) hX dX13_leaf_332 (by decide) ?_
      refine zs_weak hX (lw := [some (.ref h0), none, some (.int x2), some (.int x3), none, none, none, none]) ⟨rfl, rfl, rfl, trivial⟩ ?_
      exact pj_leaf_336 hX hc hk153 h
set_option maxHeartbeats 4000000 in
theorem pj_leaf_294 {h0 : Nat} {qs : List Nat} {ks : Nat → Nat} {n : Nat} {call : zCl} {kc : Nat → List Value → zSt → (Option Value → zSt → Prop) → Prop} {v : Option Value × zSt} {X : Nat → zLv → List Value → zSt → Prop} (hX : zSem cX13_leaf 8 none h0 qs ks kc (fun r u => (r, u) = v) X) (hc : ∀ j av s w, call j av s = some w → kc j av s (fun r u => (r, u) = w)) {k153 : Int32 → Int32 → zSt → zRs} (hk153 : ∀ (x2 : Int32) (x3 : Int32) (s : zSt), k153 x2 x3 s = some v → X 153 [some (.ref h0), none, some (.int x2), some (.int x3), none, none, none, none] [] s) {x2 : Int32} {x3 : Int32} {x4 : Int32} {x5 : Int32} {x6 : Int32} {x7 : Int32} {σ : zSt} (h : j_leaf_294 n call h0 qs ks k153 x2 x3 x4 x5 x6 x7 σ = some v) : X 294 [some (.ref h0), none, some (.int x2), some (.int x3), some (.int x4), some (.int x5), some (.int x6), some (.int x7)] [] σ := by
  rw [j_leaf_294] at h
  refine zs_aload_n hX dX13_leaf_294 rfl rfl ?_
  refine zs_iload hX dX13_leaf_295 rfl ?_
  refine zs_iconst (v := (-1)) hX dX13_leaf_297 (by decide) ?_
  refine zs_iload hX dX13_leaf_298 rfl ?_
  refine zs_aload_n hX dX13_leaf_300 rfl rfl ?_
  refine zg_uTimes hX dX13_leaf_301 ?_
  refine zs_aload_n hX dX13_leaf_304 rfl rfl ?_
  refine zg_uNumber hX dX13_leaf_305 ?_
  refine zs_iload hX dX13_leaf_308 rfl ?_
  refine zs_iconst (v := 3) hX dX13_leaf_310 (by decide) ?_
  refine zs_icmp_ne (tgt := 318) hX dX13_leaf_311 (by decide) (fun c1 => ?_) (fun c1 => ?_)
  · rw [if_neg c1] at h
    refine zs_lconst (v := 0) hX dX13_leaf_318 (by decide) ?_
    refine zs_weak hX (lw := [some (.ref h0), none, some (.int x2), some (.int x3), none, none, none, some (.int x7)]) ⟨rfl, rfl, rfl, rfl, trivial⟩ ?_
    exact pj_leaf_319 hX hc hk153 h
  · rw [if_pos c1] at h
    refine zs_lconst (v := 1) hX dX13_leaf_314 (by decide) ?_
    refine zs_goto (tgt := 319) hX dX13_leaf_315 (by decide) ?_
    refine zs_weak hX (lw := [some (.ref h0), none, some (.int x2), some (.int x3), none, none, none, some (.int x7)]) ⟨rfl, rfl, rfl, rfl, trivial⟩ ?_
    exact pj_leaf_319 hX hc hk153 h
set_option maxHeartbeats 4000000 in
theorem pj_leaf_283 {h0 : Nat} {qs : List Nat} {ks : Nat → Nat} {n : Nat} {call : zCl} {kc : Nat → List Value → zSt → (Option Value → zSt → Prop) → Prop} {v : Option Value × zSt} {X : Nat → zLv → List Value → zSt → Prop} (hX : zSem cX13_leaf 8 none h0 qs ks kc (fun r u => (r, u) = v) X) (hc : ∀ j av s w, call j av s = some w → kc j av s (fun r u => (r, u) = w)) {k153 : Int32 → Int32 → zSt → zRs} (hk153 : ∀ (x2 : Int32) (x3 : Int32) (s : zSt), k153 x2 x3 s = some v → X 153 [some (.ref h0), none, some (.int x2), some (.int x3), none, none, none, none] [] s) {x2 : Int32} {x3 : Int32} {x4 : Int32} {x5 : Int32} {x6 : Int32} {x7 : Int32} {σ : zSt} (h : j_leaf_283 n call h0 qs ks k153 x2 x3 x4 x5 x6 x7 σ = some v) : X 283 [some (.ref h0), none, some (.int x2), some (.int x3), some (.int x4), some (.int x5), some (.int x6), some (.int x7)] [] σ := by
  rw [j_leaf_283] at h
  refine zs_iload hX dX13_leaf_283 rfl ?_
  refine zs_if_eq (tgt := 294) hX dX13_leaf_285 (by decide) (fun c1 => ?_) (fun c1 => ?_)
  · rw [if_pos c1] at h
    exact pj_leaf_294 hX hc hk153 h
  · rw [if_neg c1] at h
    refine zs_iload hX dX13_leaf_288 rfl ?_
    refine zs_iconst (v := 2) hX dX13_leaf_290 (by decide) ?_
    refine zs_icmp_le (tgt := 338) hX dX13_leaf_291 (by decide) (fun c2 => ?_) (fun c2 => ?_)
    · rw [if_pos c2] at h
      refine zs_weak hX (lw := [some (.ref h0), none, some (.int x2), some (.int x3), none, none, none, some (.int x7)]) ⟨rfl, rfl, rfl, rfl, trivial⟩ ?_
      exact pj_leaf_338 hX hc hk153 h
    · rw [if_neg c2] at h
      exact pj_leaf_294 hX hc hk153 h
set_option maxHeartbeats 4000000 in
theorem pj_leaf_277 {h0 : Nat} {qs : List Nat} {ks : Nat → Nat} {n : Nat} {call : zCl} {kc : Nat → List Value → zSt → (Option Value → zSt → Prop) → Prop} {v : Option Value × zSt} {X : Nat → zLv → List Value → zSt → Prop} (hX : zSem cX13_leaf 8 none h0 qs ks kc (fun r u => (r, u) = v) X) (hc : ∀ j av s w, call j av s = some w → kc j av s (fun r u => (r, u) = w)) {k153 : Int32 → Int32 → zSt → zRs} (hk153 : ∀ (x2 : Int32) (x3 : Int32) (s : zSt), k153 x2 x3 s = some v → X 153 [some (.ref h0), none, some (.int x2), some (.int x3), none, none, none, none] [] s) {x2 : Int32} {x3 : Int32} {x4 : Int32} {x5 : Int32} {x6 : Int32} {t1 : Int32} {t2 : Int32} {t3 : Int32} {t4 : Int32} {t5 : Int64} {t6 : Int64} {σ : zSt} (h : j_leaf_277 n call h0 qs ks k153 x2 x3 x4 x5 x6 t1 t2 t3 t4 t5 t6 σ = some v) : X 277 [some (.ref h0), none, some (.int x2), some (.int x3), some (.int x4), some (.int x5), some (.int x6), none] [.long t6, .long t5, .int t4, .int t3, .int t2, .int t1, .ref h0] σ := by
  rw [j_leaf_277] at h
  refine zs_ladd hX dX13_leaf_277 ?_
  obtain ⟨r3, s1, e2, h⟩ := zci_e h
  refine zc_says hX dX13_leaf_278 (Nat.le_of_ble_eq_true rfl) (hc _ _ _ _ e2) (fun r9 u9 h9 => ?_)
  cases h9
  refine zs_istore hX dX13_leaf_281 (by decide) rfl ?_
  dsimp only [List.set]
  exact pj_leaf_283 hX hc hk153 h
set_option maxHeartbeats 4000000 in
theorem pj_leaf_239 {h0 : Nat} {qs : List Nat} {ks : Nat → Nat} {n : Nat} {call : zCl} {kc : Nat → List Value → zSt → (Option Value → zSt → Prop) → Prop} {v : Option Value × zSt} {X : Nat → zLv → List Value → zSt → Prop} (hX : zSem cX13_leaf 8 none h0 qs ks kc (fun r u => (r, u) = v) X) (hc : ∀ j av s w, call j av s = some w → kc j av s (fun r u => (r, u) = w)) {k153 : Int32 → Int32 → zSt → zRs} (hk153 : ∀ (x2 : Int32) (x3 : Int32) (s : zSt), k153 x2 x3 s = some v → X 153 [some (.ref h0), none, some (.int x2), some (.int x3), none, none, none, none] [] s) {x2 : Int32} {x3 : Int32} {x4 : Int32} {x5 : Int32} {t0 : Int32} {σ : zSt} (h : j_leaf_239 n call h0 qs ks k153 x2 x3 x4 x5 t0 σ = some v) : X 239 [some (.ref h0), none, some (.int x2), some (.int x3), some (.int x4), some (.int x5), none, none] [.int t0] σ := by
  rw [j_leaf_239] at h
  refine zs_istore hX dX13_leaf_239 (by decide) rfl ?_
  dsimp only [List.set]
  refine zs_iconst (v := 1) hX dX13_leaf_241 (by decide) ?_
  refine zs_istore hX dX13_leaf_242 (by decide) rfl ?_
  dsimp only [List.set]
  refine zs_iload hX dX13_leaf_244 rfl ?_
  refine zs_iconst (v := 3) hX dX13_leaf_246 (by decide) ?_
  refine zs_icmp_ge (tgt := 283) hX dX13_leaf_247 (by decide) (fun c1 => ?_) (fun c1 => ?_)
  · rw [if_pos c1] at h
    exact pj_leaf_283 hX hc hk153 h
  · rw [if_neg c1] at h
    refine zs_aload_n hX dX13_leaf_250 rfl rfl ?_
    refine zs_iload hX dX13_leaf_251 rfl ?_
    refine zs_iconst (v := 1) hX dX13_leaf_253 (by decide) ?_
    refine zs_iload hX dX13_leaf_254 rfl ?_
    refine zs_aload_n hX dX13_leaf_256 rfl rfl ?_
    refine zg_uTimes hX dX13_leaf_257 ?_
    refine zs_ineg hX dX13_leaf_260 ?_
    refine zs_aload_n hX dX13_leaf_261 rfl rfl ?_
    refine zg_uNumber hX dX13_leaf_262 ?_
    refine zs_lneg hX dX13_leaf_265 ?_
    refine zs_iload hX dX13_leaf_266 rfl ?_
    refine zs_iconst (v := 1) hX dX13_leaf_268 (by decide) ?_
    refine zs_icmp_ne (tgt := 276) hX dX13_leaf_269 (by decide) (fun c2 => ?_) (fun c2 => ?_)
    · rw [if_neg c2] at h
      refine zs_lconst (v := 0) hX dX13_leaf_276 (by decide) ?_
      refine zs_weak hX (lw := [some (.ref h0), none, some (.int x2), some (.int x3), some (.int x4), some (.int x5), some (.int t0), none]) ⟨rfl, rfl, rfl, rfl, rfl, rfl, trivial⟩ ?_
      exact pj_leaf_277 hX hc hk153 h
    · rw [if_pos c2] at h
      refine zs_lconst (v := 1) hX dX13_leaf_272 (by decide) ?_
      refine zs_goto (tgt := 277) hX dX13_leaf_273 (by decide) ?_
      refine zs_weak hX (lw := [some (.ref h0), none, some (.int x2), some (.int x3), some (.int x4), some (.int x5), some (.int t0), none]) ⟨rfl, rfl, rfl, rfl, rfl, rfl, trivial⟩ ?_
      exact pj_leaf_277 hX hc hk153 h
set_option maxHeartbeats 4000000 in
theorem pl_leaf_153 {h0 : Nat} {qs : List Nat} {ks : Nat → Nat} {n : Nat} {call : zCl} {kc : Nat → List Value → zSt → (Option Value → zSt → Prop) → Prop} {v : Option Value × zSt} {X : Nat → zLv → List Value → zSt → Prop} (hX : zSem cX13_leaf 8 none h0 qs ks kc (fun r u => (r, u) = v) X) (hc : ∀ j av s w, call j av s = some w → kc j av s (fun r u => (r, u) = w)) : ∀ (f : Nat) (x2 : Int32) (x3 : Int32) (σ : zSt), l_leaf_153 n call h0 qs ks f x2 x3 σ = some v → X 153 [some (.ref h0), none, some (.int x2), some (.int x3), none, none, none, none] [] σ := by
  intro f
  induction f with
  | zero => intro x2 x3 σ h; cases h
  | succ f hk153 =>
    intro x2 x3 σ h
    rw [l_leaf_153] at h
    refine zs_iload_n hX dX13_leaf_153 rfl rfl ?_
    refine zs_aload_n hX dX13_leaf_154 rfl rfl ?_
    refine zg_caseTo hX dX13_leaf_155 ?_
    refine zs_iload_n hX dX13_leaf_158 rfl rfl ?_
    obtain ⟨b1, h⟩ := zgd_e h
    refine zl_caseTo hX dX13_leaf_159 (zin_ok b1) ?_
    refine zs_icmp_ge (tgt := 360) hX dX13_leaf_160 (by decide) (fun c2 => ?_) (fun c2 => ?_)
    · rw [if_pos c2] at h
      exact zs_vret hX dX13_leaf_360 rfl (Option.some.inj h)
    · rw [if_neg c2] at h
      refine zs_aload_n hX dX13_leaf_163 rfl rfl ?_
      refine zg_alive hX dX13_leaf_164 ?_
      refine zs_iload_n hX dX13_leaf_167 rfl rfl ?_
      obtain ⟨b3, h⟩ := zgd_e h
      refine zl_alive hX dX13_leaf_168 (zin_ok b3) ?_
      refine zs_if_eq (tgt := 354) hX dX13_leaf_169 (by decide) (fun c4 => ?_) (fun c4 => ?_)
      · rw [if_pos c4] at h
        exact pj_leaf_354 hX hc hk153 h
      · rw [if_neg c4] at h
        refine zs_aload_n hX dX13_leaf_172 rfl rfl ?_
        refine zg_fails hX dX13_leaf_173 ?_
        refine zs_iload_n hX dX13_leaf_176 rfl rfl ?_
        obtain ⟨b5, h⟩ := zgd_e h
        refine zl_fails hX dX13_leaf_177 (zin_ok b5) ?_
        refine zs_if_eq (tgt := 184) hX dX13_leaf_178 (by decide) (fun c6 => ?_) (fun c6 => ?_)
        · rw [if_pos c6] at h
          refine zs_aload_n hX dX13_leaf_184 rfl rfl ?_
          refine zs_iload_n hX dX13_leaf_185 rfl rfl ?_
          refine zs_aload_n hX dX13_leaf_186 rfl rfl ?_
          refine zg_saidPut hX dX13_leaf_187 ?_
          refine zs_aload_n hX dX13_leaf_190 rfl rfl ?_
          refine zg_askedSaid hX dX13_leaf_191 ?_
          obtain ⟨b7, h⟩ := zgd_e h
          refine zl_saidPut hX dX13_leaf_194 (zin_ok b7) ?_
          obtain ⟨s8, e9, h⟩ := zcv_e h
          refine zc_instanceTerm hX dX13_leaf_195 (Nat.le_of_ble_eq_true rfl) (hc _ _ _ _ e9) (fun u9 h9 => ?_)
          cases h9
          refine zs_aload_n hX dX13_leaf_198 rfl rfl ?_
          refine zg_qRel hX dX13_leaf_199 ?_
          refine zs_aload_n hX dX13_leaf_202 rfl rfl ?_
          refine zg_byQual hX dX13_leaf_203 ?_
          refine zs_iload_n hX dX13_leaf_206 rfl rfl ?_
          obtain ⟨b10, h⟩ := zgd_e h
          refine zl_byQual hX dX13_leaf_207 (zin_ok b10) ?_
          obtain ⟨b11, h⟩ := zgd_e h
          refine zl_qRel hX dX13_leaf_208 (zin_ok b11) ?_
          refine zs_istore hX dX13_leaf_209 (by decide) rfl ?_
          dsimp only [List.set]
          refine zs_aload_n hX dX13_leaf_211 rfl rfl ?_
          refine zs_sipush (v := 1500) hX dX13_leaf_212 (by decide) ?_
          obtain ⟨r14, s12, e13, h⟩ := zci_e h
          refine zc_columnOf hX dX13_leaf_215 (Nat.le_of_ble_eq_true rfl) (hc _ _ _ _ e13) (fun r9 u9 h9 => ?_)
          cases h9
          refine zs_istore hX dX13_leaf_218 (by decide) rfl ?_
          dsimp only [List.set]
          refine zs_aload_n hX dX13_leaf_220 rfl rfl ?_
          refine zg_uTimes hX dX13_leaf_221 ?_
          refine zs_if_ne (tgt := 231) hX dX13_leaf_224 (by decide) (fun c15 => ?_) (fun c15 => ?_)
          · rw [if_neg c15] at h
            refine zs_aload_n hX dX13_leaf_231 rfl rfl ?_
            refine zs_aload_n hX dX13_leaf_232 rfl rfl ?_
            refine zg_uName hX dX13_leaf_233 ?_
            obtain ⟨r18, s16, e17, h⟩ := zci_e h
            refine zc_columnOf hX dX13_leaf_236 (Nat.le_of_ble_eq_true rfl) (hc _ _ _ _ e17) (fun r9 u9 h9 => ?_)
            cases h9
            exact pj_leaf_239 hX hc hk153 h
          · rw [if_pos c15] at h
            refine zs_iconst (v := 0) hX dX13_leaf_227 (by decide) ?_
            refine zs_goto (tgt := 239) hX dX13_leaf_228 (by decide) ?_
            exact pj_leaf_239 hX hc hk153 h
        · rw [if_neg c6] at h
          refine zs_goto (tgt := 354) hX dX13_leaf_181 (by decide) ?_
          exact pj_leaf_354 hX hc hk153 h
set_option maxHeartbeats 4000000 in
theorem pl_leaf_59 {h0 : Nat} {qs : List Nat} {ks : Nat → Nat} {n : Nat} {call : zCl} {kc : Nat → List Value → zSt → (Option Value → zSt → Prop) → Prop} {v : Option Value × zSt} {X : Nat → zLv → List Value → zSt → Prop} (hX : zSem cX13_leaf 8 none h0 qs ks kc (fun r u => (r, u) = v) X) (hc : ∀ j av s w, call j av s = some w → kc j av s (fun r u => (r, u) = w)) : ∀ (f : Nat) (x2 : Int32) (σ : zSt), l_leaf_59 n call h0 qs ks f x2 σ = some v → X 59 [some (.ref h0), none, some (.int x2), none, none, none, none, none] [] σ := by
  intro f
  induction f with
  | zero => intro x2 σ h; cases h
  | succ f hk59 =>
    intro x2 σ h
    rw [l_leaf_59] at h
    refine zs_iload_n hX dX13_leaf_59 rfl rfl ?_
    refine zs_aload_n hX dX13_leaf_60 rfl rfl ?_
    refine zg_ways hX dX13_leaf_61 ?_
    refine zs_icmp_ge (tgt := 115) hX dX13_leaf_64 (by decide) (fun c1 => ?_) (fun c1 => ?_)
    · rw [if_pos c1] at h
      refine zs_aload_n hX dX13_leaf_115 rfl rfl ?_
      obtain ⟨r4, s2, e3, h⟩ := zci_e h
      refine zc_closes hX dX13_leaf_116 (Nat.le_of_ble_eq_true rfl) (hc _ _ _ _ e3) (fun r9 u9 h9 => ?_)
      cases h9
      refine zs_if_ne (tgt := 123) hX dX13_leaf_119 (by decide) (fun c5 => ?_) (fun c5 => ?_)
      · rw [if_neg c5] at h
        refine zs_aload_n hX dX13_leaf_123 rfl rfl ?_
        refine zs_iconst (v := 1) hX dX13_leaf_124 (by decide) ?_
        obtain ⟨s6, e7, h⟩ := zlet_e h
        refine zp_found hX dX13_leaf_125 (by decide) (by decide) ?_
        rw [← e7]
        refine zs_aload_n hX dX13_leaf_128 rfl rfl ?_
        refine zg_askedSaid hX dX13_leaf_129 ?_
        refine zs_if_ge (tgt := 136) hX dX13_leaf_132 (by decide) (fun c8 => ?_) (fun c8 => ?_)
        · rw [if_pos c8] at h
          refine zs_aload_n hX dX13_leaf_136 rfl rfl ?_
          refine zg_saidCase hX dX13_leaf_137 ?_
          refine zs_aload_n hX dX13_leaf_140 rfl rfl ?_
          refine zg_askedSaid hX dX13_leaf_141 ?_
          obtain ⟨b9, h⟩ := zgd_e h
          refine zl_saidCase hX dX13_leaf_144 (zin_ok b9) ?_
          refine zs_istore_n hX dX13_leaf_145 rfl (by decide) rfl ?_
          dsimp only [List.set]
          refine zs_aload_n hX dX13_leaf_146 rfl rfl ?_
          refine zg_caseFrom hX dX13_leaf_147 ?_
          refine zs_iload_n hX dX13_leaf_150 rfl rfl ?_
          obtain ⟨b10, h⟩ := zgd_e h
          refine zl_caseFrom hX dX13_leaf_151 (zin_ok b10) ?_
          refine zs_istore_n hX dX13_leaf_152 rfl (by decide) rfl ?_
          dsimp only [List.set]
          exact pl_leaf_153 hX hc n _ _ _ h
        · rw [if_neg c8] at h
          exact zs_vret hX dX13_leaf_135 rfl (Option.some.inj h)
      · rw [if_pos c5] at h
        exact zs_vret hX dX13_leaf_122 rfl (Option.some.inj h)
    · rw [if_neg c1] at h
      refine zs_aload_n hX dX13_leaf_67 rfl rfl ?_
      refine zs_aload_n hX dX13_leaf_68 rfl rfl ?_
      refine zg_bound hX dX13_leaf_69 ?_
      refine zs_aload_n hX dX13_leaf_72 rfl rfl ?_
      refine zg_wayA hX dX13_leaf_73 ?_
      refine zs_iload_n hX dX13_leaf_76 rfl rfl ?_
      obtain ⟨b11, h⟩ := zgd_e h
      refine zl_wayA hX dX13_leaf_77 (zin_ok b11) ?_
      refine zs_aload_n hX dX13_leaf_78 rfl rfl ?_
      refine zg_wayTa hX dX13_leaf_79 ?_
      refine zs_iload_n hX dX13_leaf_82 rfl rfl ?_
      obtain ⟨b12, h⟩ := zgd_e h
      refine zl_wayTa hX dX13_leaf_83 (zin_ok b12) ?_
      refine zs_aload_n hX dX13_leaf_84 rfl rfl ?_
      refine zg_wayB hX dX13_leaf_85 ?_
      refine zs_iload_n hX dX13_leaf_88 rfl rfl ?_
      obtain ⟨b13, h⟩ := zgd_e h
      refine zl_wayB hX dX13_leaf_89 (zin_ok b13) ?_
      refine zs_aload_n hX dX13_leaf_90 rfl rfl ?_
      refine zg_wayTb hX dX13_leaf_91 ?_
      refine zs_iload_n hX dX13_leaf_94 rfl rfl ?_
      obtain ⟨b14, h⟩ := zgd_e h
      refine zl_wayTb hX dX13_leaf_95 (zin_ok b14) ?_
      refine zs_aload_n hX dX13_leaf_96 rfl rfl ?_
      refine zg_wayNumber hX dX13_leaf_97 ?_
      refine zs_iload_n hX dX13_leaf_100 rfl rfl ?_
      obtain ⟨b15, h⟩ := zgd_e h
      refine zl_wayNumber hX dX13_leaf_101 (zin_ok b15) ?_
      obtain ⟨r18, s16, e17, h⟩ := zci_e h
      refine zc_atMost hX dX13_leaf_102 (Nat.le_of_ble_eq_true rfl) (hc _ _ _ _ e17) (fun r9 u9 h9 => ?_)
      cases h9
      refine zs_if_ne (tgt := 109) hX dX13_leaf_105 (by decide) (fun c19 => ?_) (fun c19 => ?_)
      · rw [if_neg c19] at h
        refine zs_iinc (v := x2 + 1) hX dX13_leaf_109 rfl rfl (by decide) rfl ?_
        dsimp only [List.set]
        refine zs_goto (tgt := 59) hX dX13_leaf_112 (by decide) ?_
        exact hk59 _ _ h
      · rw [if_pos c19] at h
        exact zs_vret hX dX13_leaf_108 rfl (Option.some.inj h)
set_option maxHeartbeats 4000000 in
theorem pl_leaf_16 {h0 : Nat} {qs : List Nat} {ks : Nat → Nat} {n : Nat} {call : zCl} {kc : Nat → List Value → zSt → (Option Value → zSt → Prop) → Prop} {v : Option Value × zSt} {X : Nat → zLv → List Value → zSt → Prop} (hX : zSem cX13_leaf 8 none h0 qs ks kc (fun r u => (r, u) = v) X) (hc : ∀ j av s w, call j av s = some w → kc j av s (fun r u => (r, u) = w)) {k9 : Int32 → Int32 → zSt → zRs} (hk9 : ∀ (x1 : Int32) (x2 : Int32) (s : zSt), k9 x1 x2 s = some v → X 9 [some (.ref h0), some (.int x1), some (.int x2), none, none, none, none, none] [] s) : ∀ (f : Nat) (x1 : Int32) (x2 : Int32) (x3 : Int32) (σ : zSt), l_leaf_16 n call h0 qs ks k9 f x1 x2 x3 σ = some v → X 16 [some (.ref h0), some (.int x1), some (.int x2), some (.int x3), none, none, none, none] [] σ := by
  intro f
  induction f with
  | zero => intro x1 x2 x3 σ h; cases h
  | succ f hk16 =>
    intro x1 x2 x3 σ h
    rw [l_leaf_16] at h
    refine zs_iload_n hX dX13_leaf_16 rfl rfl ?_
    refine zs_iload_n hX dX13_leaf_17 rfl rfl ?_
    refine zs_icmp_ge (tgt := 51) hX dX13_leaf_18 (by decide) (fun c1 => ?_) (fun c1 => ?_)
    · rw [if_pos c1] at h
      refine zs_iinc (v := x2 + 1) hX dX13_leaf_51 rfl rfl (by decide) rfl ?_
      dsimp only [List.set]
      refine zs_goto (tgt := 9) hX dX13_leaf_54 (by decide) ?_
      refine zs_weak hX (lw := [some (.ref h0), some (.int x1), some (.int (x2 + 1)), none, none, none, none, none]) ⟨rfl, rfl, rfl, trivial⟩ ?_
      exact hk9 _ _ _ h
    · rw [if_neg c1] at h
      refine zs_aload_n hX dX13_leaf_21 rfl rfl ?_
      refine zg_bound hX dX13_leaf_22 ?_
      refine zs_sipush (v := 160) hX dX13_leaf_25 (by decide) ?_
      refine zs_iload_n hX dX13_leaf_28 rfl rfl ?_
      refine zs_imul hX dX13_leaf_29 ?_
      refine zs_iload_n hX dX13_leaf_30 rfl rfl ?_
      refine zs_iadd hX dX13_leaf_31 ?_
      refine zs_aload_n hX dX13_leaf_32 rfl rfl ?_
      refine zg_base hX dX13_leaf_33 ?_
      refine zs_sipush (v := 160) hX dX13_leaf_36 (by decide) ?_
      refine zs_iload_n hX dX13_leaf_39 rfl rfl ?_
      refine zs_imul hX dX13_leaf_40 ?_
      refine zs_iload_n hX dX13_leaf_41 rfl rfl ?_
      refine zs_iadd hX dX13_leaf_42 ?_
      obtain ⟨b2, h⟩ := zgd_e h
      refine zl_base hX dX13_leaf_43 (zin_ok b2) ?_
      obtain ⟨b3, h⟩ := zgd_e h
      obtain ⟨s4, e5, h⟩ := zlet_e h
      refine zt_bound hX dX13_leaf_44 (zin_ok b3) ?_
      rw [← e5]
      refine zs_iinc (v := x3 + 1) hX dX13_leaf_45 rfl rfl (by decide) rfl ?_
      dsimp only [List.set]
      refine zs_goto (tgt := 16) hX dX13_leaf_48 (by decide) ?_
      exact hk16 _ _ _ _ h
set_option maxHeartbeats 4000000 in
theorem pl_leaf_9 {h0 : Nat} {qs : List Nat} {ks : Nat → Nat} {n : Nat} {call : zCl} {kc : Nat → List Value → zSt → (Option Value → zSt → Prop) → Prop} {v : Option Value × zSt} {X : Nat → zLv → List Value → zSt → Prop} (hX : zSem cX13_leaf 8 none h0 qs ks kc (fun r u => (r, u) = v) X) (hc : ∀ j av s w, call j av s = some w → kc j av s (fun r u => (r, u) = w)) : ∀ (f : Nat) (x1 : Int32) (x2 : Int32) (σ : zSt), l_leaf_9 n call h0 qs ks f x1 x2 σ = some v → X 9 [some (.ref h0), some (.int x1), some (.int x2), none, none, none, none, none] [] σ := by
  intro f
  induction f with
  | zero => intro x1 x2 σ h; cases h
  | succ f hk9 =>
    intro x1 x2 σ h
    rw [l_leaf_9] at h
    refine zs_iload_n hX dX13_leaf_9 rfl rfl ?_
    refine zs_iload_n hX dX13_leaf_10 rfl rfl ?_
    refine zs_icmp_ge (tgt := 57) hX dX13_leaf_11 (by decide) (fun c1 => ?_) (fun c1 => ?_)
    · rw [if_pos c1] at h
      refine zs_iconst (v := 0) hX dX13_leaf_57 (by decide) ?_
      refine zs_istore_n hX dX13_leaf_58 rfl (by decide) rfl ?_
      dsimp only [List.set]
      refine zs_weak hX (lw := [some (.ref h0), none, some (.int 0), none, none, none, none, none]) ⟨rfl, rfl, trivial⟩ ?_
      exact pl_leaf_59 hX hc n _ _ h
    · rw [if_neg c1] at h
      refine zs_iconst (v := 0) hX dX13_leaf_14 (by decide) ?_
      refine zs_istore_n hX dX13_leaf_15 rfl (by decide) rfl ?_
      dsimp only [List.set]
      exact pl_leaf_16 hX hc hk9 n _ _ _ _ h
set_option maxHeartbeats 4000000 in
theorem pb_leaf {h0 : Nat} {qs : List Nat} {ks : Nat → Nat} {n : Nat} {call : zCl} {kc : Nat → List Value → zSt → (Option Value → zSt → Prop) → Prop} {v : Option Value × zSt} {X : Nat → zLv → List Value → zSt → Prop} (hX : zSem cX13_leaf 8 none h0 qs ks kc (fun r u => (r, u) = v) X) (hc : ∀ j av s w, call j av s = some w → kc j av s (fun r u => (r, u) = w)) {σ : zSt} (h : b_leaf n call h0 qs ks σ = some v) : X 0 [some (.ref h0), none, none, none, none, none, none, none] [] σ := by
  rw [b_leaf] at h
  refine zs_iconst (v := 2) hX dX13_leaf_0 (by decide) ?_
  refine zs_aload_n hX dX13_leaf_1 rfl rfl ?_
  refine zg_columns hX dX13_leaf_2 ?_
  refine zs_imul hX dX13_leaf_5 ?_
  refine zs_istore_n hX dX13_leaf_6 rfl (by decide) rfl ?_
  dsimp only [List.set]
  refine zs_iconst (v := 0) hX dX13_leaf_7 (by decide) ?_
  refine zs_istore_n hX dX13_leaf_8 rfl (by decide) rfl ?_
  dsimp only [List.set]
  exact pl_leaf_9 hX hc n _ _ _ h
def j_open_27 (n : Nat) (call : zCl) (h0 : Nat) (qs : List Nat) (ks : Nat → Nat) (t1 : Int32) (t2 : Int32) (σ : zSt) : zRs :=
  zgd (zin t1 300) (zlet (zA σ 92 (upd (σ.2.2.1 92) (t1).toNatClampNeg t2)) fun s2 =>
  zlet (zI s2 144 ((s2.1 144) + 1)) fun s4 =>
  some (none, s4))
def b_open (n : Nat) (call : zCl) (h0 : Nat) (qs : List Nat) (ks : Nat → Nat) (x1 : Int32) (x2 : Int32) (σ : zSt) : zRs :=
  zgd (zin (σ.1 144) 300) (zlet (zA σ 91 (upd (σ.2.2.1 91) ((σ.1 144)).toNatClampNeg x1)) fun s2 =>
  if x2 = 0 then
    j_open_27 n call h0 qs ks (s2.1 144) 0 s2
  else
    j_open_27 n call h0 qs ks (s2.1 144) 1 s2)
set_option maxHeartbeats 4000000 in
theorem pj_open_27 {h0 : Nat} {qs : List Nat} {ks : Nat → Nat} {n : Nat} {call : zCl} {kc : Nat → List Value → zSt → (Option Value → zSt → Prop) → Prop} {v : Option Value × zSt} {X : Nat → zLv → List Value → zSt → Prop} (hX : zSem cX13_open 3 none h0 qs ks kc (fun r u => (r, u) = v) X) (hc : ∀ j av s w, call j av s = some w → kc j av s (fun r u => (r, u) = w)) {t1 : Int32} {t2 : Int32} {σ : zSt} (h : j_open_27 n call h0 qs ks t1 t2 σ = some v) : X 27 [some (.ref h0), none, none] [.int t2, .int t1, .ref (qs.getD 92 0)] σ := by
  rw [j_open_27] at h
  obtain ⟨b1, h⟩ := zgd_e h
  obtain ⟨s2, e3, h⟩ := zlet_e h
  refine zt_openIs hX dX13_open_27 (zin_ok b1) ?_
  rw [← e3]
  refine zs_aload_n hX dX13_open_28 rfl rfl ?_
  refine zs_dup hX dX13_open_29 rfl ?_
  refine zg_opens hX dX13_open_30 ?_
  refine zs_iconst (v := 1) hX dX13_open_33 (by decide) ?_
  refine zs_iadd hX dX13_open_34 ?_
  obtain ⟨s4, e5, h⟩ := zlet_e h
  refine zp_opens hX dX13_open_35 ?_
  rw [← e5]
  exact zs_vret hX dX13_open_38 rfl (Option.some.inj h)
set_option maxHeartbeats 4000000 in
theorem pb_open {h0 : Nat} {qs : List Nat} {ks : Nat → Nat} {n : Nat} {call : zCl} {kc : Nat → List Value → zSt → (Option Value → zSt → Prop) → Prop} {v : Option Value × zSt} {X : Nat → zLv → List Value → zSt → Prop} (hX : zSem cX13_open 3 none h0 qs ks kc (fun r u => (r, u) = v) X) (hc : ∀ j av s w, call j av s = some w → kc j av s (fun r u => (r, u) = w)) {x1 : Int32} {x2 : Int32} {σ : zSt} (h : b_open n call h0 qs ks x1 x2 σ = some v) : X 0 [some (.ref h0), some (.int x1), some (.int x2)] [] σ := by
  rw [b_open] at h
  refine zs_aload_n hX dX13_open_0 rfl rfl ?_
  refine zg_openNode hX dX13_open_1 ?_
  refine zs_aload_n hX dX13_open_4 rfl rfl ?_
  refine zg_opens hX dX13_open_5 ?_
  refine zs_iload_n hX dX13_open_8 rfl rfl ?_
  obtain ⟨b1, h⟩ := zgd_e h
  obtain ⟨s2, e3, h⟩ := zlet_e h
  refine zt_openNode hX dX13_open_9 (zin_ok b1) ?_
  rw [← e3]
  refine zs_aload_n hX dX13_open_10 rfl rfl ?_
  refine zg_openIs hX dX13_open_11 ?_
  refine zs_aload_n hX dX13_open_14 rfl rfl ?_
  refine zg_opens hX dX13_open_15 ?_
  refine zs_iload_n hX dX13_open_18 rfl rfl ?_
  refine zs_if_eq (tgt := 26) hX dX13_open_19 (by decide) (fun c4 => ?_) (fun c4 => ?_)
  · rw [if_pos c4] at h
    refine zs_iconst (v := 0) hX dX13_open_26 (by decide) ?_
    refine zs_weak hX (lw := [some (.ref h0), none, none]) ⟨rfl, trivial⟩ ?_
    exact pj_open_27 hX hc h
  · rw [if_neg c4] at h
    refine zs_iconst (v := 1) hX dX13_open_22 (by decide) ?_
    refine zs_goto (tgt := 27) hX dX13_open_23 (by decide) ?_
    refine zs_weak hX (lw := [some (.ref h0), none, none]) ⟨rfl, trivial⟩ ?_
    exact pj_open_27 hX hc h
