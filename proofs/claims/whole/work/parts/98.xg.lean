/-! the class's compile() up to its words -/
/-- what compile() does behind its words -/
def cD (call : oCl) (x0 : Option Nat) (w : Nat) (s32 : oSt) : oRs :=
  obn (ovi (ofd s32 (some w) 13 5)) fun v35 =>
  if v35 < 0 then
    olet (onew s32 (.inr (9, odef 9)) (oq 9).2.2) fun s38 =>
    obn ((some s32.2.1)) fun a40 =>
    ocv (call 103 [va_rf (some s32.2.1), va_rf (some w)] s38) fun s42 =>
    obn (oob s42 (some s32.2.1) 9) fun a45 =>
    ocv (call 145 [va_rf (some s32.2.1)] s42) fun s47 =>
    obn (ovi (ofd s47 (some s32.2.1) 9 15)) fun v50 =>
    if v50 < 0 then
      obn (ovi (ofd s47 (some s32.2.1) 9 16)) fun v53 =>
      if v53 < 0 then
        olet (onew s47 (.inr (12, odef 12)) (oq 12).2.2) fun s56 =>
        obn (ovi (ofd s56 (some w) 13 4)) fun v58 =>
        obn ((some s47.2.1)) fun a60 =>
        ocv (call 147 [va_rf (some s47.2.1), .int v58] s56) fun s62 =>
        obn (oob s62 (some s47.2.1) 12) fun a65 =>
        ocv (call 162 [va_rf (some s47.2.1), va_rf (some s32.2.1)] s62) fun s67 =>
        obn (ovi (ofd s67 (some s47.2.1) 12 8)) fun v70 =>
        if v70 < 0 then
          obn (ovi (ofd s67 (some s47.2.1) 12 9)) fun v73 =>
          obn (oob s67 (some s32.2.1) 9) fun a75 =>
          ocv (call 122 [va_rf (some s32.2.1), .int v73] s67) fun s77 =>
          obn (ovi (ofd s77 (some s32.2.1) 9 17)) fun v80 =>
          if v80 < 0 then
            obn (opf s77 x0 14 2 (va_rf (some s32.2.1))) fun s83 =>
            obn (opf s83 x0 14 3 (va_rf (some s47.2.1))) fun s85 =>
            obn (ovr (ofd s85 x0 14 12)) fun v87 =>
            obn (ovr (ofd s85 (some s32.2.1) 9 10)) fun v89 =>
            obn (ovi (ofd s85 v89 7 8)) fun v91 =>
            obn (oob s85 (some s47.2.1) 12) fun a93 =>
            oin (call 22 [va_rf (some s47.2.1), .int v91] s85) fun r97 s95 =>
            obn (oob s95 v87 5) fun a98 =>
            ocv (call 73 [va_rf v87, va_rf (some s32.2.1), .int r97] s95) fun s100 =>
            some (some (.int 0), s100)
          else
            obn (ovi (ofd s77 (some s32.2.1) 9 17)) fun v103 =>
            obn (oob s77 x0 14) fun a105 =>
            oin (call 177 [va_rf x0, .int 5, .int v103] s77) fun r109 s107 =>
            some (some (.int r109), s107)
        else
          obn (ovi (ofd s67 (some s47.2.1) 12 8)) fun v110 =>
          obn (oob s67 x0 14) fun a112 =>
          oin (call 177 [va_rf x0, .int 4, .int v110] s67) fun r116 s114 =>
          some (some (.int r116), s114)
      else
        obn (ovi (ofd s47 (some s32.2.1) 9 16)) fun v117 =>
        obn (oob s47 x0 14) fun a119 =>
        oin (call 177 [va_rf x0, .int 3, .int v117] s47) fun r123 s121 =>
        some (some (.int r123), s121)
    else
      obn (ovi (ofd s47 (some s32.2.1) 9 15)) fun v124 =>
      obn (oob s47 x0 14) fun a126 =>
      oin (call 177 [va_rf x0, .int 2, .int v124] s47) fun r130 s128 =>
      some (some (.int r130), s128)
  else
    obn (ovi (ofd s32 (some w) 13 5)) fun v131 =>
    obn (oob s32 x0 14) fun a133 =>
    oin (call 177 [va_rf x0, .int 1, .int v131] s32) fun r137 s135 =>
    some (some (.int r137), s135)
/-- what compile() does behind its text -/
def cC (call : oCl) (x0 x1 : Option Nat) (σ : oSt) : oRs :=
  obn (opf σ x0 14 1 (.int 0)) fun s4 =>
  obn (opf s4 x0 14 2 (va_rf none)) fun s6 =>
  obn (opf s6 x0 14 3 (va_rf none)) fun s8 =>
  obn (opf s8 x0 14 4 (va_rf none)) fun s10 =>
  obn (opf s10 x0 14 5 (.int (-1))) fun s12 =>
  obn (ovr (ofd s12 x0 14 12)) fun v14 =>
  obn (oob s12 v14 5) fun a16 =>
  ocv (call 72 [va_rf v14] s12) fun s18 =>
  olet (onew s18 (.inr (13, odef 13)) (oq 13).2.2) fun s21 =>
  olet (onew s21 (.inr (0, odef 0)) (oq 0).2.2) fun s23 =>
  obn ((some s21.2.1)) fun a25 =>
  ocv (call 196 [va_rf (some s21.2.1), va_rf x1] s23) fun s27 =>
  obn ((some s18.2.1)) fun a30 =>
  ocv (call 172 [va_rf (some s18.2.1), va_rf (some s21.2.1)] s27) fun s32 =>
  cD call x0 s18.2.1 s32
theorem vnar_c (b : Int32) : vp_nar .char (((b &&& 255).toUInt32 % 65536).toInt32) = b &&& 255 := by
  rw [char_ok]
  exact char_ok b
/-- the letters of the tape, from i on -/
def cCp (g h : Nat → Int32) (len i : Nat) : Nat → Int32 := fun j => if i ≤ j ∧ j < len then g j &&& 255 else h j
theorem cCp_step {g h : Nat → Int32} {len i : Nat} (hi : i < len) : cCp g (upd h i (g i &&& 255)) len (i + 1) = cCp g h len i := by
  funext j
  unfold cCp upd
  by_cases c1 : j = i
  · subst c1
    rw [if_neg (by omega), if_pos rfl, if_pos ⟨by omega, hi⟩]
  · by_cases c2 : i ≤ j ∧ j < len
    · rw [if_pos (by omega), if_pos c2]
    · rw [if_neg (by omega), if_neg c1, if_neg c2]
theorem cCp_end {g h : Nat → Int32} {len : Nat} : cCp g h len len = h := by
  funext j
  unfold cCp
  rw [if_neg (by omega)]
section OCP
variable {κ : oKv} {ks : Nat → Nat} {T n len sz : Nat} {σ : oSt} {x ta c : Nat} {fs : List Value} {ft : Nat → Int32}
theorem c_copy {call : oCl} (hlen : len ≤ 2000) (f0 : fs[0]? = some (.ref ta)) (f1 : fs[1]? = some (.int (nI len))) (hxc : x ≠ c) (htc : ta ≠ c) : ∀ (t i : Nat) (s : oSt) (h : Nat → Int32), s.1 x = some (.inr (14, fs)) → s.1 ta = some (.inl (.byte, 2000, .inl ft)) → s.1 c = some (.inl (.char, len, .inl h)) → i ≤ len → len < i + t → ol_X12_compile_9 T call κ t (some x) (some c) (nI i) s = cC call (some x) (some c) (oput s c (.inl (.char, len, .inl (cCp ft h len i))))
  | 0, i, s, h, _, _, _, _, ht => by omega
  | t + 1, i, s, h, hx, hta, hc, hi, ht => by
    rw [ol_X12_compile_9, ofd_at hx, f1]
    simp only [ovi, obn]
    by_cases c1 : i < len
    · have z1 : zin (nI i) 2000 = true := decide_eq_true ⟨by rw [nI_toInt (by omega)]; omega, by rw [nI_toInt (by omega)]; omega⟩
      have z2 : zin (nI i) len = true := decide_eq_true ⟨by rw [nI_toInt (by omega)]; omega, by rw [nI_toInt (by omega)]; omega⟩
      rw [if_neg (nI_ge c1 (by omega)), ofd_at hx, f0]
      simp only [ovr, obn, oai_at hta z1, vnar_c, osi_at hc z2, nI_clamp (show i < 2 ^ 31 by omega), nI_1]
      refine (c_copy hlen f0 f1 hxc htc t (i + 1) _ (upd h i (ft i &&& 255)) ((oput_ne hxc).trans hx) ((oput_ne htc).trans hta) (oput_eq _ _ _) (by omega) (by omega)).trans ?_
      rw [oput_oput, cCp_step c1]
    · have e : i = len := by omega
      subst e
      rw [if_pos (nI_le (Nat.le_refl _) (by omega)), cCp_end, oput_self hc]
      rfl
/-- compile(): its text is copied -/
theorem c_compile (hlen : len ≤ 2000) (hT : 2010 ≤ T) (hx : σ.1 x = some (.inr (14, fs))) (f0 : fs[0]? = some (.ref ta)) (f1 : fs[1]? = some (.int (nI len))) (hta : σ.1 ta = some (.inl (.byte, 2000, .inl ft))) (hfr : σ.1 σ.2.1 = none) : oF κ T (n + 1) 178 [va_rf (some x)] σ = cC (oF κ T n) (some x) (some σ.2.1) (onew σ (.inl (.char, len, .inl (cCp ft (fun _ => 0) len 0))) len) := by
  have on : onn (nI len) = true := by
    unfold onn
    rw [decide_eq_true (nI_pos (show len < 2 ^ 31 by omega)), nI_clamp (by omega), decide_eq_true (show len ≤ 60000000 by omega)]
    rfl
  have hxn : x ≠ σ.2.1 := fun e => by rw [e, hfr] at hx; cases hx
  have htn : ta ≠ σ.2.1 := fun e => by rw [e, hfr] at hta; cases hta
  rw [oE_X12_compile]
  unfold ob_X12_compile
  rw [ofd_at hx, f1]
  simp only [ovi, obn, ogd, on, if_true, olet, nI_clamp (show len < 2 ^ 31 by omega)]
  refine (c_copy (κ := κ) (T := T) (call := oF κ T n) hlen f0 f1 hxn htn T 0 _ (fun _ => 0) ((onew_ne hxn).trans hx) ((onew_ne htn).trans hta) (onew_eq _ _ _) (Nat.zero_le _) (by omega)).trans ?_
  rw [onew_put]
theorem c_forget {ma : Nat} {fm : List Value} (hm : σ.1 ma = some (.inr (5, fm))) (hl : 17 < fm.length) : oF κ T (n + 1) 72 [va_rf (some ma)] σ = some (none, oput σ ma (.inr (5, (fm.set 0 .null).set 16 (.long 0)))) := by
  rw [oE_X3_forget]
  unfold ob_X3_forget
  rw [opf_at hm (by omega)]
  simp only [obn]
  rw [opf_at (oput_eq _ _ _) (by rw [List.length_set]; omega)]
  simp only [obn, oput_oput]
  rfl
end OCP
