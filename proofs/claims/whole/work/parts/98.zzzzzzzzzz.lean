/-! the class's Octagon: room, reset(), rise(), sink() -/
/-- what more of cells and slots goes with more room -/
def gMo (len len' : Nat) (σ σ' : oSt) : Prop := len ≤ len' ∧ σ.2.1 ≤ σ'.2.1 ∧ (∃ k, σ'.2.2.1 = σ.2.2.1 + k ∧ (len + 1) * 2 ^ k ≤ len' + 1) ∧ σ'.2.2.2 + 2 * len ≤ σ.2.2.2 + 2 * len'
theorem gMo.refl (len : Nat) (σ : oSt) : gMo len len σ σ := ⟨Nat.le_refl _, Nat.le_refl _, ⟨0, rfl, by omega⟩, Nat.le_refl _⟩
theorem gMo.trans {l1 l2 l3 : Nat} {a b c : oSt} (h1 : gMo l1 l2 a b) (h2 : gMo l2 l3 b c) : gMo l1 l3 a c := by
  obtain ⟨a1, a2, ⟨k, a3, a4⟩, a5⟩ := h1
  obtain ⟨b1, b2, ⟨j, b3, b4⟩, b5⟩ := h2
  refine ⟨by omega, by omega, ⟨k + j, by omega, ?_⟩, by omega⟩
  have := Nat.mul_le_mul_right (2 ^ j) a4
  rw [Nat.pow_add, ← Nat.mul_assoc]
  omega
section ROM
variable {κ : oKv} {T n o ca len W b : Nat} {cl fa : Int32} {f : Nat → Int64} {σ : oSt}
/-- makeRoom(most) -/
theorem c_room {most : Nat} (hne : ca ≠ o) (ho : o < σ.2.1) (hca : ca < σ.2.1) (hl : len ≤ 60000000) (hm : 2 * most ≤ 60000000) (hfr : ∀ q, σ.2.1 ≤ q → σ.1 q = none) : ∃ σ' ca' len' f', oF κ T (n + 2) 40 [va_rf (some o), .int (nI most)] (gOc σ o ca len W b cl fa f) = some (none, gOc σ' o ca' len' W b cl fa f') ∧ (∀ x, x < σ.2.1 → x ≠ o → x ≠ ca → σ'.1 x = σ.1 x) ∧ (∀ q, σ'.2.1 ≤ q → σ'.1 q = none) ∧ ca' ≠ o ∧ (ca' = ca ∨ σ.2.1 ≤ ca') ∧ ca' < σ'.2.1 ∧ gMo len len' σ σ' ∧ most ≤ len' ∧ (len' = len ∨ len' = 2 * most) ∧ ∀ e, e < len → f' e = f e := by
  have l0 : oln2 κ (gOc σ o ca len W b cl fa f) (some ca) = some (nI len) := by simp only [oln2, gOc_ca hne]; rfl
  rw [show n + 2 = (n + 1) + 1 from rfl, oE_X6_makeRoom]
  unfold ob_X6_makeRoom
  rw [gOc_f0, ovr_rf, obn_at, l0, obn_at]
  by_cases z : most ≤ len
  · rw [if_pos (nI_le (by omega) (by omega))]
    exact ⟨σ, ca, len, f, rfl, fun _ _ _ _ => rfl, hfr, hne, Or.inl rfl, hca, gMo.refl _ _, z, Or.inl rfl, fun _ _ => rfl⟩
  · rw [if_neg (nI_ge (by omega) (by omega)), obn_at, show (2 : Int32) * nI most = nI (2 * most) by rw [show (2 : Int32) = nI 2 from rfl, nI_mul]]
    have o1 : onn (nI (2 * most)) = true := by
      simp only [onn, nI_clamp (show 2 * most < 2 ^ 31 by omega), nI_neg1 (show 2 * most < 2 ^ 31 by omega), decide_eq_true hm, not_false_eq_true, decide_true, Bool.and_self]
    have r1 : (onew (gOc σ o ca len W b cl fa f) (.inl (.long, 2 * most, .inr (.inl (fun _ => 0)))) (2 * most)).1 ca = some (.inl (.long, len, .inr (.inl f))) := by rw [onew_ne (by show ca ≠ σ.2.1; omega)]; exact gOc_ca hne
    have r2 : (onew (gOc σ o ca len W b cl fa f) (.inl (.long, 2 * most, .inr (.inl (fun _ => 0)))) (2 * most)).1 σ.2.1 = some (.inl (.long, 2 * most, .inr (.inl (fun _ => 0)))) := onew_eq _ _ _
    have r3 : (onew (gOc σ o ca len W b cl fa f) (.inl (.long, 2 * most, .inr (.inl (fun _ => 0)))) (2 * most)).1 o = some (.inr (8, [.ref ca, .int (nI W), .int (nI b), .int cl, .int fa])) := by rw [onew_ne (by show o ≠ σ.2.1; omega)]; exact gOc_o
    have l2 : oln2 κ (onew (gOc σ o ca len W b cl fa f) (.inl (.long, 2 * most, .inr (.inl (fun _ => 0)))) (2 * most)) (some ca) = some (nI len) := by simp only [oln2, r1]; rfl
    have ix : oix 0 0 (nI len) len (2 * most) = true := oix_0 (Nat.le_refl _) (by omega) (by omega)
    have CT : oF κ T (n + 1) 239 [va_rf (some ca), .int (nI (2 * most))] (gOc σ o ca len W b cl fa f) = some (some (va_rf (some σ.2.1)), oput (onew (gOc σ o ca len W b cl fa f) (.inl (.long, 2 * most, .inr (.inl (fun _ => 0)))) (2 * most)) σ.2.1 (.inl (.long, 2 * most, .inr (.inl (va_cpy f (fun _ => 0) 0 0 len))))) := by
      rw [oE_J7_copyOf_c38d5]
      unfold ob_J7_copyOf_c38d5
      rw [l0, obn_at, if_neg (fun e => by have := nI_inj' (by omega) (by omega) e; omega), ogd_at o1, olet_at, nI_clamp (show 2 * most < 2 ^ 31 by omega), l2, obn_at, if_neg (show ¬ nI (2 * most) < nI len from fun e => Int32.lt_irrefl (Int32.lt_trans e (nI_lt (by omega) (by omega))))]
      have CY : ocy (onew (gOc σ o ca len W b cl fa f) (.inl (.long, 2 * most, .inr (.inl (fun _ => 0)))) (2 * most)) (some ca) 0 (some σ.2.1) 0 (nI len) = some (oput (onew (gOc σ o ca len W b cl fa f) (.inl (.long, 2 * most, .inr (.inl (fun _ => 0)))) (2 * most)) σ.2.1 (.inl (.long, 2 * most, .inr (.inl (va_cpy f (fun _ => 0) 0 0 len))))) := by
        simp only [ocy, r1, r2, ix, if_true, nI_clamp (show len < 2 ^ 31 by omega), show (0 : Int32).toNatClampNeg = 0 by decide]
      show obn (ocy _ (some ca) 0 (some σ.2.1) 0 (nI len)) _ = _
      rw [CY, obn_at]
      rfl
    rw [CT, orn_at, opf_at (show (oput (onew (gOc σ o ca len W b cl fa f) (.inl (.long, 2 * most, .inr (.inl (fun _ => 0)))) (2 * most)) σ.2.1 (.inl (.long, 2 * most, .inr (.inl (va_cpy f (fun _ => 0) 0 0 len))))).1 o = _ from (oput_ne (by omega)).trans r3) (by simp only [List.length_cons, List.length_nil]; omega), obn_at]
    refine ⟨onew (gOc σ o ca len W b cl fa f) (.inl (.long, 2 * most, .inr (.inl (fun _ => 0)))) (2 * most), σ.2.1, 2 * most, va_cpy f (fun _ => 0) 0 0 len, rfl, fun x h1 h2 h3 => ?_, fun q hq => ?_, by omega, Or.inr (Nat.le_refl _), Nat.lt_succ_self _, ⟨by omega, Nat.le_succ _, ⟨1, rfl, by omega⟩, ?_⟩, by omega, Or.inr rfl, fun e he => ?_⟩
    · rw [onew_ne (by show x ≠ σ.2.1; omega)]; exact gOc_oth h2 h3
    · have hq : σ.2.1 + 1 ≤ q := hq
      rw [onew_ne (by show q ≠ σ.2.1; omega), gOc_oth (by omega) (by omega)]
      exact hfr q (by omega)
    · show σ.2.2.2 + 2 * most + 2 * len ≤ _
      omega
    · show (if 0 ≤ e ∧ e < 0 + len then f (0 + (e - 0)) else 0) = f e
      rw [if_pos (by omega), show 0 + (e - 0) = e by omega]
end ROM
section RES
variable {κ : oKv} {T n o ca len W : Nat} {cl fa : Int32} {σ : oSt}
theorem c_rs37 {call : oCl} (hW : W ≤ 160) (hne : ca ≠ o) (hl : len < 2 ^ 31) (hm : W * W ≤ len) : ∀ (d k t : Nat) (f : Nat → Int64), k + d = W * W → d < t → ∃ f', ol_X6_reset_37 T call κ t (some o) (nI k) (gOc σ o ca len W 0 cl fa f) = ol_X6_reset_67 T call κ T (some o) 0 (gOc σ o ca len W 0 cl fa f') ∧ ∀ e, f' e = if k ≤ e ∧ e < W * W then 1152921504606846976 else f e
  | 0, k, t, f, hk, ht => by
    obtain ⟨t, rfl⟩ : ∃ t', t = t' + 1 := ⟨t - 1, by omega⟩
    refine ⟨f, ?_, fun e => (if_neg (by omega)).symm⟩
    rw [ol_X6_reset_37, gOc_f1, ovi_i, obn_at, obn_at, nI_mul, if_pos (nI_le (by omega) (by omega))]
  | d + 1, k, t, f, hk, ht => by
    obtain ⟨t, rfl⟩ : ∃ t', t = t' + 1 := ⟨t - 1, by omega⟩
    obtain ⟨f', i1, i2⟩ := c_rs37 (call := call) hW hne hl hm d (k + 1) t (vp_updL f k 1152921504606846976) (by omega) (by omega)
    refine ⟨f', ?_, fun e => ?_⟩
    · rw [ol_X6_reset_37, gOc_f1, ovi_i, obn_at, obn_at, nI_mul, if_neg (nI_ge (by omega) (by omega)), gOc_f0, ovr_rf, obn_at, gOc_s hne (by omega) hl, obn_at, nI_p1]
      exact i1
    · rw [i2 e, vp_L]
      by_cases z : e = k
      · rw [if_neg (by omega), if_pos z, if_pos (by omega)]
      · rw [if_neg z]
        by_cases y : k ≤ e ∧ e < W * W
        · rw [if_pos (by omega), if_pos y]
        · rw [if_neg (by omega), if_neg y]
theorem c_rs67 {call : oCl} (hW : W ≤ 160) (hne : ca ≠ o) (hl : len < 2 ^ 31) (hm : W * W ≤ len) : ∀ (d k t : Nat) (f : Nat → Int64), k + d = W → d < t → ∃ f', ol_X6_reset_67 T call κ t (some o) (nI k) (gOc σ o ca len W 0 cl fa f) = some (none, gOc σ o ca len W 0 cl fa f') ∧ ∀ p q, p < W → q < W → fo 0 W f' p q = if p = q ∧ k ≤ p then 0 else fo 0 W f p q
  | 0, k, t, f, hk, ht => by
    obtain ⟨t, rfl⟩ : ∃ t', t = t' + 1 := ⟨t - 1, by omega⟩
    refine ⟨f, ?_, fun p q hp hq => (if_neg (by omega)).symm⟩
    rw [ol_X6_reset_67, gOc_f1, ovi_i, obn_at, if_pos (nI_le (by omega) (by omega))]
  | d + 1, k, t, f, hk, ht => by
    obtain ⟨t, rfl⟩ : ∃ t', t = t' + 1 := ⟨t - 1, by omega⟩
    have hkW : k < W := by omega
    have m1 := ix_le (W := W) hkW
    obtain ⟨f', i1, i2⟩ := c_rs67 (call := call) hW hne hl hm d (k + 1) t (vp_updL f (0 + k * W + k) 0) (by omega) (by omega)
    refine ⟨f', ?_, fun p q hp hq => ?_⟩
    · rw [ol_X6_reset_67, gOc_f1, ovi_i, obn_at, if_neg (nI_ge (by omega) (by omega)), gOc_f0, ovr_rf, obn_at, obn_at, nI_mul, nI_add, show k * W + k = 0 + k * W + k by omega, gOc_s hne (by omega) hl, obn_at, nI_p1]
      exact i1
    · rw [i2 p q hp hq, fo_upd hkW hq]
      by_cases z : p = k ∧ q = k
      · rw [if_pos z, if_neg (by omega), if_pos (by omega)]
        rfl
      · rw [if_neg z]
        by_cases y : p = q ∧ k + 1 ≤ p
        · rw [if_pos y, if_pos (by omega)]
        · rw [if_neg y, if_neg (by omega)]
/-- **reset(u)**: no limits -/
theorem c_reset {u : Nat} {W0 b0 : Nat} {cl0 fa0 : Int32} {f : Nat → Int64} (hT : 30000 ≤ T) (hu : u ≤ 80) (hne : ca ≠ o) (ho : o < σ.2.1) (hca : ca < σ.2.1) (hl : len ≤ 60000000) (hfr : ∀ q, σ.2.1 ≤ q → σ.1 q = none) : ∃ σ' ca' len' f', oF κ T (n + 3) 41 [va_rf (some o), .int (nI u)] (gOc σ o ca len W0 b0 cl0 fa0 f) = some (none, gOc σ' o ca' len' (2 * u) 0 0 0 f') ∧ (∀ x, x < σ.2.1 → x ≠ o → x ≠ ca → σ'.1 x = σ.1 x) ∧ (∀ q, σ'.2.1 ≤ q → σ'.1 q = none) ∧ ca' ≠ o ∧ (ca' = ca ∨ σ.2.1 ≤ ca') ∧ ca' < σ'.2.1 ∧ gMo len len' σ σ' ∧ 2 * u * (2 * u) ≤ len' ∧ (len' = len ∨ len' = 2 * (2 * u * (2 * u))) ∧ oPn 0 (2 * u) 0 [] f' 0 := by
  have hWW : 2 * u * (2 * u) ≤ 160 * 160 := Nat.mul_le_mul (by omega) (by omega)
  rw [show n + 3 = (n + 2) + 1 from rfl, oE_X6_reset]
  unfold ob_X6_reset
  rw [show (2 : Int32) * nI u = nI (2 * u) by rw [show (2 : Int32) = nI 2 from rfl, nI_mul], gOc_p1, obn_at, show (0 : Int32) = nI 0 from rfl, gOc_p2, obn_at, gOc_p3, obn_at, gOc_p4, obn_at, gOc_f1, ovi_i, obn_at, obn_at, gOc_ob, obn_at, nI_mul]
  obtain ⟨σ', ca', len', f1, a1, a2, a3, a4, a5, a6, a7, a8, a9, a10⟩ := c_room (κ := κ) (T := T) (n := n) (W := 2 * u) (b := 0) (cl := nI 0) (fa := nI 0) (f := f) (most := 2 * u * (2 * u)) hne ho hca hl (by omega) hfr
  have hl' : len' < 2 ^ 31 := by omega
  rw [a1, ocv_at]
  obtain ⟨f2, b1, b2⟩ := c_rs37 (κ := κ) (T := T) (σ := σ') (cl := nI 0) (fa := nI 0) (call := oF κ T (n + 2)) (W := 2 * u) (by omega) a4 hl' a8 (2 * u * (2 * u)) 0 T f1 (Nat.zero_add _) (by omega)
  obtain ⟨f3, c1, c2⟩ := c_rs67 (κ := κ) (T := T) (σ := σ') (cl := nI 0) (fa := nI 0) (call := oF κ T (n + 2)) (W := 2 * u) (by omega) a4 hl' a8 (2 * u) 0 T f2 (Nat.zero_add _) (by omega)
  refine ⟨σ', ca', len', f3, b1.trans c1, a2, a3, a4, a5, a6, a7, a8, a9, ⟨Or.inl rfl, fun e => absurd e (by decide), fun _ => ?_⟩⟩
  have c3 : ∀ p q, p < 2 * u → q < 2 * u → fo 0 (2 * u) f3 p q = if p = q then 0 else 1152921504606846976 := fun p q hp hq => by
    rw [c2 p q hp hq]
    by_cases z : p = q
    · rw [if_pos ⟨z, Nat.zero_le _⟩, if_pos z]
    · rw [if_neg (fun w => z w.1), if_neg z]
      unfold fo
      have := ix_le (W := 2 * u) hp
      rw [b2, if_pos (by omega)]
      exact e60
  refine ⟨fun i hi => by rw [c3 i i hi hi, if_pos rfl], fun i j hi hj => ?_, fun i j e => ?_⟩
  · rw [c3 i j hi hj]
    split
    · exact Or.inr ⟨by decide, by decide⟩
    · exact Or.inl rfl
  · unfold xCz
    constructor
    · rintro (⟨h1, h2, h3, h4⟩ | h)
      · rw [c3 i j h1 h2] at h3 h4
        split at h3
        · rename_i z
          rw [if_pos z] at h4
          exact Or.inr ⟨z, h4⟩
        · omega
      · exact Or.inr h
    · rintro (⟨l, h1, -⟩ | h)
      · cases h1
      · exact Or.inr h
end RES
section RIS
variable {κ : oKv} {T n o ca len W b : Nat} {cl fa : Int32} {f : Nat → Int64} {σ : oSt}
/-- what is said of a level hangs on its cells alone -/
theorem oQn.cg {L : List (Nat × Nat × Int)} {b' : Nat} {f' : Nat → Int64} (h : oQn W b L f fa) (e : ∀ i j, i < W → j < W → fo b' W f' i j = fo b W f i j) : oQn W b' L f' fa := by
  obtain ⟨h1, h2, h3⟩ := h
  refine ⟨h1, h2, fun z => ?_⟩
  obtain ⟨q1, q2, q3, q4⟩ := h3 z
  refine ⟨q1, fun i hi => by rw [e i i hi hi]; exact q2 i hi, fun i j hi hj => by rw [e i j hi hj]; exact q3 i j hi hj, fun i j c => ?_⟩
  rw [← q4]
  unfold tbA
  constructor
  · rintro (⟨h1, h2, h3, h4⟩ | h)
    · rw [e i j h1 h2] at h3 h4
      exact Or.inl ⟨h1, h2, h3, h4⟩
    · exact Or.inr h
  · rintro (⟨h1, h2, h3, h4⟩ | h)
    · refine Or.inl ⟨h1, h2, ?_, ?_⟩
      · rw [e i j h1 h2]; exact h3
      · rw [e i j h1 h2]; exact h4
    · exact Or.inr h
/-- rise(): a level more -/
theorem c_rise {L : List (Nat × Nat × Int)} (hW : W ≤ 160) (hne : ca ≠ o) (ho : o < σ.2.1) (hca : ca < σ.2.1) (hl : len ≤ 60000000) (hb : b + W * W ≤ len) (hm : 2 * (b + 2 * (W * W)) ≤ 60000000) (hfr : ∀ q, σ.2.1 ≤ q → σ.1 q = none) (h : oQn W b L f fa) : ∃ σ' ca' len' f', oF κ T (n + 3) 61 [va_rf (some o)] (gOc σ o ca len W b cl fa f) = some (none, gOc σ' o ca' len' W (b + W * W) cl fa f') ∧ (∀ x, x < σ.2.1 → x ≠ o → x ≠ ca → σ'.1 x = σ.1 x) ∧ (∀ q, σ'.2.1 ≤ q → σ'.1 q = none) ∧ ca' ≠ o ∧ (ca' = ca ∨ σ.2.1 ≤ ca') ∧ ca' < σ'.2.1 ∧ gMo len len' σ σ' ∧ b + 2 * (W * W) ≤ len' ∧ (len' = len ∨ len' = 2 * (b + 2 * (W * W))) ∧ oQn W (b + W * W) L f' fa ∧ ∀ e, e < b + W * W → f' e = f e := by
  rw [show n + 3 = (n + 2) + 1 from rfl, oE_X6_rise]
  unfold ob_X6_rise
  obtain ⟨σ', ca', len', f1, a1, a2, a3, a4, a5, a6, a7, a8, a9, a10⟩ := c_room (κ := κ) (T := T) (n := n) (W := W) (b := b) (cl := cl) (fa := fa) (f := f) (most := b + 2 * (W * W)) hne ho hca hl hm hfr
  have hl' : len' < 2 ^ 31 := by omega
  have e2 : nI b + 2 * (nI W * nI W) = nI (b + 2 * (W * W)) := by
    rw [nI_mul, show (2 : Int32) = nI 2 from rfl, nI_mul, nI_add]
  simp only [gOc_f1, gOc_f2, ovi_i, obn_at, gOc_ob, e2]
  rw [a1, ocv_at]
  have ix : oix (nI b) (nI (b + W * W)) (nI (W * W)) len' len' = true := by
    simp only [oix, nI_clamp (show b < 2 ^ 31 by omega), nI_clamp (show b + W * W < 2 ^ 31 by omega), nI_clamp (show W * W < 2 ^ 31 by omega), nI_neg1 (show b < 2 ^ 31 by omega), nI_neg1 (show b + W * W < 2 ^ 31 by omega), nI_neg1 (show W * W < 2 ^ 31 by omega), decide_eq_true (show b + W * W ≤ len' by omega), decide_eq_true (show b + W * W + W * W ≤ len' by omega), not_false_eq_true, decide_true, Bool.and_self]
  have CY : ocy (gOc σ' o ca' len' W b cl fa f1) (some ca') (nI b) (some ca') (nI (b + W * W)) (nI (W * W)) = some (gOc σ' o ca' len' W b cl fa (va_cpy f1 f1 b (b + W * W) (W * W))) := by
    simp only [ocy, gOc_ca a4, ix, if_true, nI_clamp (show b < 2 ^ 31 by omega), nI_clamp (show b + W * W < 2 ^ 31 by omega), nI_clamp (show W * W < 2 ^ 31 by omega)]
    unfold gOc
    rw [oput_cm a4]
  simp only [gOc_f0, gOc_f2, ovi_i, ovr_rf, obn_at, nI_mul, nI_add, CY, gOc_p2]
  have cp : ∀ e, va_cpy f1 f1 b (b + W * W) (W * W) e = if b + W * W ≤ e ∧ e < b + W * W + W * W then f1 (b + (e - (b + W * W))) else f1 e := fun e => rfl
  refine ⟨σ', ca', len', va_cpy f1 f1 b (b + W * W) (W * W), rfl, a2, a3, a4, a5, a6, a7, a8, a9, h.cg fun i j hi hj => ?_, fun e he => ?_⟩
  · unfold fo
    have := ix_le (W := W) hi
    rw [cp, if_pos (by omega), show b + (b + W * W + i * W + j - (b + W * W)) = b + i * W + j by omega, a10 _ (by omega)]
  · rw [cp, if_neg (by omega), a10 _ (by omega)]
/-- sink(): back -/
theorem c_sink (hW : W ≤ 160) (hb : b < 60000000) : oF κ T (n + 1) 62 [va_rf (some o)] (gOc σ o ca len W (b + W * W) cl fa f) = some (none, gOc σ o ca len W b cl 0 f) := by
  have hWW : W * W ≤ 160 * 160 := Nat.mul_le_mul hW hW
  rw [oE_X6_sink]
  unfold ob_X6_sink
  simp only [gOc_f1, gOc_f2, ovi_i, obn_at, nI_mul, nI_sub' (show W * W ≤ b + W * W by omega), show b + W * W - W * W = b by omega]
  have e : (if (0 : Int32) < nI b then nI b else (0 : Int32)) = nI b := by
    by_cases z : (0 : Int32) < nI b
    · rw [if_pos z]
    · rw [if_neg z]
      by_cases y : b = 0
      · rw [y]; rfl
      · exact absurd (show (0 : Int32) < nI b from nI_lt (a := 0) (by omega) (by omega)) z
  rw [e, gOc_p2, obn_at, gOc_p4, obn_at]
end RIS
