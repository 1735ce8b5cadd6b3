/-! the class's Octagon: evenness and halves -/
theorem n_and2 (x : Nat) (h : x < 2 ^ 64) : x &&& (2 ^ 64 - 2) = 2 * (x / 2) := by
  refine Nat.eq_of_testBit_eq fun i => ?_
  rw [Nat.testBit_and, show (2 ^ 64 - 2 : Nat) = 2 * (2 ^ 63 - 1) by decide]
  cases i with
  | zero => simp
  | succ i =>
    rw [Nat.testBit_succ (2 * (2 ^ 63 - 1)), Nat.testBit_succ (2 * (x / 2)), Nat.mul_div_cancel_left _ (by decide), Nat.mul_div_cancel_left _ (by decide), Nat.testBit_two_pow_sub_one, ← Nat.testBit_succ]
    by_cases c : i < 63
    · simp [c]
    · have : x.testBit (i + 1) = false := Nat.testBit_lt_two_pow (Nat.lt_of_lt_of_le h (Nat.pow_le_pow_right (by decide) (by omega)))
      rw [this]
      rfl
theorem l_and2 (v : Int64) : (v &&& (-2)).toInt = 2 * (v.toInt / 2) := by
  have hv : v.toBitVec.toNat < 2 ^ 64 := v.toBitVec.isLt
  have e : (v &&& (-2)).toBitVec.toNat = 2 * (v.toBitVec.toNat / 2) := by
    rw [Int64.toBitVec_and, BitVec.toNat_and]
    exact n_and2 _ hv
  show (v &&& (-2)).toBitVec.toInt = 2 * (v.toBitVec.toInt / 2)
  rw [BitVec.toInt_eq_toNat_cond, BitVec.toInt_eq_toNat_cond, e]
  split <;> split <;> omega
def fHw (f : Nat → Nat → Int) (i j : Nat) : Int := if f i (bx i) < 1152921504606846976 ∧ f (bx j) j < 1152921504606846976 ∧ (f i (bx i) + f (bx j) j).tdiv 2 < f i j then (f i (bx i) + f (bx j) j).tdiv 2 else f i j
theorem fHw_own (f : Nat → Nat → Int) (i : Nat) : fHw f i (bx i) = f i (bx i) := by
  unfold fHw
  rw [bx_bx, show (f i (bx i) + f i (bx i)).tdiv 2 = f i (bx i) by rw [t_hf]; split <;> omega, if_neg (by omega)]
section TGT
variable {κ : oKv} {T n o ca len W c b : Nat} {cl : Int32} {σ : oSt}
theorem fo_upd {f : Nat → Int64} {i j : Nat} {v : Int64} {p q : Nat} (hj : j < W) (hq : q < W) : fo b W (vp_updL f (b + i * W + j) v) p q = if p = i ∧ q = j then v.toInt else fo b W f p q := by
  unfold fo
  rw [vp_L]
  by_cases z : p = i ∧ q = j
  · obtain ⟨rfl, rfl⟩ := z
    rw [if_pos rfl, if_pos ⟨rfl, rfl⟩]
  · rw [if_neg z, if_neg]
    intro e
    apply z
    rcases Nat.lt_trichotomy p i with y | y | y
    · have := ix_le (W := W) y; omega
    · subst y; exact ⟨rfl, by omega⟩
    · have := ix_le (W := W) y; omega
theorem up_out {f : Nat → Int64} {i j : Nat} {v : Int64} (hi : i < W) (hj : j < W) {e : Nat} (he : e < b ∨ b + W * W ≤ e) : vp_updL f (b + i * W + j) v e = f e := by
  have := ix_le (W := W) hi
  rw [vp_L, if_neg (by omega)]
/-- the loop of halves, one row -/
theorem c_t181 {call : oCl} {k98 : Option Nat → Int32 → oSt → oRs} {fa : Int32} {i : Nat} {own : Int64} (hW : W ≤ 160) (hWc : W = 2 * c) (hne : ca ≠ o) (hl : len < 2 ^ 31) (hi : i < W) (hm : b + W * W ≤ len) : ∀ (d j t : Nat) (f : Nat → Int64), j + d = W → d < t → fB 1152921504606846976 W (fo b W f) → own.toInt = fo b W f i (bx i) → ∃ f', ol_X6_tighten_181 T call κ k98 t (some o) (nI i) own (nI j) (gOc σ o ca len W b cl fa f) = k98 (some o) (nI (i + 1)) (gOc σ o ca len W b cl fa f') ∧ (∀ p q, p < W → q < W → fo b W f' p q = if p = i ∧ j ≤ q then fHw (fo b W f) p q else fo b W f p q) ∧ ∀ e, (e < b ∨ b + W * W ≤ e) → f' e = f e
  | d, j, t, f, hj, ht, hb, ho => by
    obtain ⟨t, rfl⟩ : ∃ t', t = t' + 1 := ⟨t - 1, by omega⟩
    have blt : ∀ {x}, x < W → bx x < W := fun {x} hx => by rw [hWc] at hx ⊢; exact bx_lt hx
    by_cases cw : 0 ≤ lg_cmp own 1152921504606846976
    · refine ⟨f, ?_, fun p q hp hq => ?_, fun e _ => rfl⟩
      · rw [ol_X6_tighten_181, if_pos cw]
        unfold oj_X6_tighten_278
        rw [nI_p1]
      · have := (l_ge _ _).mp cw
        rw [e60, ho] at this
        split
        · rename_i z
          rw [z.1]
          unfold fHw
          rw [if_neg (by omega)]
        · rfl
    · have cw' := l_gn cw
      rw [e60, ho] at cw'
      match d, hj, ht with
      | 0, hj, ht =>
        refine ⟨f, ?_, fun p q hp hq => (if_neg (by omega)).symm, fun e _ => rfl⟩
        rw [ol_X6_tighten_181, if_neg cw, gOc_f1, ovi_i, obn_at, if_pos (nI_le (by omega) (by omega))]
        unfold oj_X6_tighten_278
        rw [nI_p1]
      | d + 1, hj, ht =>
        have hjW : j < W := by omega
        obtain ⟨y1, y2⟩ := x160 j (by omega)
        have m1 := ix_le (W := W) hi
        have m2 := ix_le (W := W) (blt hjW)
        have y1 : nI j ^^^ 1 = nI (bx j) := y1
        have step : ∃ f1, ol_X6_tighten_181 T call κ k98 (t + 1) (some o) (nI i) own (nI j) (gOc σ o ca len W b cl fa f) = ol_X6_tighten_181 T call κ k98 t (some o) (nI i) own (nI (j + 1)) (gOc σ o ca len W b cl fa f1) ∧ (∀ p q, p < W → q < W → fo b W f1 p q = if p = i ∧ q = j then fHw (fo b W f) p q else fo b W f p q) ∧ ∀ e, (e < b ∨ b + W * W ≤ e) → f1 e = f e := by
          rw [ol_X6_tighten_181, if_neg cw]
          unfold oj_X6_tighten_272
          simp only [gOc_f1, gOc_f0, gOc_f2, ovi_i, ovr_rf, obn_at, y1, nI3, nI_p1, gOc_j hne (show b + bx j * W + j < len by omega) hl, gOc_j hne (show b + i * W + j < len by omega) hl, gOc_s hne (show b + i * W + j < len by omega) hl, ogd, show decide (¬ (2 : Int64) = 0) = true by decide, if_true]
          rw [if_neg (nI_ge (by omega) (by omega))]
          by_cases c1 : 0 ≤ lg_cmp (f (b + bx j * W + j)) 1152921504606846976
          · rw [if_pos c1]
            refine ⟨f, rfl, fun p q hp hq => ?_, fun e _ => rfl⟩
            have c1' := (l_ge _ _).mp c1
            rw [e60] at c1'
            split
            · rename_i z
              rw [z.1, z.2]
              unfold fHw
              rw [if_neg (fun w => absurd w.2.1 (by show ¬ (f (b + bx j * W + j)).toInt < _; omega))]
            · rfl
          · rw [if_neg c1]
            have c1' := l_gn c1
            rw [e60] at c1'
            refine ⟨_, rfl, fun p q hp hq => ?_, fun e he => up_out hi hjW he⟩
            rw [fo_upd hjW hq]
            have b1 := hb i _ hi (blt hi)
            have b2 : -1152921504606846976 ≤ (f (b + bx j * W + j)).toInt ∧ (f (b + bx j * W + j)).toInt ≤ 1152921504606846976 := hb _ j (blt hjW) hjW
            have ea : (own + f (b + bx j * W + j)).toInt = fo b W f i (bx i) + fo b W f (bx j) j := by
              rw [j_add, ho] <;> first | rfl | (rw [ho]; omega)
            have ev : ((own + f (b + bx j * W + j)) / 2).toInt = (fo b W f i (bx i) + fo b W f (bx j) j).tdiv 2 := by
              rw [l_hf, ea]
              · rw [ea]; show _ ≤ _ + (f (b + bx j * W + j)).toInt; omega
              · rw [ea]; show _ + (f (b + bx j * W + j)).toInt ≤ _; omega
            split
            · rename_i z
              rw [z.1, z.2]
              unfold fHw
              by_cases c2 : (own + f (b + bx j * W + j)) / 2 < f (b + i * W + j)
              · rw [if_pos c2]
                have c2' := Int64.lt_iff_toInt_lt.mp c2
                rw [ev] at c2'
                rw [if_pos ⟨cw', c1', c2'⟩, ev]
              · rw [if_neg c2]
                rw [if_neg]
                · rfl
                · intro w
                  exact c2 (Int64.lt_iff_toInt_lt.mpr (by rw [ev]; exact w.2.2))
            · rfl
        obtain ⟨f1, s1, s2, s3⟩ := step
        have hb1 : fB 1152921504606846976 W (fo b W f1) := fun p q hp hq => by
          rw [s2 p q hp hq]
          have b0 := hb p q hp hq
          have b1 := hb p _ hp (blt hp)
          have b2 := hb _ q (blt hq) hq
          split
          · unfold fHw
            have e := t_hf (fo b W f p (bx p) + fo b W f (bx q) q)
            generalize (fo b W f p (bx p) + fo b W f (bx q) q).tdiv 2 = v at e ⊢
            split
            · split at e <;> omega
            · exact b0
          · exact b0
        have own1 : ∀ x, x < W → fo b W f1 x (bx x) = fo b W f x (bx x) := fun x hx => by
          rw [s2 x _ hx (blt hx)]
          split
          · exact fHw_own _ _
          · rfl
        have own2 : ∀ x, x < W → fo b W f1 (bx x) x = fo b W f (bx x) x := fun x hx => by
          have := own1 (bx x) (blt hx)
          rw [bx_bx] at this
          exact this
        obtain ⟨f', i1, i2, i3⟩ := c_t181 (call := call) (k98 := k98) (fa := fa) hW hWc hne hl hi hm d (j + 1) t f1 (by omega) (by omega) hb1 (by rw [own1 i hi]; exact ho)
        refine ⟨f', s1.trans i1, fun p q hp hq => ?_, fun e he => (i3 e he).trans (s3 e he)⟩
        rw [i2 p q hp hq]
        by_cases z : p = i ∧ j + 1 ≤ q
        · rw [if_pos z, if_pos ⟨z.1, by omega⟩]
          have e0 : fo b W f1 p q = fo b W f p q := by rw [s2 p q hp hq, if_neg (by omega)]
          unfold fHw
          rw [own1 p hp, own2 q hq, e0]
        · rw [if_neg z, s2 p q hp hq]
          by_cases y : p = i ∧ q = j
          · rw [if_pos y, if_pos ⟨y.1, by omega⟩]
          · rw [if_neg y, if_neg (by omega)]
/-- two limits of one side that leave nothing -/
def fBad (f : Nat → Nat → Int) (k : Nat) : Prop := f k (bx k) < 1152921504606846976 ∧ f (bx k) k < 1152921504606846976 ∧ f k (bx k) + f (bx k) k < 0
theorem c_t98 {call : oCl} (hT : 200 ≤ T) (hW : W ≤ 160) (hWc : W = 2 * c) (hne : ca ≠ o) (hl : len < 2 ^ 31) (hm : b + W * W ≤ len) : ∀ (d i t : Nat) (f : Nat → Int64), i + d = W → d < t → fN 576460752303423488 W (fo b W f) → ∃ f' fa', ol_X6_tighten_98 T call κ t (some o) (nI i) (gOc σ o ca len W b cl 0 f) = some (none, gOc σ o ca len W b cl fa' f') ∧ (fa' = 0 ∨ fa' = 1) ∧ (fa' = 1 → ∃ k, i ≤ k ∧ k < W ∧ fBad (fo b W f) k) ∧ (fa' = 0 → (∀ k, i ≤ k → k < W → ¬ fBad (fo b W f) k) ∧ ∀ p q, p < W → q < W → fo b W f' p q = if i ≤ p then fHw (fo b W f) p q else fo b W f p q) ∧ ∀ e, (e < b ∨ b + W * W ≤ e) → f' e = f e
  | 0, i, t, f, hi, ht, hb => by
    obtain ⟨t, rfl⟩ : ∃ t', t = t' + 1 := ⟨t - 1, by omega⟩
    have : i = W := by omega
    subst this
    refine ⟨f, 0, ?_, Or.inl rfl, fun e => absurd e (by decide), fun _ => ⟨fun k h1 h2 => by omega, fun p q hp hq => (if_neg (by omega)).symm⟩, fun e _ => rfl⟩
    rw [ol_X6_tighten_98, gOc_f1, ovi_i, obn_at, if_pos (nI_le (by omega) (by omega))]
  | d + 1, i, t, f, hi, ht, hb => by
    obtain ⟨t, rfl⟩ : ∃ t', t = t' + 1 := ⟨t - 1, by omega⟩
    have blt : ∀ {x}, x < W → bx x < W := fun {x} hx => by rw [hWc] at hx ⊢; exact bx_lt hx
    have hiW : i < W := by omega
    obtain ⟨y1, y2⟩ := x160 i (by omega)
    have y1 : nI i ^^^ 1 = nI (bx i) := y1
    have m1 := ix_le (W := W) hiW
    have m2 := ix_le (W := W) (blt hiW)
    have hbi := blt hiW
    have hb' : fB 1152921504606846976 W (fo b W f) := fun p q hp hq => by
      have := hb p q hp hq
      omega
    have b1 := hb i _ hiW (blt hiW)
    have b2 := hb _ i (blt hiW) hiW
    have e1 : (f (b + i * W + bx i)).toInt = fo b W f i (bx i) := rfl
    have e2 : (f (b + bx i * W + i)).toInt = fo b W f (bx i) i := rfl
    have e0 : (0 : Int64).toInt = 0 := by decide
    have ea : (f (b + i * W + bx i) + f (b + bx i * W + i)).toInt = fo b W f i (bx i) + fo b W f (bx i) i := j_add (by omega) (by omega)
    -- the flag, then the row
    have step : ∃ fa1 : Int32, ol_X6_tighten_98 T call κ (t + 1) (some o) (nI i) (gOc σ o ca len W b cl 0 f) = ol_X6_tighten_181 T call κ (ol_X6_tighten_98 T call κ t) T (some o) (nI i) (f (b + i * W + bx i)) 0 (gOc σ o ca len W b cl fa1 f) ∧ ((fa1 = 0 ∧ ¬ fBad (fo b W f) i) ∨ (fa1 = 1 ∧ fBad (fo b W f) i)) := by
      rw [ol_X6_tighten_98]
      unfold oj_X6_tighten_174 oj_X6_tighten_175
      simp only [gOc_f1, gOc_f0, gOc_f2, gOc_f4, ovi_i, ovr_rf, obn_at, y1, nI3, gOc_j hne (show b + i * W + bx i < len by omega) hl, gOc_j hne (show b + bx i * W + i < len by omega) hl, ogd, gOc_p4, show zbo 0 = true by decide, show zbo 1 = true by decide, if_true]
      rw [if_neg (nI_ge (by omega) (by omega))]
      by_cases c1 : 0 ≤ lg_cmp (f (b + i * W + bx i)) 1152921504606846976
      · rw [if_pos c1]
        have := (l_ge _ _).mp c1
        rw [e60] at this
        exact ⟨0, rfl, Or.inl ⟨rfl, fun w => by have := w.1; omega⟩⟩
      · rw [if_neg c1]
        have c1' := l_gn c1
        rw [e60] at c1'
        by_cases c2 : 0 ≤ lg_cmp (f (b + i * W + bx i) + f (b + bx i * W + i)) 0
        · rw [if_pos c2]
          have c2' := (l_ge _ _).mp c2
          rw [e0, ea] at c2'
          exact ⟨0, rfl, Or.inl ⟨rfl, fun w => by have := w.2.2; omega⟩⟩
        · rw [if_neg c2]
          have c2' := l_gn c2
          rw [e0, ea] at c2'
          exact ⟨1, rfl, Or.inr ⟨rfl, by omega, by omega, c2'⟩⟩
    obtain ⟨fa1, s1, s2⟩ := step
    obtain ⟨f1, r1, r2, r3⟩ := c_t181 (κ := κ) (T := T) (σ := σ) (cl := cl) (call := call) (k98 := ol_X6_tighten_98 T call κ t) (fa := fa1) (own := f (b + i * W + bx i)) hW hWc hne hl hiW hm W 0 T f (Nat.zero_add _) (by omega) hb' e1
    have r1 : ol_X6_tighten_181 T call κ (ol_X6_tighten_98 T call κ t) T (some o) (nI i) (f (b + i * W + bx i)) 0 (gOc σ o ca len W b cl fa1 f) = _ := r1
    have r2 : ∀ p q, p < W → q < W → fo b W f1 p q = if p = i then fHw (fo b W f) p q else fo b W f p q := fun p q hp hq => by
      rw [r2 p q hp hq]
      by_cases z : p = i
      · rw [if_pos ⟨z, Nat.zero_le _⟩, if_pos z]
      · rw [if_neg (fun w => z w.1), if_neg z]
    have own1 : ∀ x, x < W → fo b W f1 x (bx x) = fo b W f x (bx x) := fun x hx => by
      rw [r2 x _ hx (blt hx)]
      split
      · exact fHw_own _ _
      · rfl
    have own2 : ∀ x, x < W → fo b W f1 (bx x) x = fo b W f (bx x) x := fun x hx => by
      have := own1 (bx x) (blt hx)
      rw [bx_bx] at this
      exact this
    rcases s2 with ⟨rfl, s2⟩ | ⟨rfl, s2⟩
    · have hb1 : fN 576460752303423488 W (fo b W f1) := fun p q hp hq => by
        rw [r2 p q hp hq]
        have b0 := hb p q hp hq
        have b1 := hb p _ hp (blt hp)
        have b2 := hb _ q (blt hq) hq
        split
        · unfold fHw
          have e := t_hf (fo b W f p (bx p) + fo b W f (bx q) q)
          generalize (fo b W f p (bx p) + fo b W f (bx q) q).tdiv 2 = v at e ⊢
          split
          · split at e <;> omega
          · exact b0
        · exact b0
      obtain ⟨f', fa', i1, i2, i3, i4, i5⟩ := c_t98 (call := call) hT hW hWc hne hl hm d (i + 1) t f1 (by omega) (by omega) hb1
      have bad : ∀ k, k < W → (fBad (fo b W f1) k ↔ fBad (fo b W f) k) := fun k hk => by
        unfold fBad
        rw [own1 k hk, own2 k hk]
      refine ⟨f', fa', s1.trans (r1.trans i1), i2, fun e => ?_, fun e => ?_, fun e he => (i5 e he).trans (r3 e he)⟩
      · obtain ⟨k, k1, k2, k3⟩ := i3 e
        exact ⟨k, by omega, k2, (bad k k2).mp k3⟩
      · obtain ⟨j1, j2⟩ := i4 e
        refine ⟨fun k k1 k2 w => ?_, fun p q hp hq => ?_⟩
        · by_cases z : k = i
          · rw [z] at w; exact s2 w
          · exact j1 k (by omega) k2 ((bad k k2).mpr w)
        · rw [j2 p q hp hq]
          by_cases z : i + 1 ≤ p
          · rw [if_pos z, if_pos (by omega)]
            have e0 : fo b W f1 p q = fo b W f p q := by rw [r2 p q hp hq, if_neg (by omega)]
            unfold fHw
            rw [own1 p hp, own2 q hq, e0]
          · rw [if_neg z, r2 p q hp hq]
            by_cases y : p = i
            · rw [if_pos y, if_pos (by omega)]
            · rw [if_neg y, if_neg (by omega)]
    · -- nothing is left: the loop ends
      refine ⟨f1, 1, ?_, Or.inr rfl, fun _ => ⟨i, Nat.le_refl _, hiW, s2⟩, fun e => absurd e (by decide), r3⟩
      rw [s1, r1]
      obtain ⟨t, rfl⟩ : ∃ t', t = t' + 1 := ⟨t - 1, by omega⟩
      rw [ol_X6_tighten_98, gOc_f1, ovi_i, obn_at]
      by_cases z : nI W ≤ nI (i + 1)
      · rw [if_pos z]
      · rw [if_neg z, gOc_f4, ovi_i, obn_at, if_neg (by decide)]
end TGT
