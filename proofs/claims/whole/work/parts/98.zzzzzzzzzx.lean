/-! the class's Octagon: close() -/
section CLO2
variable {κ : oKv} {T n o ca len W c b : Nat} {σ : oSt} {B : Int} {L : List (Nat × Nat × Int)}
/-- is a circle below 0? -/
theorem c_cl31 {call : oCl} {k7 : Option Nat → Int32 → oSt → oRs} {k : Nat} {f : Nat → Int64} (hW : W ≤ 160) (hne : ca ≠ o) (hl : len < 2 ^ 31) (hm : b + W * W ≤ len) : ∀ (d i t : Nat) (fa : Int32), i + d = W → d < t → (fa = 0 ∨ fa = 1) → ∃ fa', ol_X6_close_31 T call κ k7 t (some o) (nI k) (nI i) (gOc σ o ca len W b 1 fa f) = k7 (some o) (nI (k + 1)) (gOc σ o ca len W b 1 fa' f) ∧ ((fa' = 0 ∧ fa = 0 ∧ ∀ j, i ≤ j → j < W → 0 ≤ fo b W f j j) ∨ (fa' = 1 ∧ (fa = 1 ∨ ∃ j, j < W ∧ fo b W f j j < 0)))
  | 0, i, t, fa, hi, ht, hf => by
    obtain ⟨t, rfl⟩ : ∃ t', t = t' + 1 := ⟨t - 1, by omega⟩
    refine ⟨fa, ?_, ?_⟩
    · rw [ol_X6_close_31, gOc_f1, ovi_i, obn_at, if_pos (nI_le (by omega) (by omega)), nI_p1]
    · rcases hf with rfl | rfl
      · exact Or.inl ⟨rfl, rfl, fun j h1 h2 => by omega⟩
      · exact Or.inr ⟨rfl, Or.inl rfl⟩
  | d + 1, i, t, fa, hi, ht, hf => by
    obtain ⟨t, rfl⟩ : ∃ t', t = t' + 1 := ⟨t - 1, by omega⟩
    have hiW : i < W := by omega
    have m1 := ix_le (W := W) hiW
    have e0 : (0 : Int64).toInt = 0 := by decide
    have e1 : (f (b + i * W + i)).toInt = fo b W f i i := rfl
    have step : ∃ fa1 : Int32, ol_X6_close_31 T call κ k7 (t + 1) (some o) (nI k) (nI i) (gOc σ o ca len W b 1 fa f) = ol_X6_close_31 T call κ k7 t (some o) (nI k) (nI (i + 1)) (gOc σ o ca len W b 1 fa1 f) ∧ ((fa1 = 0 ∧ fa = 0 ∧ 0 ≤ fo b W f i i) ∨ (fa1 = 1 ∧ (fa = 1 ∨ fo b W f i i < 0))) := by
      rw [ol_X6_close_31]
      unfold oj_X6_close_70 oj_X6_close_75
      simp only [gOc_f1, gOc_f0, gOc_f2, gOc_f4, ovi_i, ovr_rf, obn_at, nI3, gOc_j hne (show b + i * W + i < len by omega) hl, ogd, gOc_p4, show zbo 0 = true by decide, show zbo 1 = true by decide, if_true, nI_p1]
      rw [if_neg (nI_ge (by omega) (by omega))]
      rcases hf with rfl | rfl
      · rw [if_pos rfl]
        by_cases z : 0 ≤ lg_cmp (f (b + i * W + i)) 0
        · rw [if_pos z]
          have := (l_ge _ _).mp z
          rw [e0] at this
          exact ⟨0, rfl, Or.inl ⟨rfl, rfl, this⟩⟩
        · rw [if_neg z]
          have := l_gn z
          rw [e0] at this
          exact ⟨1, rfl, Or.inr ⟨rfl, Or.inr this⟩⟩
      · rw [if_neg (by decide)]
        exact ⟨1, rfl, Or.inr ⟨rfl, Or.inl rfl⟩⟩
    obtain ⟨fa1, s1, s2⟩ := step
    have hf1 : fa1 = 0 ∨ fa1 = 1 := by
      rcases s2 with s2 | s2
      · exact Or.inl s2.1
      · exact Or.inr s2.1
    obtain ⟨fa', i1, i2⟩ := c_cl31 (call := call) (k7 := k7) (k := k) (f := f) hW hne hl hm d (i + 1) t fa1 (by omega) (by omega) hf1
    refine ⟨fa', s1.trans i1, ?_⟩
    rcases i2 with ⟨a1, a2, a3⟩ | ⟨a1, a2⟩
    · rcases s2 with ⟨b1, b2, b3⟩ | ⟨b1, b2⟩
      · refine Or.inl ⟨a1, b2, fun j h1 h2 => ?_⟩
        by_cases z : j = i
        · rw [z]; exact b3
        · exact a3 j (by omega) h2
      · rw [b1] at a2; exact absurd a2 (by decide)
    · rcases a2 with a2 | a2
      · rcases s2 with ⟨b1, b2, b3⟩ | ⟨b1, b2⟩
        · rw [b1] at a2; exact absurd a2 (by decide)
        · rcases b2 with b2 | b2
          · exact Or.inr ⟨a1, Or.inl b2⟩
          · exact Or.inr ⟨a1, Or.inr ⟨i, hiW, b2⟩⟩
      · exact Or.inr ⟨a1, Or.inr a2⟩
/-- its end where nothing is left -/
theorem c_cl7f {f : Nat → Int64} {k : Int32} (hT : 200 ≤ T) {t : Nat} : ol_X6_close_7 T (oF κ T (n + 1)) κ (t + 1) (some o) k (gOc σ o ca len W b 1 1 f) = some (none, gOc σ o ca len W b 1 1 f) := by
  have h90 : oj_X6_close_90 T (oF κ T (n + 1)) κ (some o) (gOc σ o ca len W b 1 1 f) = some (none, gOc σ o ca len W b 1 1 f) := by
    unfold oj_X6_close_90
    rw [gOc_ob, obn_at, c_tight1 hT, ocv_at]
  rw [ol_X6_close_7, gOc_f1, ovi_i, obn_at]
  by_cases z : nI W ≤ k
  · rw [if_pos z, h90]
  · rw [if_neg z, gOc_f4, ovi_i, obn_at, if_neg (by decide), h90]
theorem c_cl7 (hT : 200 ≤ T) (hW : W ≤ 160) (hWc : W = 2 * c) (hne : ca ≠ o) (hl : len < 2 ^ 31) (hm : b + W * W ≤ len) (hB : 0 ≤ B) (hBW : (W : Int) * B + B + 2 ≤ 4503599627370496) (hL : xLn B W L) : ∀ (d k t : Nat) (f : Nat → Int64), k + d = W → d < t → (∀ i, i < W → fo b W f i i = 0) → fN ((k : Int) * B + B) W (fo b W f) → (∀ i j e, tbA 1152921504606846976 W (fo b W f) i j e ↔ xFW (xCz L) k i j e) → ∃ f' fa', ol_X6_close_7 T (oF κ T (n + 1)) κ t (some o) (nI k) (gOc σ o ca len W b 1 0 f) = some (none, gOc σ o ca len W b 1 fa' f') ∧ oQn W b L f' fa' ∧ ∀ e, (e < b ∨ b + W * W ≤ e) → f' e = f e
  | 0, k, t, f, hk, ht, h0, hb, hA => by
    obtain ⟨t, rfl⟩ : ∃ t', t = t' + 1 := ⟨t - 1, by omega⟩
    have hN : (0 : Int) < 1152921504606846976 := by decide
    have : k = W := by omega
    subst this
    have hd : ∀ i, i < k → fo b k f i i ≤ 0 := fun i hi => by rw [h0 i hi]; exact Int.le_refl _
    have hk' : ∀ j, j < k → ∀ e, xFW (xCz L) j j j e → 0 ≤ e := fun j hj e w => by
      have := xFW.ge j (k - j) j j e w
      rw [show j + (k - j) = k by omega] at this
      have := (tbA.at hN hd hj hj).mp ((hA _ _ _).mpr this)
      rw [h0 j hj] at this
      exact this.2
    have ht' := xFW.tri (A := xCz L) xCz.up (xCz.n0 hWc hL) hk'
    obtain ⟨f', fa', t1, t2, t3, t4, t5⟩ := c_tight (κ := κ) (T := T) (n := n) (σ := σ) (cl := 1) (f := f) (A := xFW (xCz L) k) (C := xC L) hT hW hWc hne hl hm (fun i j hi hj => by have := hb i j hi hj; omega) hd hA (fun p q e w => xFW.dv xCz.dv k p q e w) (fun _ => ⟨ht', xFW.coh bx_bx (A := xCz L) xCz.up xCz.coh ht', fun p q e w => xFW.le k p q e (Or.inl w)⟩)
    refine ⟨f', fa', ?_, ⟨t2, t3, fun e => ?_⟩, t5⟩
    · rw [ol_X6_close_7, gOc_f1, ovi_i, obn_at, if_pos (nI_le (by omega) (by omega))]
      unfold oj_X6_close_90
      rw [gOc_ob, obn_at, t1, ocv_at]
    · obtain ⟨u1, u2, u3, u4⟩ := t4 e
      exact ⟨u1, u2, fN_dv hWc hB hBW hL u1 u2 u3 u4, u4⟩
  | d + 1, k, t, f, hk, ht, h0, hb, hA => by
    obtain ⟨t, rfl⟩ : ∃ t', t = t' + 1 := ⟨t - 1, by omega⟩
    have hN : (0 : Int) < 1152921504606846976 := by decide
    have hkW : k < W := by omega
    have hd : ∀ i, i < W → fo b W f i i ≤ 0 := fun i hi => by rw [h0 i hi]; exact Int.le_refl _
    have e0 : (0 : Int64).toInt = 0 := by decide
    have hm1 : ((k : Nat) : Int) * B + B ≤ (W : Int) * B := by
      have : ((k + 1 : Nat) : Int) * B ≤ (W : Int) * B := Int.mul_le_mul_of_nonneg_right (by omega) hB
      have e : ((k + 1 : Nat) : Int) * B = (k : Int) * B + B := by rw [Int.natCast_add, Int.add_mul]; omega
      omega
    have hkB : 0 ≤ ((k : Nat) : Int) * B := Int.mul_nonneg (by omega) hB
    have hb' : fN 144115188075855872 W (fo b W f) := fun i j hi hj => by have := hb i j hi hj; omega
    have g1 : ∀ i j, i < W → j < W → fo b W (lLd b W k k 0 W f) i j = fLd k k 0 (fo b W f) i j := fun i j hi hj => by
      rw [lLd_at hkW hkW hb' (by rw [e0]; omega) W (Nat.le_refl _) i j hi hj, if_pos hi, e0]
      exact fLx_ld (fun _ => by rw [h0 k hkW]; omega) i j
    have out1 : ∀ e, (e < b ∨ b + W * W ≤ e) → lLd b W k k 0 W f e = f e := fun e he => lLd_out W _ (Nat.le_refl _) e he
    have hT1 : ∀ i j e, tbA 1152921504606846976 W (fo b W (lLd b W k k 0 W f)) i j e ↔ xFW (xCz L) (k + 1) i j e := fun i j e => by
      rw [tbA.ld (D := (k : Int) * B + B) (w := 0) hkW hkW hd (by omega) (by omega) (by omega) hb g1 i j e]
      show xL k k 0 _ i j e ↔ xF k (xFW (xCz L) k) i j e
      unfold xL xF
      simp only [hA, Int.add_zero]
    have hd1 : ∀ i, i < W → fo b W (lLd b W k k 0 W f) i i ≤ 0 := fun i hi => by
      rw [g1 i i hi hi]
      unfold fLd
      have := hd i hi
      split <;> omega
    have q : oF κ T (n + 1) 42 [va_rf (some o), .int (nI k), .int (nI k), .long 0] (gOc σ o ca len W b 1 0 f) = some (none, gOc σ o ca len W b 1 0 (lLd b W k k 0 W f)) := c_lead hT hW hne hl hkW hkW hm
    have nb : fN (5 * ((k : Int) * B + B)) W (fo b W (lLd b W k k 0 W f)) := fun i j hi hj => by
      rw [g1 i j hi hj]
      have z1 := hb i j hi hj
      have z2 := hb i k hi hkW
      have z3 := hb k j hkW hj
      unfold fLd
      split <;> omega
    generalize hf1 : lLd b W k k 0 W f = f1 at g1 out1 hT1 hd1 q nb
    obtain ⟨fa1, r1, r2⟩ := c_cl31 (κ := κ) (T := T) (σ := σ) (call := oF κ T (n + 1)) (k7 := ol_X6_close_7 T (oF κ T (n + 1)) κ t) (k := k) (f := f1) hW hne hl hm W 0 T 0 (Nat.zero_add _) (by omega) (Or.inl rfl)
    have r1 : ol_X6_close_31 T (oF κ T (n + 1)) κ (ol_X6_close_7 T (oF κ T (n + 1)) κ t) T (some o) (nI k) 0 (gOc σ o ca len W b 1 0 f1) = _ := r1
    have go : ol_X6_close_7 T (oF κ T (n + 1)) κ (t + 1) (some o) (nI k) (gOc σ o ca len W b 1 0 f) = ol_X6_close_7 T (oF κ T (n + 1)) κ t (some o) (nI (k + 1)) (gOc σ o ca len W b 1 fa1 f1) := by
      rw [ol_X6_close_7, gOc_f1, ovi_i, obn_at, if_neg (nI_ge (by omega) (by omega)), gOc_f4, ovi_i, obn_at, if_pos rfl, gOc_ob, obn_at, q, ocv_at]
      exact r1
    rw [go]
    rcases r2 with ⟨rfl, -, r2⟩ | ⟨rfl, r2⟩
    · have z1 : ∀ i, i < W → fo b W f1 i i = 0 := fun i hi => by
        have := r2 i (Nat.zero_le _) hi
        have := hd1 i hi
        omega
      have hn : ∀ v e, xFW (xCz L) (k + 1) v v e → 0 ≤ e := fun v e w => by
        rcases (hT1 _ _ _).mpr w with ⟨p1, p2, p3, p4⟩ | ⟨p1, p2⟩
        · rw [z1 v p1] at p4; exact p4
        · exact p2
      have bd := xFW.bd hB xCz.up (xCz.bd hB hL) (k + 1) hn
      obtain ⟨f', fa', i1, i2, i3⟩ := c_cl7 hT hW hWc hne hl hm hB hBW hL d (k + 1) t f1 (by omega) (by omega) z1 (fun i j hi hj => by
        rcases nb i j hi hj with h | h
        · exact Or.inl h
        · have w := bd i j _ ((hT1 _ _ _).mp ((tbA.at hN hd1 hi hj).mpr ⟨by omega, Int.le_refl _⟩))
          have w2 := (tbA.at hN hd1 hi hj).mp ((hT1 _ _ _).mpr w.2)
          exact Or.inr ⟨w.1, w2.2⟩) hT1
      exact ⟨f', fa', i1, i2, fun e he => (i3 e he).trans (out1 e he)⟩
    · obtain ⟨t, rfl⟩ : ∃ t', t = t' + 1 := ⟨t - 1, by omega⟩
      refine ⟨f1, 1, c_cl7f hT, ⟨Or.inr rfl, fun _ hO => ?_, fun e => absurd e (by decide)⟩, out1⟩
      rcases r2 with r2 | ⟨j, hj, r2⟩
      · exact absurd r2 (by decide)
      · have := hO j _ (xFW.dv xCz.dv (k + 1) j j _ ((hT1 _ _ _).mp ((tbA.at hN hd1 hj hj).mpr ⟨by omega, Int.le_refl _⟩)))
        omega
/-- **close()** -/
theorem c_oclose {f : Nat → Int64} {fa : Int32} (hT : 200 ≤ T) (hW : W ≤ 160) (hWc : W = 2 * c) (hne : ca ≠ o) (hl : len < 2 ^ 31) (hm : b + W * W ≤ len) (hB : 0 ≤ B) (hBW : (W : Int) * B + B + 2 ≤ 4503599627370496) (hL : xLn B W L) (h : oPn B W b L f fa) : ∃ f' fa', oF κ T (n + 2) 58 [va_rf (some o)] (gOc σ o ca len W b 0 fa f) = some (none, gOc σ o ca len W b 1 fa' f') ∧ oQn W b L f' fa' ∧ ∀ e, (e < b ∨ b + W * W ≤ e) → f' e = f e := by
  rw [show n + 2 = (n + 1) + 1 from rfl, oE_X6_close]
  unfold ob_X6_close
  rw [gOc_p3, obn_at]
  obtain ⟨h1, h2, h3⟩ := h
  rcases h1 with rfl | rfl
  · obtain ⟨q1, q2, q3⟩ := h3 rfl
    exact c_cl7 hT hW hWc hne hl hm hB hBW hL W 0 T f (Nat.zero_add _) (by omega) q1 (fun i j hi hj => by
      rcases q2 i j hi hj with h | h
      · exact Or.inl h
      · exact Or.inr (show -((0 : Nat) * B + B) ≤ fo b W f i j ∧ fo b W f i j ≤ (0 : Nat) * B + B by omega)) q3
  · refine ⟨f, 1, ?_, ⟨Or.inr rfl, h2, fun e => absurd e (by decide)⟩, fun e _ => rfl⟩
    obtain ⟨t, e⟩ : ∃ t', T = t' + 1 := ⟨T - 1, by omega⟩
    have := c_cl7f (κ := κ) (n := n) (o := o) (ca := ca) (len := len) (W := W) (b := b) (σ := σ) (f := f) (k := 0) hT (t := t)
    rw [← e] at this
    exact this
end CLO2
