/-! the class's Octagon: tighten() -/
section TG2
variable {κ : oKv} {T n o ca len W c b : Nat} {cl : Int32} {σ : oSt}
/-- the first loop: evenness, circles below 0 -/
theorem c_t2 {call : oCl} (hT : 200 ≤ T) (hW : W ≤ 160) (hWc : W = 2 * c) (hne : ca ≠ o) (hl : len < 2 ^ 31) (hm : b + W * W ≤ len) : ∀ (d i t : Nat) (f : Nat → Int64), i + d = W → d < t → ∃ f1 fa1, ol_X6_tighten_2 T call κ t (some o) (nI i) (gOc σ o ca len W b cl 0 f) = ol_X6_tighten_98 T call κ T (some o) 0 (gOc σ o ca len W b cl fa1 f1) ∧ ((fa1 = 0 ∧ (∀ k, i ≤ k → k < W → 0 ≤ fo b W f k k) ∧ ∀ p q, p < W → q < W → fo b W f1 p q = if (i ≤ p ∧ q = bx p) ∧ fo b W f p q < 1152921504606846976 then 2 * (fo b W f p q / 2) else fo b W f p q) ∨ (fa1 = 1 ∧ ∃ k, k < W ∧ fo b W f k k < 0)) ∧ ∀ e, (e < b ∨ b + W * W ≤ e) → f1 e = f e
  | 0, i, t, f, hi, ht => by
    obtain ⟨t, rfl⟩ : ∃ t', t = t' + 1 := ⟨t - 1, by omega⟩
    have : i = W := by omega
    subst this
    refine ⟨f, 0, ?_, Or.inl ⟨rfl, fun k h1 h2 => by omega, fun p q hp hq => (if_neg (by omega)).symm⟩, fun _ _ => rfl⟩
    rw [ol_X6_tighten_2, gOc_f1, ovi_i, obn_at, if_pos (nI_le (by omega) (by omega))]
    rfl
  | d + 1, i, t, f, hi, ht => by
    obtain ⟨t, rfl⟩ : ∃ t', t = t' + 1 := ⟨t - 1, by omega⟩
    have blt : ∀ {x}, x < W → bx x < W := fun {x} hx => by rw [hWc] at hx ⊢; exact bx_lt hx
    have hiW : i < W := by omega
    obtain ⟨y1, y2⟩ := x160 i (by omega)
    have y1 : nI i ^^^ 1 = nI (bx i) := y1
    have m1 := ix_le (W := W) hiW
    have hbi := blt hiW
    have e0 : (0 : Int64).toInt = 0 := by decide
    -- the cell, then the flag
    have step : ∃ f1, (∃ fa1 : Int32, ol_X6_tighten_2 T call κ (t + 1) (some o) (nI i) (gOc σ o ca len W b cl 0 f) = ol_X6_tighten_2 T call κ t (some o) (nI (i + 1)) (gOc σ o ca len W b cl fa1 f1) ∧ ((fa1 = 0 ∧ 0 ≤ fo b W f i i) ∨ (fa1 = 1 ∧ fo b W f i i < 0))) ∧ (∀ p q, p < W → q < W → fo b W f1 p q = if (p = i ∧ q = bx i) ∧ fo b W f p q < 1152921504606846976 then 2 * (fo b W f p q / 2) else fo b W f p q) ∧ ∀ e, (e < b ∨ b + W * W ≤ e) → f1 e = f e := by
      have fin : ∀ f1 : Nat → Int64, fo b W f1 i i = fo b W f i i → ∃ fa1 : Int32, oj_X6_tighten_58 T call κ (ol_X6_tighten_2 T call κ t) (some o) (nI i) (gOc σ o ca len W b cl 0 f1) = ol_X6_tighten_2 T call κ t (some o) (nI (i + 1)) (gOc σ o ca len W b cl fa1 f1) ∧ ((fa1 = 0 ∧ 0 ≤ fo b W f i i) ∨ (fa1 = 1 ∧ fo b W f i i < 0)) := fun f1 hf1 => by
        unfold oj_X6_tighten_58 oj_X6_tighten_87
        simp only [gOc_f1, gOc_f0, gOc_f2, ovi_i, ovr_rf, obn_at, nI3, nI_p1, gOc_j hne (show b + i * W + i < len by omega) hl, ogd, gOc_p4, show zbo 0 = true by decide, show zbo 1 = true by decide, if_true]
        have e1 : (f1 (b + i * W + i)).toInt = fo b W f1 i i := rfl
        by_cases c2 : 0 ≤ lg_cmp (f1 (b + i * W + i)) 0
        · rw [if_pos c2]
          have c2' := (l_ge _ _).mp c2
          rw [e0, e1, hf1] at c2'
          exact ⟨0, rfl, Or.inl ⟨rfl, c2'⟩⟩
        · rw [if_neg c2]
          have c2' := l_gn c2
          rw [e0, e1, hf1] at c2'
          exact ⟨1, rfl, Or.inr ⟨rfl, c2'⟩⟩
      rw [ol_X6_tighten_2]
      simp only [gOc_f1, gOc_f0, gOc_f2, gOc_f4, ovi_i, ovr_rf, obn_at, y1, nI3, gOc_j hne (show b + i * W + bx i < len by omega) hl, gOc_s hne (show b + i * W + bx i < len by omega) hl, if_true]
      rw [if_neg (nI_ge (by omega) (by omega))]
      have e1 : (f (b + i * W + bx i)).toInt = fo b W f i (bx i) := rfl
      by_cases c1 : 0 ≤ lg_cmp (f (b + i * W + bx i)) 1152921504606846976
      · rw [if_pos c1]
        have c1' := (l_ge _ _).mp c1
        rw [e60, e1] at c1'
        refine ⟨f, fin f rfl, fun p q hp hq => ?_, fun _ _ => rfl⟩
        rw [if_neg]
        rintro ⟨⟨rfl, rfl⟩, w⟩
        omega
      · rw [if_neg c1]
        have c1' := l_gn c1
        rw [e60, e1] at c1'
        refine ⟨_, fin _ ?_, fun p q hp hq => ?_, fun e he => up_out hiW hbi he⟩
        · rw [fo_upd hbi hiW, if_neg (fun w => bx_ne i w.2.symm)]
        · rw [fo_upd hbi hq]
          by_cases z : p = i ∧ q = bx i
          · rw [if_pos z, if_pos ⟨z, by rw [z.1, z.2]; exact c1'⟩, l_and2, z.1, z.2]
            rfl
          · rw [if_neg z, if_neg (fun w => z w.1)]
    obtain ⟨f1, ⟨fa1, s1, s2⟩, s3, s4⟩ := step
    have dia : ∀ k, k < W → fo b W f1 k k = fo b W f k k := fun k hk => by
      rw [s3 k k hk hk, if_neg]
      rintro ⟨⟨rfl, w⟩, -⟩
      exact bx_ne k w.symm
    rcases s2 with ⟨rfl, s2⟩ | ⟨rfl, s2⟩
    · obtain ⟨f', fa', i1, i2, i3⟩ := c_t2 (call := call) hT hW hWc hne hl hm d (i + 1) t f1 (by omega) (by omega)
      refine ⟨f', fa', s1.trans i1, ?_, fun e he => (i3 e he).trans (s4 e he)⟩
      rcases i2 with ⟨a1, a2, a3⟩ | ⟨a1, k, a2, a3⟩
      · refine Or.inl ⟨a1, fun k h1 h2 => ?_, fun p q hp hq => ?_⟩
        · by_cases z : k = i
          · rw [z]; exact s2
          · have := a2 k (by omega) h2
            rw [dia k h2] at this
            exact this
        · rw [a3 p q hp hq, s3 p q hp hq]
          by_cases z : p = i
          · subst z
            rw [if_neg (by omega)]
            by_cases y : q = bx p ∧ fo b W f p q < 1152921504606846976
            · rw [if_pos ⟨⟨rfl, y.1⟩, y.2⟩, if_pos ⟨⟨Nat.le_refl _, y.1⟩, y.2⟩]
            · rw [if_neg (fun w => y ⟨w.1.2, w.2⟩), if_neg (fun w => y ⟨w.1.2, w.2⟩)]
          · rw [if_neg (show ¬ ((p = i ∧ q = bx i) ∧ fo b W f p q < 1152921504606846976) from fun w => z w.1.1)]
            by_cases y : i + 1 ≤ p ∧ q = bx p
            · by_cases x : fo b W f p q < 1152921504606846976
              · rw [if_pos ⟨y, x⟩, if_pos ⟨⟨by omega, y.2⟩, x⟩]
              · rw [if_neg (fun w => x w.2), if_neg (fun w => x w.2)]
            · rw [if_neg (fun w => y w.1), if_neg (fun w => y ⟨by have := w.1.1; omega, w.1.2⟩)]
      · exact Or.inr ⟨a1, k, a2, by rw [← dia k a2]; exact a3⟩
    · obtain ⟨t, rfl⟩ : ∃ t', t = t' + 1 := ⟨t - 1, by omega⟩
      refine ⟨f1, 1, ?_, Or.inr ⟨rfl, i, hiW, s2⟩, s4⟩
      rw [s1, ol_X6_tighten_2, gOc_f1, ovi_i, obn_at]
      by_cases z : nI W ≤ nI (i + 1)
      · rw [if_pos z]; rfl
      · rw [if_neg z, gOc_f4, ovi_i, obn_at, if_neg (by decide)]; rfl
/-- tighten() where nothing is left -/
theorem c_t98f {call : oCl} {f : Nat → Int64} {i : Int32} {t : Nat} : ol_X6_tighten_98 T call κ (t + 1) (some o) i (gOc σ o ca len W b cl 1 f) = some (none, gOc σ o ca len W b cl 1 f) := by
  rw [ol_X6_tighten_98, gOc_f1, ovi_i, obn_at]
  by_cases z : nI W ≤ i
  · rw [if_pos z]
  · rw [if_neg z, gOc_f4, ovi_i, obn_at, if_neg (by decide)]
theorem c_tight1 {f : Nat → Int64} (hT : 200 ≤ T) : oF κ T (n + 1) 43 [va_rf (some o)] (gOc σ o ca len W b cl 1 f) = some (none, gOc σ o ca len W b cl 1 f) := by
  obtain ⟨T, rfl⟩ : ∃ t', T = t' + 1 := ⟨T - 1, by omega⟩
  rw [oE_X6_tighten]
  unfold ob_X6_tighten
  rw [ol_X6_tighten_2, gOc_f1, ovi_i, obn_at]
  unfold oj_X6_tighten_96
  by_cases z : nI W ≤ 0
  · rw [if_pos z]; exact c_t98f
  · rw [if_neg z, gOc_f4, ovi_i, obn_at, if_neg (by decide)]; exact c_t98f
/-- **tighten()** of a table of shortest ways: all that follows -/
theorem c_tight {f : Nat → Int64} {A C : Nat → Nat → Int → Prop} (hT : 200 ≤ T) (hW : W ≤ 160) (hWc : W = 2 * c) (hne : ca ≠ o) (hl : len < 2 ^ 31) (hm : b + W * W ≤ len) (hb : fN 288230376151711744 W (fo b W f)) (hd : ∀ i, i < W → fo b W f i i ≤ 0) (hA : ∀ i j e, tbA 1152921504606846976 W (fo b W f) i j e ↔ A i j e) (hD : ∀ p q e, A p q e → xDv bx C p q e) (hG : (∀ i, i < W → 0 ≤ fo b W f i i) → xTri A ∧ xCoh bx A ∧ ∀ p q e, C p q e → A p q e) : ∃ f' fa', oF κ T (n + 1) 43 [va_rf (some o)] (gOc σ o ca len W b cl 0 f) = some (none, gOc σ o ca len W b cl fa' f') ∧ (fa' = 0 ∨ fa' = 1) ∧ (fa' = 1 → ¬ xOk C) ∧ (fa' = 0 → xOk C ∧ (∀ i, i < W → fo b W f' i i ≤ 0) ∧ fN 576460752303423488 W (fo b W f') ∧ ∀ i j e, tbA 1152921504606846976 W (fo b W f') i j e ↔ xDv bx C i j e) ∧ ∀ e, (e < b ∨ b + W * W ≤ e) → f' e = f e := by
  have hN : (0 : Int) < 1152921504606846976 := by decide
  have blt : ∀ {x}, x < W → bx x < W := fun {x} hx => by rw [hWc] at hx ⊢; exact bx_lt hx
  rw [oE_X6_tighten]
  unfold ob_X6_tighten
  obtain ⟨f1, fa1, s1, s2, s3⟩ := c_t2 (κ := κ) (T := T) (call := oF κ T n) (σ := σ) (cl := cl) hT hW hWc hne hl hm W 0 T f (Nat.zero_add _) (by omega)
  have s1 : ol_X6_tighten_2 T (oF κ T n) κ T (some o) 0 (gOc σ o ca len W b cl 0 f) = _ := s1
  rw [s1]
  rcases s2 with ⟨rfl, a1, t2⟩ | ⟨rfl, k, k1, k2⟩
  · have a1 : ∀ i, i < W → 0 ≤ fo b W f i i := fun i hi => a1 i (Nat.zero_le _) hi
    obtain ⟨ht, hch, hC⟩ := hG a1
    have eA : tbA 1152921504606846976 W (fo b W f) = A := funext fun i => funext fun j => funext fun e => propext (hA i j e)
    have t2 : ∀ p q, p < W → q < W → fo b W f1 p q = if q = bx p ∧ fo b W f p q < 1152921504606846976 then 2 * (fo b W f p q / 2) else fo b W f p q := fun p q hp hq => by
      rw [t2 p q hp hq]
      by_cases y : q = bx p ∧ fo b W f p q < 1152921504606846976
      · rw [if_pos y, if_pos ⟨⟨Nat.zero_le _, y.1⟩, y.2⟩]
      · rw [if_neg y, if_neg (fun w => y ⟨w.1.2, w.2⟩)]
    have hb1 : fN 288230376151711746 W (fo b W f1) := fun i j hi hj => by
      rw [t2 i j hi hj]
      rcases hb i j hi hj with h | h
      · rw [if_neg (by omega)]; exact Or.inl h
      · split <;> omega
    have hb1' : fN 576460752303423488 W (fo b W f1) := fun i j hi hj => by
      have := hb1 i j hi hj
      omega
    have d1 : ∀ i, i < W → fo b W f1 i i ≤ 0 := fun i hi => by
      rw [t2 i i hi hi, if_neg (fun w => bx_ne i w.1.symm)]
      exact hd i hi
    have e1 : tbA 1152921504606846976 W (fo b W f1) = x1 bx A := by
      rw [← eA]
      exact funext fun i => funext fun j => funext fun e => propext (tbA.x1 hN hWc hd t2 i j e)
    have hu : xUp A := by rw [← eA]; exact tbA.up
    have hz : ∀ p, A p p 0 := fun p => by rw [← eA]; exact tbA.z p
    have own : ∀ i, i < W → ∀ e, x1 bx A i (bx i) e ↔ fo b W f1 i (bx i) < 1152921504606846976 ∧ fo b W f1 i (bx i) ≤ e := fun i hi e => by
      rw [← e1]
      exact tbA.at hN d1 hi (blt hi)
    have own' : ∀ i, i < W → ∀ e, x1 bx A (bx i) i e ↔ fo b W f1 (bx i) i < 1152921504606846976 ∧ fo b W f1 (bx i) i ≤ e := fun i hi e => by
      rw [← e1]
      exact tbA.at hN d1 (blt hi) hi
    obtain ⟨f', fa', r1, r2, r3, r4, r5⟩ := c_t98 (κ := κ) (T := T) (σ := σ) (cl := cl) (call := oF κ T n) hT hW hWc hne hl hm W 0 T f1 (Nat.zero_add _) (by omega) hb1'
    refine ⟨f', fa', r1, r2, fun e hO => ?_, fun e => ?_, fun e he => (r5 e he).trans (s3 e he)⟩
    · obtain ⟨k, -, k1, y1, y2, y3⟩ := r3 e
      obtain ⟨e, q1, q2⟩ := x1_bad (br := bx) hu hD ((own k k1 _).mpr ⟨y1, Int.le_refl _⟩) ((own' k k1 _).mpr ⟨y2, Int.le_refl _⟩) y3
      have := hO k e q2
      omega
    · obtain ⟨nb, hg⟩ := r4 e
      have ho : ∀ i a b, x1 bx A i (bx i) a → x1 bx A (bx i) i b → 0 ≤ a + b := fun i a b' p1 p2 => by
        by_cases hi : i < W
        · have q1 := (own i hi a).mp p1
          have q2 := (own' i hi b').mp p2
          have : ¬ fo b W f1 i (bx i) + fo b W f1 (bx i) i < 0 := fun w => nb i (Nat.zero_le _) hi ⟨q1.1, q2.1, w⟩
          omega
        · rw [← e1] at p1
          rcases p1 with ⟨w, -⟩ | ⟨w, -⟩
          · exact absurd w hi
          · exact absurd w.symm (bx_ne i)
      have dv := x2_dv (br := bx) bx_bx hu hz ht hch ho hC hD
      have ev : ∀ i, i < W → fo b W f1 i (bx i) < 1152921504606846976 → fo b W f1 i (bx i) % 2 = 0 := fun i hi w => by
        rw [t2 i _ hi (blt hi)] at w ⊢
        by_cases y : bx i = bx i ∧ fo b W f i (bx i) < 1152921504606846976
        · rw [if_pos y]; omega
        · rw [if_neg y] at w ⊢
          exact absurd ⟨rfl, w⟩ y
      have ev' : ∀ i, i < W → fo b W f1 (bx i) i < 1152921504606846976 → fo b W f1 (bx i) i % 2 = 0 := fun i hi w => by
        have := ev (bx i) (blt hi)
        rw [bx_bx] at this
        exact this w
      have hg : ∀ i j, i < W → j < W → fo b W f' i j = if fo b W f1 i (bx i) < 1152921504606846976 ∧ fo b W f1 (bx j) j < 1152921504606846976 ∧ fo b W f1 i (bx i) / 2 + fo b W f1 (bx j) j / 2 < fo b W f1 i j then fo b W f1 i (bx i) / 2 + fo b W f1 (bx j) j / 2 else fo b W f1 i j := fun i j hi hj => by
        rw [hg i j hi hj, if_pos (Nat.zero_le _)]
        unfold fHw
        by_cases y : fo b W f1 i (bx i) < 1152921504606846976 ∧ fo b W f1 (bx j) j < 1152921504606846976
        · have v1 := ev i hi y.1
          have v2 := ev' j hj y.2
          have e : (fo b W f1 i (bx i) + fo b W f1 (bx j) j).tdiv 2 = fo b W f1 i (bx i) / 2 + fo b W f1 (bx j) j / 2 := by
            rw [t_hf]; split <;> omega
          rw [e]
        · rw [if_neg (fun w => y ⟨w.1, w.2.1⟩), if_neg (fun w => y ⟨w.1, w.2.1⟩)]
      refine ⟨fun i e w => ?_, fun i hi => ?_, fun i j hi hj => ?_, fun i j e => ?_⟩
      · have w := (dv i i e).mpr w
        rcases w with w | ⟨a, b', w1, w2, w3⟩
        · rw [← e1] at w
          rcases w with ⟨p1, p2, p3, p4⟩ | ⟨p1, p2⟩
          · rw [t2 i i p1 p1, if_neg (fun w => bx_ne i w.1.symm)] at p4
            have := a1 i p1
            omega
          · exact p2
        · have ha := x1.even hu w1
          have w2' : x1 bx A (bx i) (bx (bx i)) b' := by rw [bx_bx]; exact w2
          have hb' := x1.even hu w2'
          rw [bx_bx] at hb'
          have := ho i _ _ ha hb'
          omega
      · rw [hg i i hi hi]
        have := d1 i hi
        split <;> omega
      · rw [hg i j hi hj]
        have b0 := hb1 i j hi hj
        have b1 := hb1 i _ hi (blt hi)
        have b2 := hb1 _ j (blt hj) hj
        split <;> omega
      · rw [tbA.x2 hN hWc d1 hg i j e, e1]
        exact dv i j e
  · obtain ⟨T, rfl⟩ : ∃ t', T = t' + 1 := ⟨T - 1, by omega⟩
    refine ⟨f1, 1, c_t98f, Or.inr rfl, fun _ hO => ?_, fun e => absurd e (by decide), s3⟩
    have := hO k _ (hD _ _ _ ((hA k k _).mp (Or.inl ⟨k1, k1, by omega, Int.le_refl _⟩)))
    omega
end TG2
