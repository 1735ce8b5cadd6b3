/-! type(): tell(), the class, as a whole -/
theorem tFv_16 : tTx (fun j => zch (oktx 16) j &&& 255) (oktx 16).toList.length 0 = [45, 62] := by decide +kernel
theorem yK_f : ∀ {y : tY}, yK y = 1 → ∃ a b, y = .inner 0 () () a b
  | .leaf, h => by cases h
  | .inner j _ _ a b, h => by
    have h : j + 1 = 1 := h
    have c : j = 0 := by omega
    exact ⟨a, b, by rw [c]⟩
section TSH
variable {κ : oKv} {ks : Nat → Nat} {wd : Nat → List Int32} {bk : gN → Nat} {sy : gTy → List gFc} {T n x nl sz k w da da' d d' cap cap' cl cl' : Nat} {lo : Nat × (Nat → Prop)} {na : gN → Nat} {Nm : gN → Prop} {σ u : oSt} {s : tPs} {G : List (Nat × kTe)} {kd : Int32} {A : gTy}
theorem kPk.k1 (h : kPk lo σ k w G kd) : ovr (ofd σ (some k) 4 1) = some (some w) ∧ ovi (ofd σ (some k) 4 0) = some kd ∧ oob σ (some k) 4 = some k := by
  obtain ⟨⟨fs, k1, k2, k3, -⟩, fs', ins, k6, k7, k8⟩ := h
  rw [k1] at k6
  injection k6 with k6; injection k6 with k6; injection k6 with _ k6
  subst k6
  exact ⟨by rw [ofd_at k1, k3]; rfl, by rw [ofd_at k1, k8]; rfl, oob_at k1⟩
/-- what holds while a type is printed -/
def tSt (κ : oKv) (ks : Nat → Nat) (wd : Nat → List Int32) (bk : gN → Nat) (Nm : gN → Prop) (T sz x nl : Nat) (na : gN → Nat) (s : tPs) (cap da d cl : Nat) (σ : oSt) : Prop := cLw κ ks T sz x da σ ∧ cTp κ x nl na s cap da d cl σ ∧ tNs κ wd bk na x nl da d Nm σ ∧ s.2.Nodup ∧ (∀ b, b ∈ s.2 → Nm b)
theorem tSt.on {s' : tPs} (h : tSt κ ks wd bk Nm T sz x nl na s cap da d cl σ) (k : tFww x nl da d σ da' d' u) (c : cTp κ x nl na s' cap' da' d' cl' u) (h1 : s'.2.Nodup) (h2 : ∀ b, b ∈ s'.2 → Nm b) : tSt κ ks wd bk Nm T sz x nl na s' cap' da' d' cl' u := ⟨h.1.ow h.2.1 k, c, tNs.on h.2.1 k h.2.2.1, h1, h2⟩
/-- a letter -/
theorem q_put {c : Int32} (h : tSt κ ks wd bk Nm T sz x nl na s cap da d cl σ) (hl : s.1.length < 900000000) : ∃ u cap' da', oF κ T (n + 2) 181 [va_rf (some x), .int c] σ = some (none, u) ∧ tSt κ ks wd bk Nm T sz x nl na (s.1 ++ [c], s.2) cap' da' d cl u ∧ tFww x nl da d σ da' d u ∧ cPyw σ cap cl u cap' cl 0 := by
  obtain ⟨u, cap', da', r1, r2, r3, r4⟩ := p_put (T := T) (n := n) (c := c) (Nat.lt_of_lt_of_le h.1.2.1 h.1.2.2.2.1) hl h.2.1
  exact ⟨u, cap', da', r1, h.on (h.2.1.fw r3) r2 h.2.2.2.1 h.2.2.2.2, h.2.1.fw r3, r4.up⟩
theorem q_arrow (h : tSt κ ks wd bk Nm T sz x nl na s cap da d cl σ) (hl : s.1.length < 870000000) : ∃ u cap' da', oF κ T (n + 5) 182 [va_rf (some x), va_rf (some (κ.1 16))] σ = some (none, u) ∧ tSt κ ks wd bk Nm T sz x nl na (s.1 ++ [45, 62], s.2) cap' da' d cl u ∧ tFww x nl da d σ da' d u ∧ cPyw σ cap cl u cap' cl 0 := by
  obtain ⟨u, cap', da', r1, r2, r3, r4⟩ := p_wrd (n := n) (i := 16) h.1 (by decide) hl h.2.1
  rw [tFv_16] at r2
  exact ⟨u, cap', da', r1, h.on (h.2.1.fw r3) r2 h.2.2.2.1 h.2.2.2.2, h.2.1.fw r3, r4.up⟩
theorem q_nm {a : gN} (hin : ∀ a b, Nm a → Nm b → na a = na b → a = b) (hNm : ∀ D : List gN, D.Nodup → (∀ b, b ∈ D → Nm b) → D.length ≤ 1500) (ha : Nm a) (h : tSt κ ks wd bk Nm T sz x nl na s cap da d cl σ) (hl : s.1.length < 850000000) : ∃ u cap' da' d' cl', oF κ T (n + 7) 184 [va_rf (some x), va_rf (some (na a))] σ = some (none, u) ∧ tSt κ ks wd bk Nm T sz x nl na (tNm wd a s) cap' da' d' cl' u ∧ tFww x nl da d σ da' d' u ∧ cPyw σ cap cl u cap' cl' 0 := by
  have h4 := hNm s.2 h.2.2.2.1 h.2.2.2.2
  obtain ⟨u, cap', da', d', cl', r1, r2, r3, r4⟩ := p_nm (wd := wd) (n := n) (a := a) h.1 h.2.1 (h.2.2.1 a ha).1 (fun b hb e => hin b a (h.2.2.2.2 b hb) ha e) hl (by omega)
  exact ⟨u, cap', da', d', cl', r1, h.on (h.2.1.fw r3) r2 (tNm_nd wd a s h.2.2.2.1) (fun b hb => by
    rcases (tNm_D wd a s).1 b hb with r | r
    · exact h.2.2.2.2 b r
    · rw [r]; exact ha), h.2.1.fw r3, r4.up⟩
theorem q_stp {tk i : Nat} {fw : List Value} {kd' : Int32} {R : oRs} (h : tSt κ ks wd bk Nm T sz x nl na s cap da d cl σ) (hk : kPk lo σ k w G kd) (hw : σ.1 w = some (.inr (4, fw))) (hi : fw[i]? = some (.ref tk)) (ht : kPk lo σ tk tk [] kd') (hR : (i = 3 ∧ R = oF κ T (n + 2) 5 [va_rf (some k)] σ) ∨ (i = 4 ∧ R = oF κ T (n + 2) 4 [va_rf (some k), va_rf none] σ)) : ∃ u k', R = some (some (va_rf (some k')), u) ∧ kPk lo u k' tk G kd' ∧ tSt κ ks wd bk Nm T sz x nl na s cap da d cl u ∧ tFww x nl da d σ da d u ∧ cPyw σ cap cl u cap cl 1 := by
  obtain ⟨u, k', r1, r2, r3, r4, r5⟩ := p_stp (Nat.lt_of_lt_of_le h.1.2.1 h.1.2.2.2.1) h.2.1 hk hw hi ht hR
  exact ⟨u, k', r1, r2, h.on r4 r3 h.2.2.2.1 h.2.2.2.2, r4, r5⟩
theorem q_leaf (hT : 100100 ≤ T) (hin : ∀ a b, Nm a → Nm b → na a = na b → a = b) (hNm : ∀ D : List gN, D.Nodup → (∀ b, b ∈ D → Nm b) → D.length ≤ 1500) (hw : ∀ w, (wd w).length ≤ 3000) {y : tY} (hy : yK y ≠ 1) (h : tSt κ ks wd bk Nm T sz x nl na s cap da d cl σ) (hk : kPk lo σ k w G (cKd (yK y))) (hO : tOr na Nm sy lo σ G y A w) (hl : s.1.length < 767000000) : ∃ u cap' da' d' cl', oF κ T (n + 9) 187 [va_rf (some x), va_rf (some k)] σ = some (none, u) ∧ tSt κ ks wd bk Nm T sz x nl na (tTy wd bk sy y A s) cap' da' d' cl' u ∧ tFww x nl da d σ da' d' u ∧ cPyw σ cap cl u cap' cl' 0 := by
  obtain ⟨u, cap', da', d', cl', r1, r2, r3, r4⟩ := p_t187 (n := n) hT hin hw hy h.1 h.2.1 h.2.2.1 h.2.2.2.2 (hNm s.2 h.2.2.2.1 h.2.2.2.2) hk hO hl
  obtain ⟨e1, e2, -⟩ := tTy_D (bk := bk) hw y A s (tOr.ok y A w hO) h.2.2.2.1 h.2.2.2.2
  exact ⟨u, cap', da', d', cl', r1, h.on r3 r2 e1 e2, r3, r4.up⟩
set_option maxHeartbeats 1000000 in
/-- **tell()'s loop** -/
theorem p_tl5 (hT : 100100 ≤ T) (hin : ∀ a b, Nm a → Nm b → na a = na b → a = b) (hNm : ∀ D : List gN, D.Nodup → (∀ b, b ∈ D → Nm b) → D.length ≤ 1500) (hw : ∀ w, (wd w).length ≤ 3000) : ∀ (m : Nat) (y : tY) (N Fu i dp : Nat) (A : gTy) (k w : Nat) (s : tPs) (cap da d cl : Nat) (σ : oSt), tSz y < m → 10 + tSz y ≤ N → tSz y < Fu → i + yLv y ≤ 61 → dp + yLv y ≤ 61 → s.1.length + 6000000 * tSz y < 767000000 → tSt κ ks wd bk Nm T sz x nl na s cap da d cl σ → kPk lo σ k w G (cKd (yK y)) → tOr na Nm sy lo σ G y A w → ∃ u cap' da' d' cl', ol_X12_tell_5 T (oF κ T N) κ Fu (some x) (nI dp) (some k) (nI i) σ = some (none, u) ∧ tSt κ ks wd bk Nm T sz x nl na (tTy wd bk sy y A s) cap' da' d' cl' u ∧ tFww x nl da d σ da' d' u ∧ cPyw σ cap cl u cap' cl' (2 * tSz y) := by
  intro m
  induction m with
  | zero => intro y N Fu i dp A k w s cap da d cl σ hm; omega
  | succ m IH =>
    intro y N Fu i dp A k w s cap da d cl σ hm hN hF hi hdp hl h hk hO
    obtain ⟨Fu, rfl⟩ : ∃ u, Fu = u + 1 := ⟨Fu - 1, by omega⟩
    obtain ⟨N, rfl⟩ : ∃ u, N = u + 10 := ⟨N - 10, by omega⟩
    have pos1 := yLv_pos y
    have i60 : ¬ (60 : Int32) < nI i := fun z => by
      rw [Int32.lt_iff_toInt_lt, nI_toInt (by omega)] at z
      have z : (60 : Int) < (i : Int) := z
      omega
    by_cases hy : yK y = 1
    · obtain ⟨a, b, rfl⟩ := yK_f hy
      have c : (0 : Nat) = 0 := rfl
      have eY : tSz (.inner 0 () () a b) = tSz a + tSz b + 1 := rfl
      · have hm : tSz a + tSz b + 1 < m + 1 := hm
        have hN : 10 + (tSz a + tSz b + 1) ≤ N + 10 := hN
        have hF : tSz a + tSz b + 1 < Fu + 1 := hF
        have hi : i + (yLv a + yLv b) ≤ 61 := hi
        have hdp : dp + (yLv a + yLv b) ≤ 61 := hdp
        have pa1 := yLv_pos a
        have pb1 := yLv_pos b
        have hl : s.1.length + 6000000 * (tSz a + tSz b + 1) < 767000000 := hl
        obtain ⟨hO0, hO'⟩ := id hO
        rw [if_pos c] at hO'
        obtain ⟨fw, wl, wr, m1, ⟨m2, m3, m4, m5⟩, m6, m7⟩ := hO'
        have k206 : cKd (yK (.inner 0 () () a b)) = 206 := rfl
        -- taken()
        obtain ⟨u1, k1, a1, a2, a3, a4, a5⟩ := q_stp (n := N + 8) (i := 3) h hk m1 m4 (tOr.kp a m6) (Or.inl ⟨rfl, rfl⟩)
        have hk1 := hk.pw h.2.1 a4
        obtain ⟨-, hO1⟩ := tOr.pw h.2.1 a4 _ _ _ hO
        rw [if_pos c] at hO1
        obtain ⟨fw1, wl1, wr1, p1, ⟨p2, p3, p4, p5⟩, p6, p7⟩ := hO1
        have ewl : wl1 = wl := by
          obtain ⟨f', e1, -, e3⟩ := a4.2.2.2.2.2 w fw m1
          rw [e1] at p1
          injection p1 with p1; injection p1 with p1; injection p1 with _ p1
          have := (e3 3 (by decide)).trans m4
          rw [p1, p4] at this
          injection this with this; injection this
        subst ewl
        have f2 : ovr (ofd u1 (some w) 4 2) = some (some (na (gPn A))) := by rw [ofd_at p1, p2]; rfl
        -- its NAME
        obtain ⟨u2, cap2, da2, d2, cl2, b1, b2, b3, b4⟩ := q_nm (n := N + 3) (a := gPn A) hin hNm p3 a3 (by omega)
        have ln2 := tNm_L wd hw (gPn A) s
        have hs2 : tNm wd (gPn A) s = tNm wd (gPn A) s := rfl
        generalize hs1 : tNm wd (gPn A) s = s1 at b2 ln2
        obtain ⟨u3, cap3, da3, c1, c2, c3, c4⟩ := q_put (n := N + 8) (c := 58) b2 (by omega)
        have F13 : tFww x nl da d u1 da3 d2 u3 := b3.tr c3
        have kk3 := a2.pw a3.2.1 F13
        have hO3 := tOr.pw a3.2.1 F13 a _ _ p6
        have P13 : cPyw σ cap cl u3 cap3 cl2 1 := (a5.tr (b4.tr c4)).le (by omega)
        have l3 : (s1.1 ++ [(58 : Int32)]).length = s1.1.length + 1 := by rw [List.length_append]; rfl
        have e3' : ((s1.1 ++ [(58 : Int32)], s1.2) : tPs).1.length = s1.1.length + 1 := l3
        have l4 : ((s1.1 ++ [(58 : Int32)]) ++ [40]).length = s1.1.length + 2 := by rw [List.length_append, l3]; rfl
        have e4' : (((s1.1 ++ [(58 : Int32)]) ++ [40], s1.2) : tPs).1.length = s1.1.length + 2 := l4
        -- what is taken
        have MID : ∃ u6 cap6 da6 d6 cl6 s3, (s3 = (if yK a = 1 then ((tTy wd bk sy a (gTk A) ((s1.1 ++ [58]) ++ [40], s1.2)).1 ++ [41], (tTy wd bk sy a (gTk A) ((s1.1 ++ [58]) ++ [40], s1.2)).2) else tTy wd bk sy a (gTk A) (s1.1 ++ [58], s1.2))) ∧ s3.1.length ≤ s1.1.length + 3 + (6000000 * tSz a + 3000000) ∧ tSt κ ks wd bk Nm T sz x nl na s3 cap6 da6 d6 cl6 u6 ∧ tFww x nl da3 d2 u3 da6 d6 u6 ∧ cPyw u3 cap3 cl2 u6 cap6 cl6 (2 * tSz a) ∧ ∀ X : Option Nat → Int32 → Option Nat → Int32 → oSt → oRs, (if cKd (yK a) = 206 then (if (60 : Int32) < nI dp then oj_X12_tell_90 T (oF κ T (N + 10)) κ X (some x) (nI dp) (some k) (nI i) (some k1) u3 else obn (oob u3 (some x) 14) fun _ => ocv (oF κ T (N + 10) 181 [va_rf (some x), .int 40] u3) fun s31 => obn (oob s31 (some x) 14) fun _ => ocv (oF κ T (N + 10) 188 [va_rf (some x), va_rf (some k1), .int (nI dp + 1)] s31) fun s36 => obn (oob s36 (some x) 14) fun _ => ocv (oF κ T (N + 10) 181 [va_rf (some x), .int 41] s36) fun s41 => oj_X12_tell_96 T (oF κ T (N + 10)) κ X (some x) (nI dp) (some k) (nI i) s41) else oj_X12_tell_90 T (oF κ T (N + 10)) κ X (some x) (nI dp) (some k) (nI i) (some k1) u3) = oj_X12_tell_96 T (oF κ T (N + 10)) κ X (some x) (nI dp) (some k) (nI i) u6 := by
          obtain ⟨-, -, tD⟩ := tTy_D (bk := bk) (wd := wd) hw a (gTk A) (s1.1 ++ [58], s1.2) (tOr.ok a _ _ hO3) c2.2.2.2.1 c2.2.2.2.2
          obtain ⟨-, -, tD2⟩ := tTy_D (bk := bk) (wd := wd) hw a (gTk A) ((s1.1 ++ [58]) ++ [40], s1.2) (tOr.ok a _ _ hO3) c2.2.2.2.1 c2.2.2.2.2
          by_cases ca : yK a = 1
          · obtain ⟨u4, cap4, da4, g1, g2, g3, g4⟩ := q_put (n := N + 8) (c := 40) c2 (by omega)
            obtain ⟨u5, cap5, da5, d5, cl5, y1, y2, y3, y4⟩ := IH a (N + 9) T 0 (dp + 1) (gTk A) k1 wl1 ((s1.1 ++ [58]) ++ [40], s1.2) cap4 da4 d2 cl2 u4 (by omega) (by omega) (by omega) (by omega) (by omega) (by omega) g2 (kk3.pw c2.2.1 g3) (tOr.pw c2.2.1 g3 a _ _ hO3)
            have y2 : tSt κ ks wd bk Nm T sz x nl na (tTy wd bk sy a (gTk A) ((s1.1 ++ [58]) ++ [40], s1.2)) cap5 da5 d5 cl5 u5 := y2
            obtain ⟨u6, cap6, da6, z1, z2, z3, z4⟩ := q_put (n := N + 8) (c := 41) y2 (by omega)
            refine ⟨u6, cap6, da6, d5, cl5, ((tTy wd bk sy a (gTk A) ((s1.1 ++ [58]) ++ [40], s1.2)).1 ++ [41], (tTy wd bk sy a (gTk A) ((s1.1 ++ [58]) ++ [40], s1.2)).2), by rw [if_pos ca], ?_, z2, g3.tr (y3.tr z3), (g4.tr (y4.tr z4)).le (by omega), fun X => ?_⟩
            · have l5 : ((tTy wd bk sy a (gTk A) ((s1.1 ++ [58]) ++ [40], s1.2)).1 ++ [(41 : Int32)]).length = (tTy wd bk sy a (gTk A) ((s1.1 ++ [58]) ++ [40], s1.2)).1.length + 1 := by rw [List.length_append]; rfl
              have e5' : (((tTy wd bk sy a (gTk A) ((s1.1 ++ [58]) ++ [40], s1.2)).1 ++ [(41 : Int32)], (tTy wd bk sy a (gTk A) ((s1.1 ++ [58]) ++ [40], s1.2)).2) : tPs).1.length = (tTy wd bk sy a (gTk A) ((s1.1 ++ [58]) ++ [40], s1.2)).1.length + 1 := l5
              omega
            · have e188 : oF κ T (N + 10) 188 [va_rf (some x), va_rf (some k1), .int (nI (dp + 1))] u4 = some (none, u5) := by
                rw [oE_X12_tell]
                exact y1
              rw [if_pos (cKd_k1.mpr ca), if_neg (fun z => by
                rw [Int32.lt_iff_toInt_lt, nI_toInt (by omega)] at z
                have z : (60 : Int) < (dp : Int) := z
                omega), c2.2.1.oo, obn_at, g1, ocv_at, g2.2.1.oo, obn_at, nI_p1, e188, ocv_at, y2.2.1.oo, obn_at, z1, ocv_at]
          · obtain ⟨u5, cap5, da5, d5, cl5, y1, y2, y3, y4⟩ := q_leaf (n := N + 1) (A := gTk A) hT hin hNm hw ca c2 kk3 hO3 (by omega)
            refine ⟨u5, cap5, da5, d5, cl5, _, by rw [if_neg ca], Nat.le_trans tD (Nat.add_le_add_right (by omega) _), y2, y3, y4.le (by omega), fun X => ?_⟩
            rw [if_neg (fun z => ca (cKd_k1.mp z))]
            unfold oj_X12_tell_90
            rw [c2.2.1.oo, obn_at, y1, ocv_at]
        obtain ⟨u6, cap6, da6, d6, cl6, s3, e3, l6, t6, F36, P36, go⟩ := MID
        have F06 : tFww x nl da d σ da6 d6 u6 := a4.tr (F13.tr F36)
        obtain ⟨u7, cap7, da7, r1, r2, r3, r4⟩ := q_arrow (n := N + 5) t6 (by omega)
        have F07 := F06.tr r3
        have l7 : (s3.1 ++ [(45 : Int32), 62]).length = s3.1.length + 2 := by rw [List.length_append]; rfl
        have e7' : ((s3.1 ++ [(45 : Int32), 62], s3.2) : tPs).1.length = s3.1.length + 2 := l7
        have hk7 := hk.pw h.2.1 F07
        obtain ⟨-, hO7⟩ := tOr.pw h.2.1 F07 _ _ _ hO
        rw [if_pos c] at hO7
        obtain ⟨fw7, wl7, wr7, q1, ⟨q2, q3, q4, q5⟩, q6, q7⟩ := hO7
        obtain ⟨u8, k8, s1', s2', s3', s4', s5'⟩ := q_stp (n := N + 8) (i := 4) r2 hk7 q1 q5 (tOr.kp b q7) (Or.inr ⟨rfl, rfl⟩)
        obtain ⟨u9, cap9, da9, d9, cl9, v1, v2, v3, v4⟩ := IH b (N + 10) Fu (i + 1) dp (gAn A) k8 wr7 _ cap7 da7 d6 cl6 u8 (by omega) (by omega) (by omega) (by omega) (by omega) (by omega) s3' s2' (tOr.pw r2.2.1 s4' b _ _ q7)
        refine ⟨u9, cap9, da9, d9, cl9, ?_, ?_, F07.tr (s4'.tr v3), ((P13.tr P36).tr (r4.tr (s5'.tr v4))).le (by omega)⟩
        · rw [ol_X12_tell_5, if_neg i60, if_neg (fun z => by cases z), hk.k1.2.1, obn_at, if_pos k206, hk.k1.2.2, obn_at, a1, orn_at, hk1.k1.1, obn_at, f2, obn_at, a3.2.1.oo, obn_at, b1, ocv_at, b2.2.1.oo, obn_at, c1, ocv_at, kk3.k1.2.1, obn_at]
          refine (go _).trans ?_
          unfold oj_X12_tell_96
          rw [t6.2.1.oo, obn_at, r1, ocv_at, hk7.k1.2.2, obn_at, s1', orn_at, nI_p1]
          exact v1
        · have ee : tTy wd bk sy (.inner 0 () () a b) A s = tTy wd bk sy b (gAn A) (s3.1 ++ [45, 62], s3.2) := by
            rw [e3]
            show (if (0 : Nat) = 0 then _ else _) = _
            rw [if_pos c, hs1]
          rw [ee]
          exact v2
    · obtain ⟨u, cap', da', d', cl', r1, r2, r3, r4⟩ := q_leaf (n := N + 1) hT hin hNm hw hy h hk hO (by omega)
      rw [ol_X12_tell_5, if_neg i60, if_neg (fun z => by cases z), hk.k1.2.1, obn_at, if_neg (fun z => hy (cKd_k1.mp z))]
      unfold oj_X12_tell_114
      rw [if_neg (fun z => by cases z), h.2.1.oo, obn_at, r1, ocv_at]
      exact ⟨u, cap', da', d', cl', rfl, r2, r3, r4.le (by omega)⟩
end TSH
