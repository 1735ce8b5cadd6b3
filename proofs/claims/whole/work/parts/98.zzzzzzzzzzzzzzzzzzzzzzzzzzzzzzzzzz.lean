/-! run() of a PROGRAM, on both sides -/
/-- where what compile() made ends -/
def pgHi (q : pgQt) : Nat := match q with
  | (_, _, _, _, _, _, _, _, _, _, _, _, _, _, _, V, _, _, _, _, _, _, _, _, _, _, _, _, _, _, _, _, _, _, _, _) => V.2.1 + 7
/-- the Machine's heap (hl long) and its rows of what waits -/
def hMq (x lo hi hl : Nat) (σ : oSt) : Prop := ∃ fs ma fm va ha hp wn ws wa WN WS WA, (σ.1 x = some (.inr (14, fs)) ∧ fs[12]? = some (.ref ma)) ∧ (σ.1 ma = some (.inr (5, fm)) ∧ fm.length = 18 ∧ fm[2]? = some (.ref va)) ∧ (fm[4]? = some (.ref ha) ∧ σ.1 ha = some (.inl (.long, hl, .inr (.inl hp))) ∧ (64 ≤ hl ∧ hl < 2 ^ 30) ∧ ha ≠ va ∧ (ha < lo ∨ hi ≤ ha)) ∧ hWt ma fm wn ws wa WN WS WA σ ∧ (wn < lo ∧ ws < lo ∧ wa < lo)
/-- cells that run() leaves -/
def hKr (x : Nat) (σ u : oSt) : Prop := ∃ fs ma fm ha wn ws wa ha', (σ.1 x = some (.inr (14, fs)) ∧ fs[12]? = some (.ref ma)) ∧ (σ.1 ma = some (.inr (5, fm)) ∧ fm[4]? = some (.ref ha) ∧ (fm[6]? = some (.ref wn) ∧ fm[7]? = some (.ref ws) ∧ fm[8]? = some (.ref wa))) ∧ hKe (hW wn ws wa) ma ha σ u ha' ∧ ∃ gm, u.1 ma = some (.inr (5, gm)) ∧ gm[4]? = some (.ref ha') ∧ ∀ k, k = 0 ∨ k = 1 ∨ k = 2 ∨ k = 3 ∨ k = 6 ∨ k = 7 ∨ k = 8 → gm[k]? = fm[k]?
section LRN
variable {κ : oKv} {ks : Nat → Nat} {qs : List Nat} {T n n' x y sz hl : Nat} {a : Nat → Int32} {σ : oSt} {τ : zSt}
theorem pgR.xf {len cnt : Nat} {kk pp ee f : Nat → Int32} {xs : List tQ} {is : List (Nat × Nat)} {e : tT} {α : Nat → tY} {N S P A x0 : Nat} {g' : gG} {ρ' : Nat → tY} {v : zSt} (h : pgR T len cnt kk pp ee f xs is e α N S P A x0 g' ρ' τ) (hv : xFm τ v) : pgR T len cnt kk pp ee f xs is e α N S P A x0 g' ρ' v := by
  obtain ⟨d1, d2, ⟨⟨k, ⟨a1, a2⟩, ⟨a3, a4⟩, a5⟩, a6⟩, d4, d5⟩ := h
  obtain ⟨r, s, -, -⟩ := hv
  have nEk : nE v e 0 x0 = nE τ e 0 x0 := nE_keep (V := τ) (fun k hk => r k (by omega)) e 0 x0
  refine ⟨(s 66 (by decide)).trans d1, d2.keep (fun k hk => by rcases hk with rfl | rfl | rfl | rfl | rfl <;> exact s _ (by decide)) (fun k hk _ _ _ => r k (by omega)), ⟨⟨k, ⟨(s 59 (by decide)).trans a1, a2⟩, ⟨(s 60 (by decide)).trans a3, a4⟩, ?_⟩, a6⟩, fun q hq ht => ?_, fun jj u' hj => ?_⟩
  · rw [r 34 (by decide), r 35 (by decide), r 36 (by decide), r 37 (by decide), r 38 (by decide)]; exact a5
  · rw [nEk] at hq
    obtain ⟨c, c1, c2⟩ := d4 q hq ht
    exact ⟨c, by rw [r 39 (by decide)]; exact c1, c2⟩
  · obtain ⟨c, c1, c2⟩ := d5 jj u' hj
    exact ⟨c, by rw [r 31 (by decide)]; exact c1, c2⟩
theorem xmB_i32 (w : Int32) : xmB w.toInt64 = true := by
  have h1 := Int32.toInt_lt w
  have h2 := Int32.le_toInt w
  rw [xmB_iff, Int32.toInt_toInt64]
  omega
set_option maxHeartbeats 2000000 in
/-- **run()** -/
theorem lr_run {q0 : pgQt} (h : pgB κ T sz x q0 σ τ) (hr : lRel x σ τ) (hR : oRm sz σ) (hκ : κ.2.2.1 < sz) (hT : 240010 ≤ T) (hM : hMq x (pgLo q0) (pgHi q0) hl σ) (h32 : ∀ i, i < 6 → ∃ w : Int32, τ.2.2.2 103 i = w.toInt64) : ∃ u v hl', lst (oF κ T (n + 1323)) (zF y qs ks T (n' + 1311)) x y a σ τ 9 = some (u, v) ∧ (pgB κ T sz x q0 u v ∧ lRel x u v ∧ oRm sz u ∧ hMq x (pgLo q0) (pgHi q0) hl' u) ∧ hCo σ hl u hl' ∧ xFm τ v ∧ (u = σ ∨ hKr x σ u) := by
  show ∃ u v hl', lcpI (oF κ T (n + 1323) 193 [.ref x, .int (a 1)] σ) (zF y qs ks T (n' + 1311) 138 [.ref y, .int (a 1)] τ) = some (u, v) ∧ _
  generalize a 1 = x1
  obtain ⟨len, cnt, j, kk, pp, ee, f, fc, xs, is, e, α, lo, p, B, V, D, at2, cd', am2, nm, e0, fb, fr, fz, fn, g, ρ, lv, N, S, P, A, x0, g', ρ'⟩ := q0
  obtain ⟨hp, hV, ⟨hB, hlo, hxl, ta, hta, htl⟩, hS, hX, hRf, ma, va, ra, fm, fv, gr, hMv, hG, ⟨b1, b2, b3, b4⟩, b5⟩ := id h
  obtain ⟨fs, ma', fm', va', ha, hp0, wn, ws, wa, WN, WS, WA, ⟨c1, c2⟩, ⟨c3, c4, c5⟩, ⟨c6, c7, c8, c9, c10⟩, Wt, c11, c12, c13⟩ := id hM
  have c10 : ha < lo ∨ V.2.1 + 7 ≤ ha := c10
  have c11 : wn < lo := c11
  have c12 : ws < lo := c12
  have c13 : wa < lo := c13
  obtain ⟨⟨gs, d1, d2⟩, ⟨d3, d4, d5, d6⟩, d7, d8, d9, d10⟩ := id hMv
  rw [c1] at d1
  injection d1 with d1; injection d1 with d1; injection d1 with _ d1
  subst d1
  rw [c2] at d2
  injection d2 with d2; injection d2 with d2
  subst d2
  rw [c3] at d3
  injection d3 with d3; injection d3 with d3; injection d3 with _ d3
  subst d3
  rw [c5] at d5
  injection d5 with d5; injection d5 with d5
  subst d5
  obtain ⟨fs2, fm2, ma2, x1', x2', x3', x4', x5', x6', x7', x8', x9'⟩ := id hX
  rw [c1] at x1'
  injection x1' with x1'; injection x1' with x1'; injection x1' with _ x1'
  subst x1'
  rw [c2] at x5'
  injection x5' with x5'; injection x5' with x5'
  subst x5'
  rw [c3] at x6'
  injection x6' with x6'; injection x6' with x6'; injection x6' with _ x6'
  subst x6'
  obtain ⟨hlow, hfr, hszl⟩ := id hR
  have lt : ∀ {q : Nat} {c : oC}, σ.1 q = some c → q < σ.2.1 := fun {q c} z => Nat.lt_of_not_le (fun w => by rw [hfr q w] at z; cases z)
  have hpV := hV.2.1
  -- both sides up to go()
  have C : oF κ T (n + 1323) 193 [.ref x, .int x1] σ = ob_X12_run T (oF κ T (n + 1322)) κ (some x) x1 σ := oE_X12_run κ T (n + 1322) (some x) x1 σ
  have Z : zF y qs ks T (n' + 1311) 138 [.ref y, .int x1] τ = b_run T (zF y qs ks T (n' + 1310)) y qs ks x1 τ := zE_run y qs ks T (n' + 1310) x1 τ
  have r2 : ovr (ofd σ (some x) 14 2) = some (some p) := by rw [ofd_at c1, x3']; rfl
  have r12 : ovr (ofd σ (some x) 14 12) = some (some ma') := by rw [ofd_at c1, c2]; rfl
  unfold ob_X12_run at C
  rw [r2, obn_at, if_neg (fun w => by cases w)] at C
  by_cases k0 : x1 < 0
  · have Z' := Z
    unfold b_run at Z'
    rw [if_neg (by rw [hRf.1]; decide), if_pos k0] at Z'
    rw [if_pos k0] at C
    exact ⟨σ, τ, hl, lcpI_ok C Z', ⟨h, hr, hR, hM⟩, hCo.rf _ _, xFm.rf τ, Or.inl rfl⟩
  by_cases k1 : ¬ x1 ≤ 20000
  · have Z' := Z
    unfold b_run at Z'
    rw [if_neg (by rw [hRf.1]; decide), if_neg k0, if_neg k1] at Z'
    rw [if_neg k0, if_neg k1] at C
    exact ⟨σ, τ, hl, lcpI_ok C Z', ⟨h, hr, hR, hM⟩, hCo.rf _ _, xFm.rf τ, Or.inl rfl⟩
  have k1 : x1 ≤ 20000 := Classical.not_not.mp k1
  obtain ⟨n0, rfl, hn0⟩ : ∃ n0, x1 = nI n0 ∧ n0 ≤ 20000 := by
    have q1 : 0 ≤ x1.toInt := by
      have := Int32.not_lt.mp k0
      rw [Int32.le_iff_toInt_le] at this
      exact this
    have q2 : x1.toInt ≤ 20000 := by
      rw [Int32.le_iff_toInt_le] at k1
      exact k1
    refine ⟨x1.toInt.toNat, ?_, by omega⟩
    rw [← Int32.toInt_inj, nI_toInt (by omega)]
    omega
  rw [if_neg k0, if_pos k1, r12, obn_at, oob_at c3, obn_at] at C
  -- what stands fast
  have hWlo : ∀ q, hW wn ws wa q → q < lo := fun q hq => by
    rcases hq with z | z | z <;> omega
  obtain ⟨PO, FL, FI, TT⟩ := pg_po (ma := ma') (ha0 := ha) (W := hW wn ws wa) (by omega) hp hRf.2.1 hV hB hlo hS hR hκ ⟨_, c3⟩ ⟨_, _, c7⟩ hWlo
  have w := tx_xE (by omega) hp hRf.2.1
  have hin : ∀ (i : Nat) (y : Nat × Nat), is[i]? = some y → (mEnd f pp ee is e).2.2.1 y.1 α = mB y.2 α := fun i y hy => congrFun (in_ty hp.2.2.2.2.2.1.1.2.2.2.2.2.1 hy) α
  have g01 := hp.2.2.2.2.2.1.1.1
  have h2 : ∀ (i : Nat) (y : Nat × Nat), is[i]? = some y → y.2 ≤ 2 := fun i y hy => (g01.2 y (List.mem_of_getElem? hy)).2
  have hk : ∀ (i : Nat) (y : Nat × Nat), is[i]? = some y → y.2 ≤ 2 ∧ yK ((fun u => (mEnd f pp ee is e).2.2.1 u α) y.1) = y.2 + 2 := fun i y hy => by
    refine ⟨h2 i y hy, ?_⟩
    show yK ((mEnd f pp ee is e).2.2.1 y.1 α) = _
    rw [hin i y hy]
    have := h2 i y hy
    rcases (show y.2 = 0 ∨ y.2 = 1 ∨ y.2 = 2 by omega) with q | q | q <;> (rw [q]; rfl)
  have is6 : ∀ i y, is[i]? = some y → i < 6 := fun i y hy => by have h1 := xget_lt hy; have h2 := g01.1; omega
  have hg : ∀ i y, is[i]? = some y → y.2 = 2 → (0 ≤ (τ.2.2.2 103 i).toInt ∧ (τ.2.2.2 103 i).toInt ≤ 1000) ∧ ∀ k : Nat, (k : Int) < (τ.2.2.2 103 i).toInt → xmB (τ.2.2.2 104 (1000 * i + k)) = true := fun i y hy h2' => by
    obtain ⟨q1, q2⟩ := hG.2 i y hy h2'
    rw [hG.1 i (is6 i y hy)] at q1 q2
    refine ⟨q1, fun k hk' => ?_⟩
    obtain ⟨b, hh, -, -, e3⟩ := q2 k hk'
    rw [← e3]
    exact xmB_i32 _
  have hb : ∀ i y, is[i]? = some y → y.2 = 0 → xmB (τ.2.2.2 103 i) = true := fun i y hy _ => by
    obtain ⟨w', e'⟩ := h32 i (is6 i y hy)
    rw [e']
    exact xmB_i32 _
  obtain ⟨⟨w1, w2, w3⟩, ⟨q1, q2, q3⟩, dd1, dd2, dd3, -⟩ := id Wt
  have nW : ∀ {q : Nat} {c : oC}, σ.1 q = some c → (∀ n f, c ≠ .inl (.object "LiquidTongue$Node", n, f)) → (∀ f, c ≠ .inl (.int, 1683, f)) → ¬ hW wn ws wa q := fun {q c} z z1 z2 hq => by
    rcases hq with r | r | r
    · rw [r, q1] at z; injection z with z; exact z1 _ _ z.symm
    · rw [r, q2] at z; injection z with z; exact z2 _ z.symm
    · rw [r, q3] at z; injection z with z; exact z2 _ z.symm
  obtain ⟨⟨nn1, nn2, nn3⟩, ⟨nn4, nn5⟩, nn6⟩ := hMv.ne
  have IN : hIn fm' ma' ha (hW wn ws wa) σ va' ra fv gr := by
    refine ⟨⟨c5, d6⟩, ⟨d7, fun z => c9 z.symm, nn2, nW d7 (fun _ _ z => by cases z) (fun _ z => by cases z)⟩, d8, nW d8 (fun _ _ z => by cases z) (fun _ z => by cases z), fun i b hi eb => ?_⟩
    obtain ⟨hh, e1⟩ := d9 i b hi eb
    refine nW e1 (fun _ _ z => by cases z) (fun _ z => ?_)
    injection z with z; injection z with _ z; injection z with z _
    exact absurd z (by decide)
  obtain ⟨σ', GO1, GO2⟩ := h_go (N := n) (n0 := n0) PO FL FI x8' x9' hT ⟨c3, c4⟩ c6 c7 c8 Wt IN hG g01.1 hk hn0 hg hb w hp.2.2.2.2.2.1.2.2.1 TT
  obtain ⟨τ', RO1, RO2⟩ := pg_run (h0 := y) (qs := qs) (ks := ks) (m := n') hT hp hRf hn0 hg hb
  -- behind go()
  have FIN : ∀ (ans : Int32) (gave : Int64) (took : Int32), oF κ T (n + 1322) 101 [va_rf (some ma'), .int (nI n0)] σ = some (some (.int ans), σ') → zF y qs ks T (n' + 1311) 138 [.ref y, .int (nI n0)] τ = some (some (.int ans), τ') → hEz σ ma' ha wn ws wa fm' hl gave took σ' → xFm τ τ' → gave = (if τ'.1 163 = 1 then τ'.2.1 166 else 0) → took = τ'.1 165 → ∃ u v hl', lcpI (oF κ T (n + 1323) 193 [.ref x, .int (nI n0)] σ) (zF y qs ks T (n' + 1311) 138 [.ref y, .int (nI n0)] τ) = some (u, v) ∧ (pgB κ T sz x (len, cnt, j, kk, pp, ee, f, fc, xs, is, e, α, lo, p, B, V, D, at2, cd', am2, nm, e0, fb, fr, fz, fn, g, ρ, lv, N, S, P, A, x0, g', ρ') u v ∧ lRel x u v ∧ oRm sz u ∧ hMq x lo (V.2.1 + 7) hl' u) ∧ hCo σ hl u hl' ∧ xFm τ v ∧ (u = σ ∨ hKr x σ u) := fun ans gave took A1 A2 Ez xf eg et => by
    obtain ⟨ha', hl', hp', top', gm, M', ⟨K', C'⟩, ⟨WN', WS', WA', Wt'⟩, F', g16, g17⟩ := Ez
    rw [A1, oin_at] at C
    have KE : ∀ {q : Nat} {c : oC}, σ.1 q = some c → q ≠ ma' → q ≠ ha → ¬ hW wn ws wa q → σ'.1 q = some c := fun {q c} z z1 z2 z3 => (K'.1 q (lt z) z1 z2 z3).trans z
    have nh : ∀ {q : Nat} {c : oC}, σ.1 q = some c → (∀ n g, c ≠ .inl (.long, n, g)) → q ≠ ha := fun {q c} z z1 r => by rw [r, c7] at z; injection z with z; exact z1 _ _ z.symm
    have nm' : ∀ {q : Nat} {c : oC}, σ.1 q = some c → (∀ fs, c ≠ .inr (5, fs)) → q ≠ ma' := fun {q c} z z1 r => by rw [r, c3] at z; injection z with z; exact z1 _ z.symm
    have ux : σ'.1 x = some (.inr (14, fs)) := KE c1 (nm' c1 (fun _ z => by cases z)) (nh c1 (fun _ _ z => by cases z)) (nW c1 (fun _ _ z => by cases z) (fun _ z => by cases z))
    have va1 : σ'.1 va' = some (.inl (.long, 6, .inr (.inl fv))) := KE d7 nn2 (fun z => c9 z.symm) IN.2.1.2.2.2
    have ra1 : σ'.1 ra = _ := KE d8 nn5 (nh d8 (fun _ _ z => by cases z)) IN.2.2.2.1
    have bb1 : ∀ i b h, i < 6 → gr i = some b → σ.1 b = some (.inl (.int, 1000, .inl h)) → σ'.1 b = some (.inl (.int, 1000, .inl h)) := fun i b h hi eb e1 => KE e1 (nn6 i b hi eb).2.1 (nh e1 (fun _ _ z => by cases z)) (IN.2.2.2.2 i b hi eb)
    have hV2 : ∀ q, lo ≤ q → q < V.2.1 + 7 → σ'.1 q = σ.1 q := fun q z1 z2 => K'.1 q (by omega) (by omega) (by omega) (fun z => by have := hWlo q z; omega)
    have hle := K'.2.2.1
    have pb : pgB κ T sz x (len, cnt, j, kk, pp, ee, f, fc, xs, is, e, α, lo, p, B, V, D, at2, cd', am2, nm, e0, fb, fr, fz, fn, g, ρ, lv, N, S, P, A, x0, g', ρ') σ' τ' := by
      refine ⟨hp, hV, ⟨hB, hlo, hxl, ta, ?_, htl⟩, hS.cg hpV hV2, ⟨fs, gm, ma', ux, x2', x3', x4', c2, M'.1.1, M'.1.2, (F' 0 (by decide)).trans x8', (F' 1 (by decide)).trans x9'⟩, hRf.xf xf, ma', va', ra, gm, fv, gr, ⟨⟨fs, ux, c2⟩, ⟨M'.1.1, M'.1.2, (F' 2 (by decide)).trans c5, (F' 3 (by decide)).trans d6⟩, va1, ra1, fun i b hi eb => ?_, d10⟩, ⟨fun i hi => ?_, fun i yy hi h2' => ?_⟩, ⟨b1, b2, b3, by omega⟩, b5⟩
      · rw [ofd_at c1] at hta
        rw [ofd_at ux]
        exact hta
      · obtain ⟨hh, e1⟩ := d9 i b hi eb
        exact ⟨hh, bb1 i b hh hi eb e1⟩
      · rw [xf.2.2.2 103 (by decide)]; exact hG.1 i hi
      · obtain ⟨z1, z2⟩ := hG.2 i yy hi h2'
        refine ⟨z1, fun m hm => ?_⟩
        obtain ⟨b, hh, s1, s2, s3⟩ := z2 m hm
        refine ⟨b, hh, s1, bb1 i b hh (is6 i yy hi) s1 s2, ?_⟩
        rw [xf.2.2.2 104 (by decide)]; exact s3
    have lr : lRel x σ' τ' := by
      obtain ⟨gs, gm0, ta', oa, ma3, No, ft, go, ⟨l1, l2⟩, ⟨f0, f1, f5, f6, f8, f12⟩, ⟨t1, t2, t3, t4⟩, ⟨o1, o2, o3, o4, o5, o6⟩, ⟨m1, m2, m3, m4⟩⟩ := hr
      rw [c1] at l1
      injection l1 with l1; injection l1 with l1; injection l1 with _ l1
      subst l1
      rw [c2] at f12
      injection f12 with f12; injection f12 with f12
      subst f12
      have i3 := xf.2.1 3 (by decide)
      have i5 := xf.2.1 5 (by decide)
      have i69 := xf.2.1 69 (by decide)
      refine ⟨fs, gm, ta', oa, ma', No, ft, go, ⟨ux, l2⟩, ⟨f0, by rw [i3]; exact f1, by rw [i69]; exact f5, f6, by rw [i5]; exact f8, c2⟩, ⟨KE t1 (nm' t1 (fun _ z => by cases z)) (nh t1 (fun _ _ z => by cases z)) (nW t1 (fun _ _ z => by cases z) (fun _ z => by cases z)), by rw [i3]; exact t2, by rw [i3]; exact t3, fun j hj => ?_⟩, ⟨KE o1 (nm' o1 (fun _ z => by cases z)) (nh o1 (fun _ _ z => by cases z)) (nW o1 (fun _ _ z => by cases z) (fun _ z => by cases z)), by rw [i5]; exact o2, by rw [i5]; exact o3, o4, fun j hj => ?_, o6⟩, ⟨M'.1.1, by rw [← eg]; exact g16, by rw [← et]; exact g17, m4⟩⟩
      · rw [i3] at hj
        rw [xf.1 0 (by decide)]
        exact t4 j hj
      · rw [i5] at hj
        rw [xf.1 2 (by decide)]
        exact o5 j hj
    have rm : oRm sz σ' := ⟨fun q hq => by
      have z := hlow q hq
      rw [K'.1 q (by omega) (fun r => by rw [r, c3] at z; cases z) (fun r => by rw [r, c7] at z; cases z) (fun r => by
        rcases r with r | r | r
        · rw [r, q1] at z; cases z
        · rw [r, q2] at z; cases z
        · rw [r, q3] at z; cases z)]
      exact z, K'.2.1, by omega⟩
    have hv6 : va' < σ.2.1 := lt d7
    have mq : hMq x lo (V.2.1 + 7) hl' σ' := by
      refine ⟨fs, ma', gm, va', ha', hp', wn, ws, wa, WN', WS', WA', ⟨ux, c2⟩, ⟨M'.1.1, M'.1.2, (F' 2 (by decide)).trans c5⟩, ⟨M'.2.1.1, M'.2.2.1, ⟨M'.2.2.2.2.2.2, M'.2.2.2.2.2.1⟩, ?_, ?_⟩, Wt', c11, c12, c13⟩
      · rcases K'.2.2.2.1 with r | r
        · rw [r]; exact c9
        · omega
      · rcases K'.2.2.2.1 with r | r
        · rw [r]; exact c10
        · exact Or.inr (by omega)
    refine ⟨σ', τ', hl', lcpI_ok C A2, ⟨pb, lr, rm, mq⟩, C', xf, Or.inr ⟨fs, ma', fm', ha, wn, ws, wa, ha', ⟨c1, c2⟩, ⟨c3, c6, w1, w2, w3⟩, K', gm, M'.1.1, M'.2.1.1, fun k hk' => F' k ?_⟩⟩
    rcases hk' with r | r | r | r | r | r | r <;> (rw [r]; decide)
  cases q : xmGo T f pp ee 80001 (xm0 (τ.2.2.2 103) (τ.2.2.2 104) is e n0) with
  | inl r =>
    obtain ⟨s1, s2, s3, s4⟩ := GO1 r q
    obtain ⟨z1, z2, z3, z4, -⟩ := RO1 r q
    exact FIN _ _ _ s1 z1 s2 z2 (by rw [z4, if_neg (by decide)]) z3.symm
  | inr r =>
    obtain ⟨s1, s2⟩ := GO2 r q
    obtain ⟨z1, z2, z3, z4, z5⟩ := RO2 r q
    exact FIN _ _ _ s1 z1 s2 z2 (by rw [z4, if_pos rfl, z5]) z3.symm
end LRN
