/-! compile() of both where types do not go together -/
section LTY
variable {κ : oKv} {ks : Nat → Nat} {qs : List Nat} {T n n' x y sz len : Nat} {a : Nat → Int32} {σ : oSt} {τ : zSt}
/-- no program is there -/
def lNo (x : Nat) (σ : oSt) (τ : zSt) : Prop := (∃ fs, σ.1 x = some (.inr (14, fs)) ∧ fs[2]? = some .null ∧ fs[4]? = some .null) ∧ τ.1 66 = 0
set_option maxHeartbeats 1000000 in
theorem lr_flt2 {V : oSt} {v : zSt} {fs fm : List Value} {ma : Nat} {pl : Int32} (hR : oRm sz σ) (h : lRel x σ τ) (h1 : σ.1 x = some (.inr (14, fs)) ∧ σ.1 ma = some (.inr (5, fm)) ∧ fs.length = 13 ∧ fs[12]? = some (.ref ma) ∧ ma ≠ x ∧ 17 < fm.length) (hx : V.1 x = some (.inr (14, ((((fs.set 1 (.int 0)).set 2 .null).set 3 .null).set 4 .null).set 5 (.int (-1))))) (hma : V.1 ma = some (.inr (5, (fm.set 0 .null).set 16 (.long 0)))) (hk : ∀ p, p < σ.2.1 → p ≠ x → p ≠ ma → (∀ fs, σ.1 p ≠ some (.inr (7, fs))) → (∀ fs, σ.1 p ≠ some (.inr (6, fs))) → V.1 p = σ.1 p) (hfr : ∀ q, V.2.1 ≤ q → V.1 q = none) (hn : σ.2.1 ≤ V.2.1) (hv : v.1 3 = 0 ∧ v.1 5 = τ.1 5 ∧ v.1 163 = 0 ∧ v.1 165 = τ.1 165 ∧ v.1 69 = pl) (hv2 : ∀ j, v.2.2.1 2 j = τ.2.2.1 2 j) : lRel x (oput V x (.inr (14, (((((fs.set 1 (.int 0)).set 2 .null).set 3 .null).set 4 .null).set 5 (.int (-1))).set 5 (.int pl)))) v ∧ oRm sz (oput V x (.inr (14, (((((fs.set 1 (.int 0)).set 2 .null).set 3 .null).set 4 .null).set 5 (.int (-1))).set 5 (.int pl)))) := by
  obtain ⟨hlow, hfr0, hsz⟩ := hR
  obtain ⟨fs', fm', ta, oa, ma', No, ft, go, ⟨g1, hfl⟩, ⟨f0, f1, f5, f6, f8, f12⟩, ⟨t1, t2, t3, t4⟩, ⟨o1, o2, o3, o4, o5, o6⟩, ⟨m1, m2, m3, m4⟩⟩ := h
  obtain ⟨h1a, h1b, h1c, h1d, h1e, h1f⟩ := h1
  rw [h1a] at g1
  injection g1 with g1; injection g1 with g1; injection g1 with _ g1
  subst g1
  rw [h1d] at f12
  injection f12 with f12; injection f12 with f12
  subst f12
  rw [h1b] at m1
  injection m1 with m1; injection m1 with m1; injection m1 with _ m1
  subst m1
  have hxl := alt hfr0 h1a
  have htl := alt hfr0 t1
  have hol := alt hfr0 o1
  have hml := alt hfr0 h1b
  have hxt : ta ≠ x := fun e => by rw [e, h1a] at t1; cases t1
  have hxo : oa ≠ x := fun e => by rw [e, h1a] at o1; cases o1
  have hmt : ta ≠ ma := fun e => by rw [e, h1b] at t1; cases t1
  have hmo : oa ≠ ma := fun e => by rw [e, h1b] at o1; cases o1
  obtain ⟨v3, v5, v163, v165, v69⟩ := hv
  refine ⟨⟨_, _, ta, oa, ma, No, ft, go, ⟨oput_eq _ _ _, by simp only [List.length_set]; exact hfl⟩, ⟨?_, ?_, ?_, ?_, ?_, ?_⟩, ⟨?_, ?_, ?_, ?_⟩, ⟨?_, ?_, ?_, o4, ?_, o6⟩, ⟨(oput_ne m4).trans hma, ?_, ?_, m4⟩⟩, ?_⟩
  · simpa [List.getElem?_set] using f0
  · rw [v3]; simp [List.getElem?_set, hfl]
  · rw [v69]; simp [List.getElem?_set, hfl]
  · simpa [List.getElem?_set] using f6
  · rw [v5]; simpa [List.getElem?_set] using f8
  · simpa [List.getElem?_set] using h1d
  · exact (oput_ne hxt).trans ((hk ta htl hxt hmt (fun _ z => by rw [t1] at z; cases z) (fun _ z => by rw [t1] at z; cases z)).trans t1)
  · rw [v3]; decide
  · rw [v3]; decide
  · intro j hj
    rw [v3] at hj
    have : (j : Int) < (0 : Int32).toInt := hj
    exact absurd this (by rw [show (0 : Int32).toInt = 0 from rfl]; omega)
  · exact (oput_ne hxo).trans ((hk oa hol hxo hmo (fun _ z => by rw [o1] at z; cases z) (fun _ z => by rw [o1] at z; cases z)).trans o1)
  · rw [v5]; exact o2
  · rw [v5]; exact o3
  · intro j hj
    rw [v5] at hj
    rw [hv2]; exact o5 j hj
  · rw [v163, if_neg (by decide)]
    rw [List.getElem?_set_self (by simp only [List.length_set]; omega)]
  · rw [v165, List.getElem?_set_ne (by decide), List.getElem?_set_ne (by decide)]
    exact m3
  · have mz : sz ≤ ma := by
      by_cases c : ma < sz
      · rw [hlow ma c] at h1b; cases h1b
      · omega
    have xz : sz ≤ x := by
      by_cases c : x < sz
      · rw [hlow x c] at h1a; cases h1a
      · omega
    refine ⟨fun p hp => ?_, fun p hp => ?_, ?_⟩
    · rw [oput_ne (by omega), hk p (by omega) (by omega) (by omega) (fun _ z => by rw [hlow p hp] at z; cases z) (fun _ z => by rw [hlow p hp] at z; cases z)]
      exact hlow p hp
    · have hp' : V.2.1 ≤ p := hp
      rw [oput_ne (by omega)]
      exact hfr p hp'
    · show sz ≤ V.2.1
      omega
theorem lNo.of {V : oSt} {v : zSt} {fs : List Value} {pl : Int32} (hl : fs.length = 13) (h : v.1 66 = 0) : lNo x (oput V x (.inr (14, (((((fs.set 1 (.int 0)).set 2 .null).set 3 .null).set 4 .null).set 5 (.int (-1))).set 5 (.int pl)))) v := by
  refine ⟨⟨_, oput_eq _ _ _, ?_, ?_⟩, h⟩
  · simp [List.getElem?_set, hl]
  · simp [List.getElem?_set, hl]
theorem nFind_cg {pp ee f fc : Nat → Int32} (he : ∀ w, (ee w).toNatClampNeg ≤ len) (hf : ∀ j, j < len → fc j = f j) : nFind fc pp ee = nFind f pp ee := by
  funext env w
  unfold nFind
  rw [show (fun u => wEq fc pp ee u w) = (fun u => wEq f pp ee u w) from funext fun u => wEq_cg he hf u w]
theorem nT_cg {pp ee f fc : Nat → Int32} (he : ∀ w, (ee w).toNatClampNeg ≤ len) (hf : ∀ j, j < len → fc j = f j) (is : List (Nat × Nat)) (e : tT) : (nT fc pp ee e (nIn fc pp ee is ([], [], none))).2.2 = (nT f pp ee e (nIn f pp ee is ([], [], none))).2.2 := by
  obtain ⟨n1, n2⟩ := nIn_3 (f := f) (pp := pp) (ee := ee) is ([], [], none)
  obtain ⟨m1, m2⟩ := nIn_3 (f := fc) (pp := pp) (ee := ee) is ([], [], none)
  have ec : cFd fc pp ee = cFd f pp ee := funext fun env => funext fun w => cFd_cg he hf env w
  rw [nT_3, nT_3, n1, n2, m1, m2, ec]
set_option maxHeartbeats 2000000 in
theorem lr_types {k0 : Nat} (hf : lFacts κ ks sz) (hκ : κ.2.2.1 < sz) (hR : oRm sz σ) (hT : 25000 ≤ T) (h : lRel x σ τ) (h45 : τ.1 45 = 0) (h60 : τ.1 60 = nI k0) (hk0 : k0 + 9002 < 2 ^ 30) (h3 : τ.1 3 = nI len) (hlen : len ≤ 2000) (hn : 1640 ≤ n') {R : wRes} (eR : wLex T len (fun j => (rT τ len).2.2.1 1 j &&& 255) T 0 (fun _ => 0) (fun _ => 0) (fun _ => 0) 0 = R) (hok : R.2.2.2.2 = -1) {xs : List tQ} {is : List (Nat × Nat)} {e : tT} {j : Nat} (hP : aPr R.1 T R.2.2.2.1 = .inr ((xs, is, e), j)) (hN : (nT ((rT τ len).2.2.1 1) (upd R.2.1 R.2.2.2.1 (nI len)) (upd R.2.2.1 R.2.2.2.1 (nI len)) e (nIn ((rT τ len).2.2.1 1) (upd R.2.1 R.2.2.2.1 (nI len)) (upd R.2.2.1 R.2.2.2.1 (nI len)) is ([], [], none))).2.2 = none) (hY : ¬ mSat (mEnd ((rT τ len).2.2.1 1) (upd R.2.1 R.2.2.2.1 (nI len)) (upd R.2.2.1 R.2.2.2.1 (nI len)) is e).1) : ∃ (u : oSt) (v : zSt), lst (oF κ T (n + 331)) (zF y qs ks T (n' + 135)) x y a σ τ 2 = some (u, v) ∧ lRel x u v ∧ oRm sz u ∧ lNo x u v ∧ v.1 45 = 0 ∧ (∃ k, v.1 60 = nI k ∧ k ≤ k0 + 9001) ∧ (u.2.2.1 ≤ σ.2.2.1 + 76 + 30 * len ∧ u.2.2.2 ≤ σ.2.2.2 + 709 + 293 * len) := by
  obtain ⟨U, fs, fm, ma, w0, r, v, ka, pa, ea, fc, hC, hW, hfc, hx1, ⟨xU, mU, rU, nU⟩, ⟨c1, c2⟩⟩ := lr_pre (n := n + 321) hf hκ hR (by omega) h h3 hlen eR hok
  obtain ⟨τ', N, S, P, A, x0, d1, ⟨⟨d2, d3, d4, d5, d6, d7, d8, d9⟩, d10, d11, d12⟩, W, G, Po, d13, d14⟩ := r_upT (h0 := y) (qs := qs) (n := n') hf (by omega) h3 hlen h45 h60 hk0 eR hok hn hP hN
  have hN' := (nT_cg (len := len) W.2.2.2.1 hfc is e).trans hN
  obtain ⟨P1, V, D, at2, am2, cd', nm, e0, fb, fr, fz, fn, σ1, σ2, g, Tt, b1, b2, b3, v1, ⟨j1, j2⟩, -, ⟨g1, g2⟩, -, t1, t2, old, s2, -, cx, -, -, -, fl, hfl, fa⟩ := c_upT (κ := κ) (m := n + 321 + 9) hW (by omega) (by omega) hP G W.inj W.2.1.2 hN'
  have em : mEnd fc (upd R.2.1 R.2.2.2.1 (nI len)) (upd R.2.2.1 R.2.2.2.1 (nI len)) is e = mEnd ((rT τ len).2.2.1 1) (upd R.2.1 R.2.2.2.1 (nI len)) (upd R.2.2.1 R.2.2.2.1 (nI len)) is e := by
    unfold mEnd
    rw [mE_cg (nFind_cg W.2.2.2.1 hfc)]
  rw [em] at cx
  have hc := W.1
  rcases d14 with ⟨z, -⟩ | ⟨pl, f1, f2, f3⟩
  · exact absurd z hY
  rcases cx.1.2 with ⟨z, -⟩ | ⟨pl', cc, F', q1, q2, q3, q4⟩
  · exact absurd z hY
  have epl := q1.uq f1
  subst epl
  have efl : fl = pl' := by
    rw [ofd_at q4.1] at hfl
    have hfl : some (Value.int pl') = some (.int fl) := hfl
    injection hfl with hfl
    injection hfl with hfl
    exact hfl.symm
  subst efl
  have hng : ¬ fl < 0 := fun z => by
    rw [Int32.lt_iff_toInt_lt] at z
    rw [Int32.le_iff_toInt_le] at q2
    omega
  rw [if_neg hng] at fa
  have R4 : zF y qs ks T (n' + 135) 65 [.ref y] τ = some (some (.int 4), zI τ' 69 fl) := by
    rw [d1, if_neg (by rw [f2]; decide), zcv_at]
    unfold j_compile_92
    rw [if_neg (by rw [f2]; decide), f3]
    simp only [zlet]
    rw [zIn _ _ (by decide), f2]
  have hw0 := hW.2.1.1
  have hw0V : V.1 w0 = some (.inr (13, [.ref r, .ref ka, .ref pa, .ref ea, .int (nI R.2.2.2.1), .int (-1)])) := (j1 w0 (alt hW.1.1 hw0)).trans hw0
  have fw : ofd U (some w0) 13 5 = some (.int (-1)) := by rw [ofd_at hw0]; rfl
  have vp : V.1 U.2.1 = some (.inr (9, cPs (pA w0 r v ka pa ea U.2.1) (nI xs.length) (nI is.length) (.ref e0) at2 cd' 0 am2 (-1) (-1) (fE fc (upd R.2.1 R.2.2.2.1 (nI len)) (upd R.2.2.1 R.2.2.2.1 (nI len)) e (is.map Prod.fst) 0 (-1)))) := v1.2.1
  have f15 : ofd V (some U.2.1) 9 15 = some (.int (-1)) := by rw [ofd_at vp]; rfl
  have f16 : ofd V (some U.2.1) 9 16 = some (.int (-1)) := by rw [ofd_at vp]; rfl
  have hxl : x < U.2.1 := alt hW.1.1 xU
  have hml : ma < U.2.1 := alt hW.1.1 mU
  have hxV := (j1 x hxl).trans xU
  have hmV := (j1 ma hml).trans mU
  have lowσ : ∀ p c, p < U.2.1 → V.1 p = some c → (∀ fs, c ≠ .inr (7, fs)) → (∀ fs, c ≠ .inr (6, fs)) → σ2.1 p = V.1 p := fun p c hp e a b => cx.1.1.2.2.1 p (by omega) (fun fs z => a fs (by rw [e] at z; injection z)) (fun fs z => b fs (by rw [e] at z; injection z))
  have hx2 : σ2.1 x = _ := (lowσ x _ hxl hxV (fun _ z => by cases z) (fun _ z => by cases z)).trans hxV
  have hm2 : σ2.1 ma = _ := (lowσ ma _ hml hmV (fun _ z => by cases z) (fun _ z => by cases z)).trans hmV
  have hfa : oF κ T (n + 321 + 9) 177 [va_rf (some x), .int 4, .int fl] σ2 = some (some (.int 4), oput σ2 x (.inr (14, (((((fs.set 1 (.int 0)).set 2 .null).set 3 .null).set 4 .null).set 5 (.int (-1))).set 5 (.int fl)))) := by
    rw [show n + 321 + 9 = (n + 321 + 8) + 1 from rfl, oE_X12_fault]
    unfold ob_X12_fault
    rw [opf_at hx2 (by simp only [List.length_set]; omega)]
    simp only [obn]
  have h134 : ofd (onew V (.inr (12, odef 12)) (oq 12).2.2) (some w0) 13 4 = some (.int (nI R.2.2.2.1)) := by
    rw [ofd_at ((onew_ne (fun z => by rw [z] at hw0V; rw [v1.1.1.1 V.2.1 (Nat.le_refl _)] at hw0V; cases hw0V)).trans hw0V)]
    rfl
  have C4 : cD (oF κ T (n + 321 + 9)) (some x) w0 U = some (some (.int 4), oput σ2 x (.inr (14, (((((fs.set 1 (.int 0)).set 2 .null).set 3 .null).set 4 .null).set 5 (.int (-1))).set 5 (.int fl)))) := by
    unfold cD
    rw [fw, ovi_i, obn_at, if_pos (show (-1 : Int32) < 0 by decide), olet_at, obn_at, b1, ocv_at, b2, obn_at, b3, ocv_at, f15, ovi_i, obn_at, if_pos (show (-1 : Int32) < 0 by decide), f16, ovi_i, obn_at, if_pos (show (-1 : Int32) < 0 by decide), olet_at, h134, ovi_i, obn_at, obn_at, t1, ocv_at, t2, obn_at, fa, ocv_at, hfl, ovi_i, obn_at, if_neg hng, obn_at, oob_at hx2, obn_at, hfa, oin_at]
  rw [C4] at hC
  obtain ⟨r1, r2⟩ := lr_flt2 (v := zI τ' 69 fl) (pl := fl) hR h hx1 hx2 hm2 (fun p hp a1 a2 n7 n6 => by
    have e1 : V.1 p = σ.1 p := (j1 p (by omega)).trans (rU p hp a1 a2)
    rw [cx.1.1.2.2.1 p (by omega) (fun fs z => n7 fs (by rw [← e1]; exact z)) (fun fs z => n6 fs (by rw [← e1]; exact z))]
    exact e1) (fun q hq => old q (by rw [s2] at hq; exact hq)) (by rw [s2]; show σ.2.1 ≤ V.2.1 + 7; omega) ⟨by rw [zIn _ _ (by decide)]; exact d2, by rw [zIn _ _ (by decide)]; exact d3, by rw [zIn _ _ (by decide)]; exact d4, by rw [zIn _ _ (by decide)]; exact d5, zIe _ _ _⟩ d11
  obtain ⟨kk, k1, k2⟩ := d13
  refine ⟨_, _, lcpI_ok (r := 4) hC R4, r1, r2, lNo.of hx1.2.2.1 (by rw [zIn _ _ (by decide)]; exact d6), by rw [zIn _ _ (by decide)]; exact Po.2.1.2.2.2.1, ⟨kk, by rw [zIn _ _ (by decide)]; exact k1, k2⟩, ?_, ?_⟩
  · show σ2.2.2.1 ≤ _
    rw [s2]
    show V.2.2.1 + 7 ≤ _
    have := Nat.mul_le_mul_left 30 hc
    omega
  · show σ2.2.2.2 ≤ _
    rw [s2]
    show V.2.2.2 + 74 + 32 * R.2.2.2.1 ≤ _
    have := Nat.mul_le_mul_left 346 hc
    have := Nat.mul_le_mul_left 32 hc
    omega
end LTY
