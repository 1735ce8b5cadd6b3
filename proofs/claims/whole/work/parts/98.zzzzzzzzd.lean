/-! compile() of both where all is well -/
/-- what compile() does to the older cells where it finds none -/
def lKo (x : Nat) (σ u : oSt) : Prop := ∃ (fs fm : List Value) (ma va p y : Nat) (kd : Int32) (f' : Nat → Int64), σ.1 x = some (.inr (14, fs)) ∧ fs[12]? = some (.ref ma) ∧ σ.1 ma = some (.inr (5, fm)) ∧ ma ≠ x ∧ fm[2]? = some (.ref va) ∧ u.1 x = some (.inr (14, ((((((fs.set 1 (.int 0)).set 2 .null).set 3 .null).set 4 .null).set 5 (.int (-1))).set 2 (.ref p)).set 3 (.ref y))) ∧ u.1 ma = some (.inr (5, (((fm.set 0 .null).set 16 (.long 0)).set 0 (.ref p)).set 1 (.int kd))) ∧ (u.1 va = some (.inl (.long, 6, .inr (.inl f'))) ∧ ∀ i, i < 6 → f' i = 0) ∧ σ.2.1 ≤ u.2.1 ∧ ∀ p, p < σ.2.1 → p ≠ x → p ≠ ma → p ≠ va → (∀ fs, σ.1 p ≠ some (.inr (7, fs))) → (∀ fs, σ.1 p ≠ some (.inr (6, fs))) → u.1 p = σ.1 p
theorem fMin_m1 {a b : Int32} (ha : vP a) (hb : vP b) (h : fMin a b = -1) : a = -1 ∧ b = -1 := by
  have e := fMin_t a b
  rw [h] at e
  have := ha.t
  have := hb.t
  have e1 : (-1 : Int32).toInt = -1 := by decide
  rw [e1] at e
  have k : a.toInt = -1 ∧ b.toInt = -1 := by
    by_cases c1 : b.toInt < 0
    · rw [if_pos c1] at e; omega
    · rw [if_neg c1] at e
      by_cases c2 : a.toInt < 0
      · rw [if_pos c2] at e; omega
      · rw [if_neg c2] at e
        by_cases c3 : a.toInt ≤ b.toInt
        · rw [if_pos c3] at e; omega
        · rw [if_neg c3] at e; omega
  exact ⟨Int32.toInt_inj.mp (k.1.trans e1.symm), Int32.toInt_inj.mp (k.2.trans e1.symm)⟩
theorem ofd_some {σ : oSt} {m ci k : Nat} {v : Value} (h : ofd σ (some m) ci k = some v) : ∃ fs, σ.1 m = some (.inr (ci, fs)) := by
  unfold ofd at h
  cases hq : σ.1 m with
  | none => simp only [hq] at h; cases h
  | some q =>
    cases q with
    | inl _ => simp only [hq] at h; cases h
    | inr o =>
      simp only [hq] at h
      by_cases c : o.1 = ci
      · exact ⟨o.2, by rw [← c]⟩
      · rw [if_neg c] at h; cases h
section LOK
variable {κ : oKv} {ks : Nat → Nat} {qs : List Nat} {T n n' x y sz len cnt k0 j : Nat} {a : Nat → Int32} {σ : oSt} {τ : zSt} {R : wRes} {kk pp ee f : Nat → Int32} {xs : List tQ} {is : List (Nat × Nat)} {e : tT}
/-- what compile() of a PROGRAM costs -/
def lCs (q : pgQt) (len : Nat) (σ u : oSt) : Prop := q.1 = len ∧ 8 * u.2.2.1 + (sv q.2.2.2.2.2.2.2.2.2.2.1 + (1680 * q.2.2.2.2.2.2.2.2.1.length + 1200 * q.2.2.2.2.2.2.2.2.2.1.length)) ≤ 8 * σ.2.2.1 + 608 + 240 * q.2.1 ∧ u.2.2.2 + (sv q.2.2.2.2.2.2.2.2.2.2.1 + (1680 * q.2.2.2.2.2.2.2.2.1.length + 1200 * q.2.2.2.2.2.2.2.2.2.1.length)) ≤ σ.2.2.2 + 709 + 5 * q.1 + 272 * q.2.1 + 8 * (q.2.2.2.2.2.2.2.2.2.1.map Prod.fst ++ tW q.2.2.2.2.2.2.2.2.2.2.1).length + 8 * nF q.2.2.2.2.2.2.2.2.2.2.1
set_option maxHeartbeats 4000000 in
/-- compile() of both, where words, grammar, NAMES and types are well -/
theorem lr_50 {ma' va ra : Nat} {fm' : List Value} {fv : Nat → Int64} {gr : Nat → Option Nat} (hM : lMv x σ ma' va ra fm' fv gr) (hf : lFacts κ ks sz) (hκ : κ.2.2.1 < sz) (hR : oRm sz σ) (hT : 500000 ≤ T) (h : lRel x σ τ) (h45 : τ.1 45 = 0) (h60 : τ.1 60 = nI k0) (hk0 : k0 + 9002 < 2 ^ 30) (h3 : τ.1 3 = nI len) (hlen : len ≤ 2000) (hn : 1640 ≤ n') (eR : wLex T len (fun j => (rT τ len).2.2.1 1 j &&& 255) T 0 (fun _ => 0) (fun _ => 0) (fun _ => 0) 0 = R) (hok : R.2.2.2.2 = -1) (hkk : R.1 = kk) (hpp : upd R.2.1 R.2.2.2.1 (nI len) = pp) (hee : upd R.2.2.1 R.2.2.2.1 (nI len) = ee) (hcn : R.2.2.2.1 = cnt) (hf1 : (rT τ len).2.2.1 1 = f) (hP : aPr kk T cnt = .inr ((xs, is, e), j)) (hN : (nT f pp ee e (nIn f pp ee is ([], [], none))).2.2 = none) (hY : mSat (mEnd f pp ee is e).1) : ∃ u v, lst (oF κ T (n + 331)) (zF y qs ks T (n' + 135)) x y a σ τ 2 = some (u, v) ∧ lKp x sz k0 len σ u v ∧ ((lNo x u v ∧ lKc x σ u) ∨ ((∃ q0, pgB κ T sz x q0 u v ∧ pgLo q0 = σ.2.1 ∧ lCs q0 len σ u) ∧ lKo x σ u ∧ v.1 67 = 0)) := by
  obtain ⟨U, fs, fm, ma, w0, r, v, ka, pa, ea, fc, V, D, at2, am2, cd', nm, e0, fb, fr, fz, fn, σ4, g, ρ, α, lv, τ', τ'', N, S, P, A, x0, g', ρ', pl, ⟨⟨q1, q2, q3⟩, ⟨W, G, hgd, hH, hev⟩⟩, ⟨c1, c2, c3, c4, c5⟩, ⟨v1, v2, v3, v4, v5, v6, v7, v8, v9⟩, ⟨s1, s2, s3, s4, s5, s6, s7, s8⟩, ⟨z1, z2, z3, ⟨⟨z4, z5, z6, z7, z8, z9, z10⟩, z11, z12, z13⟩, z14⟩, ⟨t1, t2, t3, t4⟩⟩ := lr_mid (y := y) (qs := qs) (n := n) hf hκ hR hT h h45 h60 hk0 h3 hlen hn eR hok hkk hpp hee hcn hf1 hP hN hY
  have hcnt : cnt ≤ len := by rw [← hcn]; exact W.1
  have hUfr : ∀ q, U.2.1 ≤ q → U.1 q = none := c2.1.1
  have s4fr : ∀ q, σ4.2.1 ≤ q → σ4.1 q = none := s1.2.2.2.2
  have s4n : V.2.1 ≤ σ4.2.1 := by rw [s7]; show V.2.1 ≤ V.2.1 + 7; omega
  have room : σ4.2.2.1 ≤ σ.2.2.1 + 76 + 30 * len ∧ σ4.2.2.2 ≤ σ.2.2.2 + 709 + 293 * len := by
    rw [s7]
    refine ⟨?_, ?_⟩
    · show V.2.2.1 + 7 ≤ _
      omega
    · show V.2.2.2 + 74 + 32 * cnt ≤ _
      omega
  have room3 : 8 * σ4.2.2.1 + (sv e + (1680 * xs.length + 1200 * is.length)) ≤ 8 * σ.2.2.1 + 608 + 240 * cnt := by
    rw [s7]
    show 8 * (V.2.2.1 + 7) + (sv e + (1680 * xs.length + 1200 * is.length)) ≤ _
    omega
  have room2 : σ4.2.2.2 + (sv e + (1680 * xs.length + 1200 * is.length)) ≤ σ.2.2.2 + 709 + 5 * len + 272 * cnt + 8 * (is.map Prod.fst ++ tW e).length + 8 * nF e := by
    rw [s7]
    show V.2.2.2 + 74 + 32 * cnt + (sv e + (1680 * xs.length + 1200 * is.length)) ≤ _
    omega
  by_cases hpl : 0 ≤ pl
  · obtain ⟨u, w, l1, l2, l3, l4⟩ := lr_5 (κ := κ) (y := y) (qs := qs) (ks := ks) (n := n) (n' := n') (a := a) (k0 := k0) (len := len) (sz := sz) (p := U.2.1) (ps := _) (s77 := _) hR h c4 c5 rfl v2 s1 rfl (by rfl) hUfr s4fr s4n hpl c1 z1 z2 z3 ⟨z4, z5, z6, z7, z8⟩ z12 t1.2.1.2.2.2.1 z14 room
    exact ⟨u, w, l1, l2, Or.inl ⟨l3, l4⟩⟩
  have hpl1 : pl = -1 := q1.resolve_right hpl
  have hp0 : ∀ w, 0 ≤ pp w := fun w => by rw [← hpp]; exact W.2.1.2 w
  have vpO := (rFo_eq (f := f) (ee := ee) (tE := fun u => (mEnd f pp ee is e).2.2.2.1 u α) (tN := fun u => (mEnd f pp ee is e).2.2.1 u α) hp0 e (is.map Prod.fst) 0 0 (-1) (-1) hgd ⟨Or.inl rfl, Or.inl rfl, fun _ => rfl⟩).2
  obtain ⟨eF, eO⟩ := fMin_m1 vpO.1 vpO.2.1 (q2.symm.trans hpl1)
  have he : ∀ w, (ee w).toNatClampNeg ≤ len := fun w => by rw [← hee]; exact W.2.2.2.1 w
  have nf := nFind_cg (pp := pp) he c3
  have eFc : fE fc pp ee e (is.map Prod.fst) 0 (-1) = -1 := (fE_cg nf e _ _ _).trans eF
  rw [eFc, hpl1] at c1
  rw [eFc] at v1
  rw [eO] at s3
  obtain ⟨xU, mU, rU, nU⟩ := c5
  obtain ⟨fs0, fm0', hfl, f12, mx, m17⟩ := c4
  -- cells
  have vp : V.1 U.2.1 = some (.inr (9, cPs (pA w0 r v ka pa ea U.2.1) (nI xs.length) (nI is.length) (.ref e0) at2 cd' 0 am2 (-1) (-1) (-1))) := v1.2.1
  have vp4 : σ4.1 U.2.1 = some (.inr (9, cPs (pA w0 r v ka pa ea U.2.1) (nI xs.length) (nI is.length) (.ref e0) at2 cd' 0 am2 (-1) (-1) (-1))) := (s1.2.2.1 U.2.1 (s1.lt vp) (fun fs z => by rw [vp] at z; cases z) (fun fs z => by rw [vp] at z; cases z)).trans vp
  have same : oput σ4 U.2.1 (.inr (9, (cPs (pA w0 r v ka pa ea U.2.1) (nI xs.length) (nI is.length) (.ref e0) at2 cd' 0 am2 (-1) (-1) (-1)).set 17 (.int (-1)))) = σ4 := oput_same vp4
  rw [same] at c1
  have xlt : x < U.2.1 := alt hUfr xU
  have mlt : ma < U.2.1 := alt hUfr mU
  have low : ∀ p c, p < U.2.1 → U.1 p = some c → (∀ fs, c ≠ .inr (7, fs)) → (∀ fs, c ≠ .inr (6, fs)) → σ4.1 p = U.1 p := fun p c hp e a b => by
    have eV := (v2.1 p hp).trans e
    rw [s1.2.2.1 p (s1.lt eV) (fun fs z => a fs (by rw [eV] at z; injection z)) (fun fs z => b fs (by rw [eV] at z; injection z))]
    exact v2.1 p hp
  have hx4 := (low x _ xlt xU (fun _ z => by cases z) (fun _ z => by cases z)).trans xU
  have hm4 := (low ma _ mlt mU (fun _ z => by cases z) (fun _ z => by cases z)).trans mU
  have kept : ∀ p, p < σ.2.1 → p ≠ x → p ≠ ma → (∀ fs, σ.1 p ≠ some (.inr (7, fs))) → (∀ fs, σ.1 p ≠ some (.inr (6, fs))) → σ4.1 p = σ.1 p := fun p hp a1 a2 n7 n6 => by
    have e1 : V.1 p = σ.1 p := (v2.1 p (by omega)).trans (rU p hp a1 a2)
    have := v2.2
    rw [s1.2.2.1 p (by omega) (fun fs z => n7 fs (by rw [← e1]; exact z)) (fun fs z => n6 fs (by rw [← e1]; exact z))]
    exact e1
  obtain ⟨hlow, hfr, hsz⟩ := id hR
  have xσ : x < σ.2.1 := alt hfr fs0
  have mσ : ma < σ.2.1 := alt hfr fm0'
  -- the Machine's arrays
  obtain ⟨⟨gs, M1, M2⟩, ⟨M3, M4, M5, M6⟩, M7, M8, M9, M10⟩ := id hM
  rw [fs0] at M1
  injection M1 with M1; injection M1 with M1; injection M1 with _ M1
  subst M1
  rw [f12] at M2
  injection M2 with M2; injection M2 with M2
  subst M2
  rw [fm0'] at M3
  injection M3 with M3; injection M3 with M3; injection M3 with _ M3
  subst M3
  have vaσ : va < σ.2.1 := alt hfr M7
  have vax : va ≠ x := fun z => by rw [z, fs0] at M7; cases M7
  have vam : va ≠ ma := fun z => by rw [z, fm0'] at M7; cases M7
  have raσ : ra < σ.2.1 := alt hfr M8
  have rax : ra ≠ x := fun z => by rw [z, fs0] at M8; cases M8
  have ram : ra ≠ ma := fun z => by rw [z, fm0'] at M8; cases M8
  have rav : ra ≠ va := fun z => by rw [z, M7] at M8; cases M8
  have va4 : σ4.1 va = some (.inl (.long, 6, .inr (.inl fv))) := (kept va vaσ vax vam (fun _ z => by rw [M7] at z; cases z) (fun _ z => by rw [M7] at z; cases z)).trans M7
  -- the class
  generalize hfsU : ((((fs.set 1 (.int 0)).set 2 .null).set 3 .null).set 4 .null).set 5 (.int (-1)) = fsU at xU hx4
  have lU : fsU.length = 13 := by rw [← hfsU]; simp only [List.length_set]; exact hfl
  have f12U : fsU[12]? = some (.ref ma) := by rw [← hfsU]; simpa [List.getElem?_set] using f12
  generalize hfm1 : (fm.set 0 .null).set 16 (.long 0) = fm1 at mU hm4
  have lm1 : fm1.length = 18 := by rw [← hfm1]; simp only [List.length_set]; exact M4
  obtain ⟨cr, cr1, cr2, cr3, cr4⟩ := s6
  generalize hs85 : oput σ4 x (.inr (14, (fsU.set 2 (.ref U.2.1)).set 3 (.ref V.2.1))) = s85
  have x85 : s85.1 x = some (.inr (14, (fsU.set 2 (.ref U.2.1)).set 3 (.ref V.2.1))) := by rw [← hs85]; exact oput_eq _ _ _
  have o85 : ∀ q, q ≠ x → s85.1 q = σ4.1 q := fun q hq => by rw [← hs85]; exact oput_ne hq
  have n85 : s85.2 = σ4.2 := by rw [← hs85]; rfl
  have y85 : yTf V.2.1 (fun i => V.2.1 + 1 + i) (4 * cnt + 8) g ρ lv (-1) s85 := s3.cg (o85 _ (by have := v2.2; omega)) (fun i hi => o85 _ (by show V.2.1 + 1 + i ≠ x; have := v2.2; omega))
  have e0x : e0 ≠ x := fun z => by
    obtain ⟨i0, rg⟩ := G.2.2.1
    rw [z] at cr1
    simp only [ofd, hx4] at cr1
    cases cr1
  have kd := c_kindOf (κ := κ) (T := T) (n := n + 328) (by omega) y85 cr2
  have m85 : s85.1 ma = some (.inr (5, fm1)) := (o85 ma mx).trans hm4
  have tk := c_take (κ := κ) (T := T) (n := n + 328) (p := U.2.1) (kd := cKd (yK (ρ cr))) (by omega) m85 lm1 (by rw [← hfm1, List.getElem?_set_ne (by decide), List.getElem?_set_ne (by decide)]; exact M5) vam ((o85 va vax).trans va4)
  have C0 : oF κ T (n + 331) 178 [va_rf (some x)] σ = some (some (.int 0), oput (oput s85 ma (.inr (5, (fm1.set 0 (.ref U.2.1)).set 1 (.int (cKd (yK (ρ cr))))))) va (.inl (.long, 6, .inr (.inl (fun i => if 0 ≤ i ∧ i < 6 then 0 else fv i))))) := by
    rw [c1]
    unfold cT5
    rw [show ofd σ4 (some U.2.1) 9 17 = some (.int (-1)) by rw [ofd_at vp4]; rfl, ovi_in, obn_at, if_pos (by decide), opf_at hx4 (by rw [lU]; decide), obn_at, opf_at (oput_eq _ _ _) (by rw [List.length_set, lU]; decide), obn_at, oput_oput, show va_rf (some U.2.1) = .ref U.2.1 from rfl, show va_rf (some V.2.1) = .ref V.2.1 from rfl, hs85, show ofd s85 (some x) 14 12 = some (.ref ma) by rw [ofd_at x85, List.getElem?_set_ne (by decide), List.getElem?_set_ne (by decide)]; exact f12U, ovr_rf, obn_at, show ofd s85 (some U.2.1) 9 10 = some (.ref e0) by rw [ofd_at ((o85 _ (by omega)).trans vp4)]; rfl, ovr_rf, obn_at, show ofd s85 (some e0) 7 8 = some (.int (nI cr)) from (ofd_cg (o85 e0 e0x)).trans cr1, ovi_in, obn_at, y85.f7.2.2, obn_at]
    rw [show va_rf (some V.2.1) = (.ref V.2.1 : Value) from rfl] at kd
    rw [show va_rf (some ma) = (.ref ma : Value) from rfl, show va_rf (some U.2.1) = (.ref U.2.1 : Value) from rfl] at tk
    rw [show n + 330 = n + 328 + 2 from rfl, kd, oin_at, oob_at m85, obn_at]
    rw [show va_rf (some ma) = (.ref ma : Value) from rfl, tk, ocv_at]
  -- the reference
  obtain ⟨w, b1, ⟨b2, b3, b4, b5⟩, b6, -, b7, -⟩ := r_119 (ks := ks) (qs := qs) (h0 := y) (call := zF y qs ks T (n' + 134)) (T := T) (by omega) 6 0 T (zI τ'' 66 1) rfl (by omega)
  have R0 : zF y qs ks T (n' + 135) 65 [.ref y] τ = some (some (.int 0), w) := by
    rw [z1, if_pos (by rw [z2, hpl1]; decide), zcv_at]
    unfold j_compile_92
    rw [if_pos z3]
    simp only [zlet]
    exact b1
  generalize hu : oput (oput s85 ma (.inr (5, (fm1.set 0 (.ref U.2.1)).set 1 (.int (cKd (yK (ρ cr))))))) va (.inl (.long, 6, .inr (.inl (fun i => if 0 ≤ i ∧ i < 6 then 0 else fv i)))) = u at C0
  have ux : u.1 x = some (.inr (14, (fsU.set 2 (.ref U.2.1)).set 3 (.ref V.2.1))) := by rw [← hu]; exact (oput_ne vax.symm).trans ((oput_ne mx.symm).trans x85)
  have um : u.1 ma = some (.inr (5, (fm1.set 0 (.ref U.2.1)).set 1 (.int (cKd (yK (ρ cr)))))) := by rw [← hu]; exact (oput_ne vam.symm).trans (oput_eq _ _ _)
  have uv : u.1 va = some (.inl (.long, 6, .inr (.inl (fun i => if 0 ≤ i ∧ i < 6 then 0 else fv i)))) := by rw [← hu]; exact oput_eq _ _ _
  have uo : ∀ q, q ≠ x → q ≠ ma → q ≠ va → u.1 q = σ4.1 q := fun q a b c => by rw [← hu]; exact (oput_ne c).trans ((oput_ne b).trans (o85 q a))
  have u2 : u.2 = σ4.2 := by rw [← hu]; exact n85
  have uk : ∀ p, p < σ.2.1 → p ≠ x → p ≠ ma → p ≠ va → (∀ fs, σ.1 p ≠ some (.inr (7, fs))) → (∀ fs, σ.1 p ≠ some (.inr (6, fs))) → u.1 p = σ.1 p := fun p hp a b c d e => (uo p a b c).trans (kept p hp a b d e)
  have wf1 : ∀ k, k ≠ 66 → w.1 k = τ''.1 k := fun k hk => by rw [b2]; exact zIn _ _ hk
  have w66 : w.1 66 = 1 := by rw [b2]; exact zIe _ _ _
  have wr : w.2.2.1 = τ''.2.2.1 := b4
  have mz : sz ≤ ma := by
    by_cases c : ma < sz
    · rw [hlow ma c] at fm0'; cases fm0'
    · omega
  have xz : sz ≤ x := by
    by_cases c : x < sz
    · rw [hlow x c] at fs0; cases fs0
    · omega
  have vz : sz ≤ va := by
    by_cases c : va < sz
    · rw [hlow va c] at M7; cases M7
    · omega
  have h5' : ((fsU.set 2 (.ref U.2.1)).set 3 (.ref V.2.1))[5]? = some (.int (-1)) := by rw [← hfsU]; simp [List.getElem?_set, hfl]
  have rel : lRel x u w := lRel.up hR h ⟨fs0, fm0', f12⟩ ux (by simp only [List.length_set]; exact lU) (by rw [← hfsU]; simp [List.getElem?_set]) (by rw [← hfsU]; simp [List.getElem?_set]) (by rw [← hfsU]; simp [List.getElem?_set]) (by rw [← hfsU]; simp [List.getElem?_set]) (by rw [← hfsU]; simp [List.getElem?_set, hfl]) (by rw [wf1 69 (by decide), z10]; exact h5') um (by rw [← hfm1]; simp [List.getElem?_set, M4]) (by rw [← hfm1]; simp [List.getElem?_set]) (fun p nn gg e => by
    have pσ := alt hfr e
    exact uk p pσ (fun z => by rw [z, fs0] at e; cases e) (fun z => by rw [z, fm0'] at e; cases e) (fun z => by rw [z, M7] at e; cases e) (fun _ z => by rw [e] at z; cases z) (fun _ z => by rw [e] at z; cases z)) ((wf1 3 (by decide)).trans z4) ((wf1 5 (by decide)).trans z5) ((wf1 163 (by decide)).trans z6) ((wf1 165 (by decide)).trans z7) (fun j => by rw [wr]; exact z12 j)
  have orm : oRm sz u := by
    refine ⟨fun p hp => ?_, fun p hp => ?_, ?_⟩
    · rw [uk p (by omega) (by omega) (by omega) (by omega) (fun _ z => by rw [hlow p hp] at z; cases z) (fun _ z => by rw [hlow p hp] at z; cases z)]
      exact hlow p hp
    · rw [u2] at hp
      have : V.2.1 ≤ p := by omega
      have := v2.2
      rw [uo p (by omega) (by omega) (by omega)]
      exact s4fr p hp
    · rw [u2]
      have := v2.2
      omega
  obtain ⟨k60, k601, k602⟩ := z14
  have hta : ∃ ta, ofd u (some x) 14 0 = some (.ref ta) ∧ ta < σ.2.1 := by
    obtain ⟨gs, gm, ta, oa, ma', No, ft, go, ⟨g1, -⟩, ⟨f0, -⟩, ⟨tt1, -⟩, -⟩ := id h
    rw [fs0] at g1
    injection g1 with g1; injection g1 with g1; injection g1 with _ g1
    subst g1
    refine ⟨ta, ?_, alt hfr tt1⟩
    rw [ofd_at ux, List.getElem?_set_ne (by decide), List.getElem?_set_ne (by decide), ← hfsU]
    simpa [List.getElem?_set] using f0
  have kp : lKp x sz k0 len σ u w := ⟨rel, orm, (wf1 45 (by decide)).trans t1.2.1.2.2.2.1, ⟨k60, (wf1 60 (by decide)).trans k601, k602⟩, by rw [u2]; exact room⟩
  have ko : lKo x σ u := ⟨fs, fm, ma, va, U.2.1, V.2.1, _, _, fs0, f12, fm0', mx, M5, by rw [hfsU]; exact ux, by rw [hfm1]; exact um, ⟨uv, fun i hi => if_pos ⟨Nat.zero_le _, hi⟩⟩, by rw [u2]; have := v2.2; omega, uk⟩
  -- the PROGRAM
  have u6 : ∀ q fs, σ4.1 q = some (.inr (6, fs)) → u.1 q = σ4.1 q := fun q fs e => uo q (fun z => by rw [z, hx4] at e; cases e) (fun z => by rw [z, hm4] at e; cases e) (fun z => by rw [z, va4] at e; cases e)
  have u7 : ∀ q fs, σ4.1 q = some (.inr (7, fs)) → u.1 q = σ4.1 q := fun q fs e => uo q (fun z => by rw [z, hx4] at e; cases e) (fun z => by rw [z, hm4] at e; cases e) (fun z => by rw [z, va4] at e; cases e)
  have T' : pgT T len cnt j kk pp ee f fc xs is e α := ⟨⟨hlen, hcnt, c3⟩, hP, hN, q3, ⟨eF, eO⟩, ⟨G, hgd, hH, hev⟩, by rw [← hpp, ← hee, ← hcn]; exact W.2.1, fun i hi => by rw [← hkk]; exact W.2.2.1 i (by rw [hcn]; exact hi), he, fun u v a b => by rw [← hpp]; exact W.2.2.2.2 u v a (by rw [hcn]; exact b), cr4, fun i hi => by
    rw [← hee, upd_ne _ _ (by omega), ← eR]
    exact (wLex_oue T len _ T 0 _ _ _ 0).2 i (by rw [eR, hcn]; omega)⟩
  have V' : pgV κ T sz len cnt kk pp ee fc xs is e (pA w0 r v ka pa ea U.2.1) U.2.1 V D at2 cd' am2 nm e0 fb fr fz fn := ⟨v1, v2.2, v3, v4, v5, v6, ⟨v7, v8, v9⟩, s2⟩
  have e0V : e0 < V.2.1 := by
    obtain ⟨i0, rg⟩ := G.2.2.1
    obtain ⟨fe, he0, -⟩ := cTr_pl G.2.1 rg (cTX.tr e _ _ _ _ _ _ s5)
    exact s1.lt he0
  have S' : pgS κ T σ.2.1 cnt kk pp ee f fc is e α (pA w0 r v ka pa ea U.2.1) U.2.1 V D nm e0 g ρ lv u := by
    refine ⟨vL.of s1 (fun a ha => uo a (by omega) (by omega) (by omega)), nU, s3.cg (uo _ (by have := v2.2; omega) (by have := v2.2; omega) (by have := v2.2; omega)) (fun i hi => uo _ (by show V.2.1 + 1 + i ≠ x; have := v2.2; omega) (by show V.2.1 + 1 + i ≠ ma; have := v2.2; omega) (by show V.2.1 + 1 + i ≠ va; have := v2.2; omega)), fun u' hu' => ?_, ?_, ⟨cTX_ge G.2.1 s5, e0V⟩, cr, ?_, cr2, cr3⟩
    · obtain ⟨⟨b, fs', c, gs', n1, n2, n3, n4, n5, n6, n7⟩, b', m1, m2⟩ := s4 u' hu'
      rw [n1] at m1
      injection m1 with m1
      subst m1
      rw [ofd_at n3] at m2
      have hb : U.2.1 ≤ b := by
        rcases List.mem_append.mp hu' with z | z
        · obtain ⟨q, hq, rfl⟩ := List.mem_map.mp z
          obtain ⟨b', d1, d2⟩ := cIs_nb is 0 v4 q hq
          rw [n1] at d1
          injection d1 with d1
          rw [d1]; exact d2
        · obtain ⟨b', d1, d2⟩ := cTX_nb e 0 _ _ _ _ _ _ (Nat.le_refl _) G.2.1 s5 u' z
          rw [n1] at d1
          injection d1 with d1
          rw [d1]; exact d2
      exact ⟨b, fs', c, gs', n1, hb, n2, (u6 b gs' n3).trans n3, n5, n6, n7, m2⟩
    · exact cTX.imo (lo0 := U.2.1) e _ _ _ _ _ _ (Nat.le_refl _) (fun m u' fs' hm0 hm hx => by
        obtain ⟨c, d1, d2⟩ := hx
        obtain ⟨vv, ev⟩ := s1.1 m fs' hm
        exact ⟨⟨c, (ofd_cg (u7 m _ ev)).trans d1, d2⟩, hm0⟩) s5
    · have := ofd_some cr1
      obtain ⟨fs', ev⟩ := this
      exact (ofd_cg (u7 e0 _ ev)).trans cr1
  have X' : pgX x U.2.1 V.2.1 (cKd (yK ((mE f pp ee e (is.map Prod.fst) (mIn is mI0)).2 α))) u := by
    rw [← cr3]
    exact ⟨_, _, ma, ux, by simp only [List.length_set]; exact lU, by simp [List.getElem?_set, lU], by simp [List.getElem?_set, lU], by rw [List.getElem?_set_ne (by decide), List.getElem?_set_ne (by decide)]; exact f12U, um, by simp only [List.length_set]; exact lm1, by simp [List.getElem?_set, lm1], by simp [List.getElem?_set, lm1]⟩
  have R' : pgR T len cnt kk pp ee f xs is e α N S P A x0 g' ρ' w := by
    have nEk : nE w e 0 x0 = nE τ'' e 0 x0 := nE_keep (V := τ'') (fun k a => by rw [wr]) e 0 x0
    refine ⟨w66, t1.keep (fun k hk => wf1 k (by omega)) (fun k _ _ _ _ => by rw [wr]), ?_, fun p hp ht => ?_, fun jj u' hj => ?_⟩
    · obtain ⟨⟨k, ⟨a1, a2⟩, ⟨a3, a4⟩, a5⟩, a6⟩ := t2
      exact ⟨⟨k, ⟨(wf1 59 (by decide)).trans a1, a2⟩, ⟨(wf1 60 (by decide)).trans a3, a4⟩, by rw [wr]; exact a5⟩, a6⟩
    · rw [nEk] at hp
      obtain ⟨c, d1, d2⟩ := t3 p hp ht
      exact ⟨c, by rw [wr]; exact d1, d2⟩
    · obtain ⟨c, d1, d2⟩ := t4 jj u' hj
      exact ⟨c, by rw [wr]; exact d1, d2⟩
  have rows : ∀ i b, i < 6 → gr i = some b → ∃ h, u.1 b = some (.inl (.int, 1000, .inl h)) := fun i b hi e => by
    obtain ⟨hh, e1⟩ := M9 i b hi e
    exact ⟨hh, (uk b (alt hfr e1) (fun z => by rw [z, fs0] at e1; cases e1) (fun z => by rw [z, fm0'] at e1; cases e1) (fun z => by rw [z, M7] at e1; cases e1) (fun _ z => by rw [e1] at z; cases z) (fun _ z => by rw [e1] at z; cases z)).trans e1⟩
  have Mv : lMv x u ma va ra ((fm1.set 0 (.ref U.2.1)).set 1 (.int (cKd (yK (ρ cr))))) (fun i => if 0 ≤ i ∧ i < 6 then 0 else fv i) gr := by
    refine ⟨⟨_, ux, by rw [List.getElem?_set_ne (by decide), List.getElem?_set_ne (by decide)]; exact f12U⟩, ⟨um, by simp only [List.length_set]; exact lm1, ?_, ?_⟩, uv, (uk ra raσ rax ram rav (fun _ z => by rw [M8] at z; cases z) (fun _ z => by rw [M8] at z; cases z)).trans M8, rows, M10⟩
    · rw [← hfm1]; simpa [List.getElem?_set] using M5
    · rw [← hfm1]; simpa [List.getElem?_set] using M6
  have Gv : lGv is u w (fun i => if 0 ≤ i ∧ i < 6 then 0 else fv i) gr := by
    have is6 : is.length ≤ 6 := G.1.1
    refine ⟨fun i hi => ?_, fun i y' hi _ => ?_⟩
    · rw [b6 i (Nat.zero_le _) hi]
      exact if_pos ⟨Nat.zero_le _, hi⟩
    · have hi6 : i < 6 := by
        by_cases z : i < is.length
        · omega
        · rw [List.getElem?_eq_none (by omega)] at hi; cases hi
      have e0' : (if 0 ≤ i ∧ i < 6 then (0 : Int64) else fv i) = 0 := if_pos ⟨Nat.zero_le _, hi6⟩
      have e1' : (0 : Int64).toInt = 0 := by decide
      show ((0 ≤ (if 0 ≤ i ∧ i < 6 then (0 : Int64) else fv i).toInt ∧ (if 0 ≤ i ∧ i < 6 then (0 : Int64) else fv i).toInt ≤ 1000) ∧ ∀ k : Nat, (k : Int) < (if 0 ≤ i ∧ i < 6 then (0 : Int64) else fv i).toInt → _)
      rw [e0', e1']
      exact ⟨⟨by omega, by omega⟩, fun k hk => by omega⟩
  exact ⟨u, w, lcpI_ok (r := 0) C0 R0, kp, Or.inr ⟨⟨⟨len, cnt, j, kk, pp, ee, f, fc, xs, is, e, α, σ.2.1, U.2.1, pA w0 r v ka pa ea U.2.1, V, D, at2, cd', am2, nm, e0, fb, fr, fz, fn, g, ρ, lv, N, S, P, A, x0, g', ρ'⟩, ⟨T', V', ⟨⟨w0, r, v, ka, pa, ea, rfl⟩, hsz, xσ, hta⟩, S', X', R', ma, va, ra, _, _, gr, Mv, Gv, ⟨mσ, vaσ, raσ, by rw [u2, s7]; exact Nat.le_refl _⟩, fun i b hi e => Or.inl (by obtain ⟨hh, e1⟩ := M9 i b hi e; exact alt hfr e1)⟩, rfl, rfl, by rw [u2]; exact room3, by rw [u2]; exact room2⟩, ko, (wf1 67 (by decide)).trans z9⟩⟩
end LOK
