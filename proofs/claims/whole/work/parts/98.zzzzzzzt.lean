/-! compile() of both behind forms -/
/-- all types are the least that can be -/
def mCa (f pp ee : Nat → Int32) (is : List (Nat × Nat)) (e : tT) (α : Nat → tY) : Prop := mCn (mEnd f pp ee is e) α (mE f pp ee e (is.map Prod.fst) (mIn is mI0)).2 ∧ (∀ u, u ∈ tTg e → mCn (mEnd f pp ee is e) α ((mEnd f pp ee is e).2.2.2.1 u)) ∧ ∀ u, u ∈ is.map Prod.fst ++ tW e → mCn (mEnd f pp ee is e) α ((mEnd f pp ee is e).2.2.1 u)
/-- compile() of the class behind blameForm: p the parser, y the typer -/
def cT5 (call : oCl) (x0 : Option Nat) (p y : Nat) (s77 : oSt) : oRs :=
  obn (ovi (ofd s77 (some p) 9 17)) fun v80 =>
  if v80 < 0 then
    obn (opf s77 x0 14 2 (va_rf (some p))) fun s83 =>
    obn (opf s83 x0 14 3 (va_rf (some y))) fun s85 =>
    obn (ovr (ofd s85 x0 14 12)) fun v87 =>
    obn (ovr (ofd s85 (some p) 9 10)) fun v89 =>
    obn (ovi (ofd s85 v89 7 8)) fun v91 =>
    obn (oob s85 (some y) 12) fun a93 =>
    oin (call 22 [va_rf (some y), .int v91] s85) fun r97 s95 =>
    obn (oob s95 v87 5) fun a98 =>
    ocv (call 73 [va_rf v87, va_rf (some p), .int r97] s95) fun s100 =>
    some (some (.int 0), s100)
  else
    obn (ovi (ofd s77 (some p) 9 17)) fun v103 =>
    obn (oob s77 x0 14) fun a105 =>
    oin (call 177 [va_rf x0, .int 5, .int v103] s77) fun r109 s107 =>
    some (some (.int r109), s107)
/-- where the lists of NAMES and functions lie -/
theorem c_pdt {κ : oKv} {sz T m len cnt w r v ka pa ea : Nat} {kk pp ee f : Nat → Int32} {U P V : oSt} {D : cDt} {nq ni : Int32} {rt : Value} {at' cd : Nat} {cn am bd nf ff : Int32} (h : cWs κ sz len cnt kk pp ee f w r v ka pa ea U) (hm : 231 ≤ m) (hT : 2010 ≤ T) (e1 : oF κ T m 103 [va_rf (some U.2.1), va_rf (some w)] (onew U (.inr (9, odef 9)) (oq 9).2.2) = some (none, P)) (e2 : oF κ T m 145 [va_rf (some U.2.1)] P = some (none, V)) (hV : cV κ sz len cnt kk pp ee f (pA w r v ka pa ea U.2.1) nq ni rt V D at' cd cn am bd nf ff) : (U.2.1 ≤ D.1.1 ∨ D.1.1 = κ.2.2.1) ∧ (U.2.1 ≤ D.1.2.1 ∨ D.1.2.1 = κ.2.2.1) := by
  obtain ⟨⟨hfr, hlow, hsz, hκ⟩, ⟨hw, ht, hk, hp, he⟩, hc, hwd, hwl, hnz⟩ := h
  obtain ⟨P', a1, a2, a3, a4, a5⟩ := c_pinit (κ := κ) (T := T) (m := m) hfr hlow hsz hκ hw ht hk hp he hc hwd (by omega)
  rw [e1] at a1
  injection a1 with a1; injection a1 with _ a1
  subst a1
  obtain ⟨m1, hm1⟩ : ∃ m1, m = m1 + 1 := ⟨m - 1, by omega⟩
  obtain ⟨V', D', at2, am2, bd2, nf2, ff2, nm', q', n', cd', e, fb', fr', fz', fn', b1, b2, b3, ⟨b4, b5, b6, b7⟩, -⟩ := c_program (κ := κ) (T := T) (m := m1) (by omega) hT hwl hnz a2 rfl a3 (fun _ => ⟨rfl, rfl⟩)
  rw [← hm1] at b1
  have b1 : oF κ T m 145 [va_rf (some U.2.1)] P = some (none, V') := b1
  rw [e2] at b1
  injection b1 with b1; injection b1 with _ b1
  subst b1
  have p1 : P.2.1 = U.2.1 + 8 := by rw [a5]
  obtain ⟨mc, l1⟩ := hV.1.2.2.2.1.1
  obtain ⟨mc', l1'⟩ := b2.1.2.2.2.1.1
  obtain ⟨mc2, l2⟩ := hV.1.2.2.2.1.2.1
  obtain ⟨mc2', l2'⟩ := b2.1.2.2.2.1.2.1
  have d1 := l1.1.symm.trans l1'.1
  have d2 := l2.1.symm.trans l2'.1
  injection d1 with d1; injection d1 with d1; injection d1 with _ d1; injection d1 with _ d1; injection d1 with d1 _; injection d1 with d1
  injection d2 with d2; injection d2 with d2; injection d2 with _ d2; injection d2 with _ d2; injection d2 with d2 _; injection d2 with d2
  rw [d1, d2]
  exact ⟨b6.elim (fun z => Or.inr z) (fun z => Or.inl (by omega)), b7.elim (fun z => Or.inr z) (fun z => Or.inl (by omega))⟩
section LMD
variable {κ : oKv} {ks : Nat → Nat} {qs : List Nat} {T n n' x y sz len cnt k0 j : Nat} {a : Nat → Int32} {σ : oSt} {τ : zSt} {R : wRes} {kk pp ee f : Nat → Int32} {xs : List tQ} {is : List (Nat × Nat)} {e : tT}
set_option maxHeartbeats 4000000 in
theorem lr_mid (hf : lFacts κ ks sz) (hκ : κ.2.2.1 < sz) (hR : oRm sz σ) (hT : 500000 ≤ T) (h : lRel x σ τ) (h45 : τ.1 45 = 0) (h60 : τ.1 60 = nI k0) (hk0 : k0 + 9002 < 2 ^ 30) (h3 : τ.1 3 = nI len) (hlen : len ≤ 2000) (hn : 1640 ≤ n') (eR : wLex T len (fun j => (rT τ len).2.2.1 1 j &&& 255) T 0 (fun _ => 0) (fun _ => 0) (fun _ => 0) 0 = R) (hok : R.2.2.2.2 = -1) (hkk : R.1 = kk) (hpp : upd R.2.1 R.2.2.2.1 (nI len) = pp) (hee : upd R.2.2.1 R.2.2.2.1 (nI len) = ee) (hcn : R.2.2.2.1 = cnt) (hf1 : (rT τ len).2.2.1 1 = f) (hP : aPr kk T cnt = .inr ((xs, is, e), j)) (hN : (nT f pp ee e (nIn f pp ee is ([], [], none))).2.2 = none) (hY : mSat (mEnd f pp ee is e).1) :
    ∃ (U : oSt) (fs fm : List Value) (ma w0 r v ka pa ea : Nat) (fc : Nat → Int32) (V : oSt) (D : cDt) (at2 : Nat) (am2 : Int32) (cd' : Nat) (nm : Nat → Option Nat) (e0 : Nat) (fb fr fz fn : Nat → Int32) (σ4 : oSt) (g : gG) (ρ : Nat → tY) (α : Nat → tY) (lv : Int32) (τ' τ'' : zSt) (N S P A x0 : Nat) (g' : gG) (ρ' : Nat → tY) (pl : Int32),
    ((vP pl ∧ pl = fMin (fE f pp ee e (is.map Prod.fst) 0 (-1)) (tOv pp (fun u => (mEnd f pp ee is e).2.2.2.1 u α) (fun u => (mEnd f pp ee is e).2.2.1 u α) e (0, -1)).2 ∧ mAll (mEnd f pp ee is e).1 α) ∧ (wFx len R ∧ pG kk pp cnt is e ∧ tGd kk cnt e ∧ tH e ≤ 31 ∧ rEv (is.map Prod.fst ++ tW e) e (is.map Prod.fst))) ∧
    (oF κ T (n + 331) 178 [va_rf (some x)] σ = cT5 (oF κ T (n + 330)) (some x) U.2.1 V.2.1 (oput σ4 U.2.1 (.inr (9, (cPs (pA w0 r v ka pa ea U.2.1) (nI xs.length) (nI is.length) (.ref e0) at2 cd' 0 am2 (-1) (-1) (fE fc pp ee e (is.map Prod.fst) 0 (-1))).set 17 (.int pl)))) ∧ cWs κ sz len cnt kk pp ee fc w0 r v ka pa ea U ∧ (∀ j, j < len → fc j = f j) ∧ (σ.1 x = some (.inr (14, fs)) ∧ σ.1 ma = some (.inr (5, fm)) ∧ fs.length = 13 ∧ fs[12]? = some (.ref ma) ∧ ma ≠ x ∧ 17 < fm.length) ∧ (U.1 x = some (.inr (14, ((((fs.set 1 (.int 0)).set 2 .null).set 3 .null).set 4 .null).set 5 (.int (-1)))) ∧ U.1 ma = some (.inr (5, (fm.set 0 .null).set 16 (.long 0))) ∧ (∀ p, p < σ.2.1 → p ≠ x → p ≠ ma → U.1 p = σ.1 p) ∧ σ.2.1 ≤ U.2.1)) ∧
    (cV κ sz len cnt kk pp ee fc (pA w0 r v ka pa ea U.2.1) (nI xs.length) (nI is.length) (.ref e0) V D at2 cd' 0 am2 (-1) (-1) (fE fc pp ee e (is.map Prod.fst) 0 (-1)) ∧ ((∀ a, a < U.2.1 → V.1 a = U.1 a) ∧ U.2.1 < V.2.1) ∧ (cRw (pA w0 r v ka pa ea U.2.1) V fb fr fz fn ∧ ∀ k x, xs[k]? = some x → fb k = bCd x.1 ∧ fr k = rCd x.2.1 ∧ fz k = zSr x.2.2 ∧ fn k = zNu T fc pp ee x.2.2.2.2) ∧ cIs (pA w0 r v ka pa ea U.2.1) D U.2.1 V nm is 0 ∧ D.1.2.2.2.2.1 = (is.map Prod.fst ++ tW e).length ∧ (∀ k u, (is.map Prod.fst ++ tW e)[k]? = some u → D.2.1 k = nm u) ∧ D.1.2.2.2.2.2 = nF e ∧ (U.2.1 ≤ D.1.1 ∨ D.1.1 = κ.2.2.1) ∧ (U.2.1 ≤ D.1.2.1 ∨ D.1.2.1 = κ.2.2.1) ∧ ∀ u, u ∈ is.map Prod.fst ++ tW e → ∃ b, nm u = some b ∧ cNc pp ee fc V b u) ∧
    (vK V σ4 ∧ wH κ T (4 * cnt + 8) V.2.1 cnt (fun i => V.2.1 + 1 + i) V nm pp (is.map Prod.fst ++ tW e) ∧ yTf V.2.1 (fun i => V.2.1 + 1 + i) (4 * cnt + 8) g ρ lv (tOv pp (fun u => (mEnd f pp ee is e).2.2.2.1 u α) (fun u => (mEnd f pp ee is e).2.2.1 u α) e (0, -1)).2 σ4 ∧ (∀ u, u ∈ is.map Prod.fst ++ tW e → nK V nm g ρ (fun u => (mEnd f pp ee is e).2.2.1 u α) σ4 u ∧ ∃ b, nm u = some b ∧ ofd σ4 (some b) 6 3 = some (.int (cKd (yK ((mEnd f pp ee is e).2.2.1 u α))))) ∧ cTX κ T kk pp ee fc (pA w0 r v ka pa ea U.2.1) D (eXw σ4 g ρ (fun u => (mEnd f pp ee is e).2.2.2.1 u α)) U.2.1 V nm e (is.map Prod.fst) 0 (fun _ => none) 0 e0 ∧ (∃ c, ofd σ4 (some e0) 7 8 = some (.int (nI c)) ∧ c < g.n ∧ ρ c = (mE f pp ee e (is.map Prod.fst) (mIn is mI0)).2 α ∧ mCa f pp ee is e α) ∧ σ4.2 = (V.2.1 + 7, V.2.2.1 + 7, V.2.2.2 + 74 + 32 * cnt) ∧ (8 * V.2.2.1 + (sv e + (1680 * xs.length + 1200 * is.length)) ≤ 8 * σ.2.2.1 + 552 + 240 * cnt ∧ (V.2.2.2 ≤ σ.2.2.2 + 635 + 5 * len + 256 * cnt ∧ V.2.2.2 + (sv e + (1680 * xs.length + 1200 * is.length)) ≤ σ.2.2.2 + 635 + 5 * len + 240 * cnt + 8 * (is.map Prod.fst ++ tW e).length + 8 * nF e))) ∧
    (zF y qs ks T (n' + 135) 65 [.ref y] τ = zcv (if τ''.1 52 < 0 then some (none, τ'') else zcv (zF y qs ks T (n' + 133) 3 [.ref y, .int 5, .int (τ''.1 52)] τ'') fun s11 => some (none, s11)) (fun s => j_compile_92 T (zF y qs ks T (n' + 134)) y qs ks s) ∧ τ''.1 52 = pl ∧ τ''.1 11 = 0 ∧ ((τ''.1 3 = 0 ∧ τ''.1 5 = τ.1 5 ∧ τ''.1 163 = 0 ∧ τ''.1 165 = τ.1 165 ∧ τ''.1 66 = 0 ∧ τ''.1 67 = 0 ∧ τ''.1 69 = -1) ∧ (∀ k, k ≠ 64 → τ''.2.1 k = τ.2.1 k) ∧ (∀ j, τ''.2.2.1 2 j = τ.2.2.1 2 j) ∧ τ''.2.2.2 = τ.2.2.2) ∧ (∃ k, τ''.1 60 = nI k ∧ k ≤ k0 + 9001)) ∧
    (rPo T len cnt kk pp ee f xs is e N S P A x0 τ'' ∧ rTf τ'' g' ρ' ∧ (∀ p, p ∈ nE τ'' e 0 x0 → p.2 ∈ tTg e → nC τ'' g' ρ' (fun u => (mEnd f pp ee is e).2.2.2.1 u α) p) ∧ (∀ j u, (is.map Prod.fst ++ tW e)[j]? = some u → ∃ c, τ''.2.2.1 31 j = nI c ∧ c < g'.n ∧ ρ' c = (mEnd f pp ee is e).2.2.1 u α)) := by
  obtain ⟨U, fs, fm, ma, w0, r, v, ka, pa, ea, fc, hC, hW, hfc, hx1, ⟨xU, mU, rU, nU⟩, ⟨c1, c2⟩⟩ := lr_pre (n := n + 321) hf hκ hR (by omega) h h3 hlen eR hok
  obtain ⟨τ', N, S, P, A, x0, d1, ⟨⟨d2, d3, d4, d5, d6, d7, d8, d9⟩, d10, d11, d12⟩, W, G, Po, d13, d14⟩ := r_upT (h0 := y) (qs := qs) (n := n') hf (by omega) h3 hlen h45 h60 hk0 eR hok hn (by rw [hkk, hcn]; exact hP) (by rw [hf1, hpp, hee]; exact hN)
  have W' := W
  obtain ⟨W1, W2, W3, W4, W5⟩ := W
  rw [hpp] at W2 W5
  rw [hee] at W2 W4
  rw [hcn] at W1 W2 W3 W5
  rw [hkk] at W3
  rw [hkk, hpp, hcn] at G
  rw [hkk, hpp, hee, hcn, hf1] at Po
  rw [hpp, hee, hf1] at d14
  rw [hkk, hpp, hee, hcn] at hW
  rw [hf1] at hfc
  have hN' := (nT_cg (len := len) (pp := pp) W4 hfc is e).trans hN
  have hinj : ∀ u v, u < cnt → v < cnt → pp u = pp v → u = v := fun u v hu hv e => by
    rcases Nat.lt_trichotomy u v with c | c | c
    · have := W5 u v c hv
      rw [e, Int32.lt_iff_toInt_lt] at this
      omega
    · exact c
    · have := W5 v u c hu
      rw [e, Int32.lt_iff_toInt_lt] at this
      omega
  obtain ⟨P1, V, D, at2, am2, cd', nm, e0, fb, fr, fz, fn, σ1, σ2, g, Tt, b1, b2, b3, v1, ⟨j1, j2⟩, rws, ⟨g1, g2⟩, ⟨i1, i2, i3, i4, i5, i5t⟩, t1, t2, old, s2, hH, cx, nms, rt, X2, fl, hfl, fa⟩ := c_upT (κ := κ) (m := n + 321 + 9) hW (by omega) (by omega) hP G hinj W2.2 hN'
  have hDt := c_pdt hW (by omega) (by omega) b1 b3 v1
  have nf := nFind_cg (pp := pp) W4 hfc
  have em : mEnd fc pp ee is e = mEnd f pp ee is e := by
    unfold mEnd
    rw [mE_cg nf]
  rw [em] at cx nms rt X2
  rw [mE_cg nf] at rt
  have hgd := aPr_gd (by omega) hP
  obtain ⟨p1, p2, ⟨p3, p4⟩, p5, p6, p7, p8⟩ := aPr_rd W3 (gW_of (by omega) Po.1 W2 W3) hP
  have p8' : 3 * (tW e).length + 1 ≤ len := by
    have e : gL pp cnt len cnt = len := if_neg (by omega)
    rw [e] at p8
    exact p8
  have L7 : (is.map Prod.fst ++ tW e).length ≤ 700 := by rw [List.length_append, List.length_map]; omega
  have nd := G.2.2.2.2.2.1
  obtain ⟨nI', nE', nIE⟩ := List.nodup_append.mp nd
  have Lnd : (is.map Prod.fst ++ tW e).Nodup := List.nodup_append.mpr ⟨nI', nE'.sublist (tW_sub e), fun u hu w hw z => nIE u hu w (tW_ev e w hw) z⟩
  have hev := nm_ev p3 hgd hN
  -- the reference
  rcases d14 with ⟨-, f2, g', T', k', r1, r2, r3, r4, r5, r6, r7⟩ | ⟨pl, q1, -⟩
  rotate_left
  · exact absurd hY q1.no
  obtain ⟨τ'', ρ', α', u1, u2, u3, u4, u5, u6, u7, u8, u9⟩ := r_upF (h0 := y) (qs := qs) (ks := ks) (n := n' + 133) (by omega) hlen W1 W2.2 G hgd p6 L7 Po hev d9 hY ⟨k', r1⟩ r2 r3 r4 r5 r6 r7 (by omega)
  -- the class
  have hfl' : fl = -1 := by
    rcases cx.1.2 with ⟨-, F', y1, -⟩ | ⟨pl', c, F', q1, -⟩
    · rw [ofd_at y1.1] at hfl
      have hfl : some (Value.int (-1)) = some (.int fl) := hfl
      injection hfl with hfl
      injection hfl with hfl
      exact hfl.symm
    · exact absurd hY q1.no
  rw [hfl', if_pos (by decide)] at fa
  obtain ⟨mc, hls⟩ := v1.1.2.2.2.1.1
  have vp : V.1 U.2.1 = some (.inr (9, cPs (pA w0 r v ka pa ea U.2.1) (nI xs.length) (nI is.length) (.ref e0) at2 cd' 0 am2 (-1) (-1) (fE fc pp ee e (is.map Prod.fst) 0 (-1)))) := v1.2.1
  have h3n : ∀ u, u ∈ is.map Prod.fst ++ tW e → ∃ b fs, nm u = some b ∧ V.1 b = some (.inr (6, fs)) ∧ 3 < fs.length := fun u hu => by
    rcases List.mem_append.mp hu with hu | hu
    · obtain ⟨z, hz, rfl⟩ := List.mem_map.mp hu
      obtain ⟨b, q, k, e1, e2⟩ := cIs_nm is 0 i1 z hz
      exact ⟨b, _, e1, e2, by show 3 < 8; omega⟩
    · obtain ⟨b, q, k, e1, e2⟩ := cTr_nm e 0 _ _ _ _ _ _ p5 i2 u hu
      exact ⟨b, _, e1, e2, by show 3 < 8; omega⟩
  rw [i3] at hls
  obtain ⟨i0, rg⟩ := G.2.2.1
  obtain ⟨σ4, ρ, α, lv, q1, q2, q3, q4, q5, q6, q7, q8, q9, q10, q11⟩ := c_upF (n := n + 326) hT hH cx hY nms h3n X2 p5 hgd G.2.2.2.1.2.2 rg (by omega) (fun u hu => List.mem_append_right _ hu) vp rfl rfl hls i4 (by omega) Lnd (by omega)
  -- the same types
  have eE : ∀ u, u ∈ tTg e → (mEnd f pp ee is e).2.2.2.1 u α' = (mEnd f pp ee is e).2.2.2.1 u α := fun u hu => mCn.uq u4 q4 (u5 u hu) (q5 u hu)
  have eN : ∀ u, u ∈ is.map Prod.fst ++ tW e → (mEnd f pp ee is e).2.2.1 u α' = (mEnd f pp ee is e).2.2.1 u α := fun u hu => mCn.uq u4 q4 (u6 u hu) (q6 u hu)
  have eO : tOv pp (fun u => (mEnd f pp ee is e).2.2.2.1 u α') (fun u => (mEnd f pp ee is e).2.2.1 u α') e (0, -1) = tOv pp (fun u => (mEnd f pp ee is e).2.2.2.1 u α) (fun u => (mEnd f pp ee is e).2.2.1 u α) e (0, -1) := tOv_cg e (0, -1) hgd eE (fun u hu => eN u (List.mem_append_right _ hu))
  rw [eO] at u3
  have eF : fE fc pp ee e (is.map Prod.fst) 0 (-1) = fE f pp ee e (is.map Prod.fst) 0 (-1) := fE_cg nf e _ _ _
  have vpO := (rFo_eq (f := f) (ee := ee) (tE := fun u => (mEnd f pp ee is e).2.2.2.1 u α) (tN := fun u => (mEnd f pp ee is e).2.2.1 u α) W2.2 e (is.map Prod.fst) 0 0 (-1) (-1) hgd ⟨Or.inl rfl, Or.inl rfl, fun _ => rfl⟩).2
  -- the parser's object in σ4
  have vp4 : σ4.1 U.2.1 = some (.inr (9, cPs (pA w0 r v ka pa ea U.2.1) (nI xs.length) (nI is.length) (.ref e0) at2 cd' 0 am2 (-1) (-1) (fE fc pp ee e (is.map Prod.fst) 0 (-1)))) := (q2.2.2.1 U.2.1 (q2.lt vp) (fun fs z => by rw [vp] at z; cases z) (fun fs z => by rw [vp] at z; cases z)).trans vp
  have bl := c_blm (κ := κ) (T := T) (n := n + 321 + 8) (x := (tOv pp (fun u => (mEnd f pp ee is e).2.2.2.1 u α) (fun u => (mEnd f pp ee is e).2.2.1 u α) e (0, -1)).2) vp4 (by show 17 < 18; omega) rfl
  rw [eF] at bl
  have hw0 := hW.2.1.1
  have hw0V : V.1 w0 = some (.inr (13, [.ref r, .ref ka, .ref pa, .ref ea, .int (nI cnt), .int (-1)])) := (j1 w0 (alt hW.1.1 hw0)).trans hw0
  have fw : ofd U (some w0) 13 5 = some (.int (-1)) := by rw [ofd_at hw0]; rfl
  have f15 : ofd V (some U.2.1) 9 15 = some (.int (-1)) := by rw [ofd_at vp]; rfl
  have f16 : ofd V (some U.2.1) 9 16 = some (.int (-1)) := by rw [ofd_at vp]; rfl
  have h134 : ofd (onew V (.inr (12, odef 12)) (oq 12).2.2) (some w0) 13 4 = some (.int (nI cnt)) := by
    rw [ofd_at ((onew_ne (fun z => by rw [z] at hw0V; rw [v1.1.1.1 V.2.1 (Nat.le_refl _)] at hw0V; cases hw0V)).trans hw0V)]
    rfl
  have f8 : ofd σ4 (some V.2.1) 12 8 = some (.int (-1)) := by
    obtain ⟨F, hF, -⟩ := q3
    rw [ofd_at hF.1]
    rfl
  have fa' : oF κ T (n + 321 + 9) 162 [va_rf (some V.2.1), va_rf (some U.2.1)] σ1 = some (none, σ4) := by
    rw [fa]
    exact q1
  have C5 : cD (oF κ T (n + 321 + 9)) (some x) w0 U = cT5 (oF κ T (n + 330)) (some x) U.2.1 V.2.1 (oput σ4 U.2.1 (.inr (9, (cPs (pA w0 r v ka pa ea U.2.1) (nI xs.length) (nI is.length) (.ref e0) at2 cd' 0 am2 (-1) (-1) (fE fc pp ee e (is.map Prod.fst) 0 (-1))).set 17 (.int (fMin (fE f pp ee e (is.map Prod.fst) 0 (-1)) (tOv pp (fun u => (mEnd f pp ee is e).2.2.2.1 u α) (fun u => (mEnd f pp ee is e).2.2.1 u α) e (0, -1)).2))))) := by
    unfold cD
    rw [fw, ovi_i, obn_at, if_pos (show (-1 : Int32) < 0 by decide), olet_at, obn_at, b1, ocv_at, b2, obn_at, b3, ocv_at, f15, ovi_i, obn_at, if_pos (show (-1 : Int32) < 0 by decide), f16, ovi_i, obn_at, if_pos (show (-1 : Int32) < 0 by decide), olet_at, h134, ovi_i, obn_at, obn_at, t1, ocv_at, t2, obn_at, fa', ocv_at, f8, ovi_i, obn_at, if_pos (show (-1 : Int32) < 0 by decide), q3.f7.2.1, ovi_i, obn_at, oob_at vp4, obn_at]
    rw [show n + 321 + 9 = (n + 321 + 8) + 1 from rfl, bl, ocv_at, ← eF]
    rfl
  rw [C5] at hC
  have h43 : (zI τ' 65 0).1 43 = nI x0 := (zIn _ _ (by decide)).trans Po.2.1.2.2.1
  have fk : ∀ k, k ≠ 52 → k ≠ 63 → k ≠ 65 → τ''.1 k = τ'.1 k := fun k a b c => (u2.1 k a b c).trans (zIn _ _ c)
  have R5 : zF y qs ks T (n' + 135) 65 [.ref y] τ = zcv (if τ''.1 52 < 0 then some (none, τ'') else zcv (zF y qs ks T (n' + 133) 3 [.ref y, .int 5, .int (τ''.1 52)] τ'') fun s11 => some (none, s11)) (fun s => j_compile_92 T (zF y qs ks T (n' + 134)) y qs ks s) := by
    rw [d1, if_pos f2]
    unfold rK3
    simp only [zlet]
    rw [h43, u1, zcv_at]
  have PoK : rPo T len cnt kk pp ee f xs is e N S P A x0 τ'' := Po.keep (fun k hk => fk k (by omega) (by omega) (by omega)) (fun k a b c d => u2.2.2.1 k (by omega) (by omega))
  have nEk : nE τ'' e 0 x0 = nE τ' e 0 x0 := nE_keep (V := τ') (fun k a => u2.2.2.1 k (by omega) (by omega)) e 0 x0
  obtain ⟨kk', kk1, kk2⟩ := d13
  have rt' := rt hY
  obtain ⟨cr, cr1, cr2⟩ := rt'
  obtain ⟨fe0, he0, -⟩ := cTr_pl p5 rg i2
  refine ⟨U, fs, fm, ma, w0, r, v, ka, pa, ea, fc, V, D, at2, am2, cd', nm, e0, fb, fr, fz, fn, σ4, g, ρ, α, lv, τ', τ'', N, S, P, A, x0, g', ρ', _, ⟨⟨fMin_vP vpO.1 vpO.2.1, rfl, q4⟩, W', G, hgd, p6, hev⟩, ⟨hC, hW, hfc, hx1, xU, mU, rU, nU⟩, ⟨v1, ⟨j1, by have := q2.lt vp; exact this⟩, rws, i1, i3, i4, i5, hDt.1, hDt.2, i5t⟩, ⟨q2, hH, q3, q7, q8, ⟨cr, (ofd_cg (q9 e0 fe0 he0)).trans cr1, cr2.1, (q11 cr _ cr2).2, (q11 cr _ cr2).1, q5, q6⟩, q10.trans s2, by omega, by omega⟩, ⟨R5, u3, (fk 11 (by decide) (by decide) (by decide)).trans f2, ⟨⟨(fk 3 (by decide) (by decide) (by decide)).trans d2, (fk 5 (by decide) (by decide) (by decide)).trans d3, (fk 163 (by decide) (by decide) (by decide)).trans d4, (fk 165 (by decide) (by decide) (by decide)).trans d5, (fk 66 (by decide) (by decide) (by decide)).trans d6, (fk 67 (by decide) (by decide) (by decide)).trans d7, (fk 69 (by decide) (by decide) (by decide)).trans d8⟩, fun k hk => (u2.2.1 k hk).trans (congrFun d10 k), fun j => (congrFun (u2.2.2.1 2 (by decide) (by decide)) j).trans (d11 j), u2.2.2.2.trans d12⟩, kk', (fk 60 (by decide) (by decide) (by decide)).trans kk1, kk2⟩, PoK, u7, fun p hp ht => ?_, fun j u hj => ?_⟩
  · obtain ⟨c, z1, z2, z3⟩ := u8 p (by rw [← nEk]; exact hp)
    exact ⟨c, z1, z2, z3.trans (eE p.2 ht)⟩
  · obtain ⟨c, z1, z2, z3⟩ := u9 j u hj
    exact ⟨c, z1, z2, z3.trans (eN u (List.mem_of_getElem? hj))⟩
end LMD
