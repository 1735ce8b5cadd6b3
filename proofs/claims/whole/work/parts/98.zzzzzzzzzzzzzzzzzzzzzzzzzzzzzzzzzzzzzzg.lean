/-! one step of a script: type() of a PROGRAM, both sides -/
section LZT
variable {κ : oKv} {ks : Nat → Nat} {qs : List Nat} {T n n' x y sz K b0 jd o ol hl : Nat} {dq : Nat × Nat × Nat} {Qo : Option pgQt} {Kc : Int} {a : Nat → Int32} {σ u : oSt} {τ v : zSt}
theorem oLs_of {x d cap len : Nat} {mc : Int32} {g : Nat → Option Nat} (e1 : σ.1 x = some (.inr (1, [.int mc, .ref d, .int (nI len)]))) (e2 : len = 0 ∨ (σ.1 d = some (.inl (.object "java/lang/Object", cap, .inr (.inr (.inr (.inr g))))) ∧ len ≤ cap)) (hl : len < 2 ^ 31) : oLs σ (some x) len g := by
  refine ⟨x, d, oob_at e1, by rw [ofd_at e1]; rfl, by rw [ofd_at e1]; rfl, hl, fun j hj => ?_⟩
  rcases e2 with z | ⟨z, z2⟩
  · omega
  · unfold oar
    have zi : zin (nI j) cap = true := decide_eq_true ⟨by rw [nI_toInt (by omega)]; omega, by rw [nI_toInt (by omega)]; omega⟩
    simp only [z, zi, if_true, nI_clamp (show j < 2 ^ 31 by omega)]
theorem zTf_of {gn : gN → Nat} {Nm : gN → Prop} {s : tPs} {τ2 : zSt} (h2 : rTv gn Nm τ s τ2) (h : v = τ2 ∨ rOu τ2 v) : zTf τ v := by
  obtain ⟨-, a1, a2, a3, a4⟩ := h2
  have b1 : ∀ k, k ∉ [5, 138, 139, 141, 158, 160] → τ2.1 k = τ.1 k := fun k hk => by
    simp only [List.mem_cons, List.not_mem_nil, or_false, not_or] at hk
    exact a1 k hk.2.1 hk.2.2.1 hk.2.2.2.1 hk.2.2.2.2.1 hk.2.2.2.2.2
  have b3 : ∀ k, k ∉ [2, 101, 102] → τ2.2.2.1 k = τ.2.2.1 k := fun k hk => by
    simp only [List.mem_cons, List.not_mem_nil, or_false, not_or] at hk
    exact a3 k hk.2.1 hk.2.2
  rcases h with r | ⟨c1, c2, c3, c4⟩
  · rw [r]
    exact ⟨b1, a2, b3, a4⟩
  · refine ⟨fun k hk => (c1 k (fun z => hk (by rw [z]; decide))).trans (b1 k hk), fun k hk => by rw [c2]; exact a2 k hk, fun k hk => (c3 k (fun z => hk (by rw [z]; decide))).trans (b3 k hk), c4.trans a4⟩
set_option maxHeartbeats 2000000 in
/-- **type()** of a PROGRAM -/
theorem lZ_ty {q0 : pgQt} (hf : lFacts κ ks sz) (hκ : κ.2.2.1 < sz) (hT : 500000 ≤ T) (h : lZ κ T sz x K b0 jd o ol Kc hl dq Qo σ τ) (hQo : Qo = some q0) (Z : lZp κ T sz x b0 hl dq q0 σ τ) : ∃ u v dq', lst (oF κ T (n + 1323)) (zF y qs ks T (n' + 1311)) x y a σ τ 5 = some (u, v) ∧ lZ κ T sz x (K + 9001) b0 jd o ol Kc hl dq' Qo u v ∧ (v.1 67 = τ.1 67 ∧ v.1 3 = τ.1 3) ∧ u.2.2.2 + (tPh dq.1 + tPh dq.2.1 + 4 * dq.2.2) ≤ σ.2.2.2 + (tPh dq'.1 + tPh dq'.2.1 + 4 * dq'.2.2) + 3570 ∧ u.2.2.1 + (dq.1 + dq.2.1 + dq.2.2) ≤ σ.2.2.1 + (dq'.1 + dq'.2.1 + dq'.2.2) + 238 := by
  have hh := h
  obtain ⟨⟨h1, h2, h3, ⟨k0, h4, h5⟩, ⟨ma, va, ra, fm, fv, gr, h6⟩⟩, ⟨m1, m2, m3, m4, m5, m6, m7⟩, hb0, -⟩ := h
  obtain ⟨z1, z2, z3, z4, z5, z6, z7⟩ := id Z
  obtain ⟨fs, e1, hc⟩ := id z4
  have hfr := h2.2.1
  have hhi := z1.hi
  have lt : ∀ {q : Nat} {c : oC}, σ.1 q = some c → q < σ.2.1 := fun {q c} z => Nat.lt_of_not_le (fun w => by rw [hfr q w] at z; cases z)
  have zz7 := z7
  have zz6 := z6
  obtain ⟨len, cnt, j, kk, pp, ee, f, fc, xs, is, e, α, lo, p, B, V, D, at2, cd', am2, nm, e0, fb, fr, fz, fn, g, ρ, lv, N, S, P, A, x0, g', ρ'⟩ := q0
  obtain ⟨hp, hV, ⟨⟨w0, r0, v0, ka, pa, ea, hB⟩, hlo, hxl, ta0, hta, htl⟩, hS, hX, hRf, -⟩ := id z1
  obtain ⟨fs2, fm2, ma2, x1, x2, x3, -⟩ := hX
  rw [e1] at x1
  injection x1 with x1; injection x1 with x1; injection x1 with _ x1
  subst x1
  rcases hc with ⟨f4, h67, -⟩ | ⟨c, cf, f4, ec, ec9, h67, h68⟩
  · exact ⟨σ, τ, dq, ty_67 (n := n + 1322) (n' := n' + 1310) e1 x3 f4 h67, hh.up (by omega), ⟨rfl, rfl⟩, by omega, by omega⟩
  -- the list of told NAMES
  subst hB
  have hlp : lo ≤ p := hS.2.1
  have hpV : p < V.2.1 := hV.2.1
  have v3 := hS.1.2.2.1
  obtain ⟨mc8, hls⟩ := hV.1.1.2.2.2.1.1
  rw [hV.2.2.2.2.1] at hls
  have hp9 := v3 (pA w0 r0 v0 ka pa ea p 0) _ hlp hV.1.2.1 (fun _ z => by injection z with z; injection z with z _; exact absurd z (by decide)) (fun _ z => by injection z with z; injection z with z _; exact absurd z (by decide)) (fun k fs z => by injection z with z; injection z with z _; rw [← z]; decide) (fun _ z => by cases z)
  have hp9 : σ.1 p = _ := hp9
  have hl8 : σ.1 (p + 2) = some (.inr (1, [.int mc8, .ref D.1.1, .int (nI (is.map Prod.fst ++ tW e).length)])) := v3 (p + 2) _ (by omega) hls.1 (fun _ z => by injection z with z; injection z with z _; exact absurd z (by decide)) (fun _ z => by injection z with z; injection z with z _; exact absurd z (by decide)) (fun k fs z => by injection z with z; injection z with z _; rw [← z]; decide) (fun _ z => by cases z)
  have nu := tx_rn (by omega) hp hRf.2.1
  have L7 := nu.1
  have hκV : V.1 κ.2.2.1 = none := hV.1.1.1.2.1 _ hκ
  have hd8 : (is.map Prod.fst ++ tW e).length = 0 ∨ (σ.1 D.1.1 = some (.inl (.object "java/lang/Object", D.1.2.2.1, .inr (.inr (.inr (.inr D.2.1))))) ∧ (is.map Prod.fst ++ tW e).length ≤ D.1.2.2.1 ∧ lo ≤ D.1.1 ∧ D.1.1 < V.2.1) := by
    rcases hls.2.1 with ⟨l0, -⟩ | ⟨r1, r2, -⟩
    · exact Or.inl l0
    · have pD : p ≤ D.1.1 := by
        rcases hV.2.2.2.2.2.2.1.2.1 with z | z
        · exact z
        · rw [z, hκV] at r1; cases r1
      refine Or.inr ⟨v3 D.1.1 _ (by omega) r1 (fun _ z => by cases z) (fun _ z => by cases z) (fun k fs z => by cases z) (fun _ z => by injection z with z; injection z with z; cases z), r2, by omega, ?_⟩
      exact Nat.lt_of_not_le (fun w => by rw [hS.1.2.2.2 _ w] at r1; cases r1)
  have h50 : τ.1 50 = nI (is.map Prod.fst ++ tW e).length := hRf.2.1.2.1.2.2.2.2
  by_cases hi : a 1 < 0 ∨ ¬ a 1 < nI (is.map Prod.fst ++ tW e).length
  · refine ⟨σ, τ, dq, ty_no (n := n + 1321) (n' := n' + 1310) (tl := p + 2) (gt := D.2.1) e1 x3 f4 hRf.1 h67 hp9 rfl (oLs_of (cap := D.1.2.2.1) hl8 (hd8.imp_right (fun z => ⟨z.1, z.2.1⟩)) (by omega)) h50 hi, hh.up (by omega), ⟨rfl, rfl⟩, by omega, by omega⟩
  -- the NAME
  have hi0 : ¬ a 1 < 0 := fun z => hi (Or.inl z)
  have hi1 : a 1 < nI (is.map Prod.fst ++ tW e).length := Classical.byContradiction (fun z => hi (Or.inr z))
  have t2 : 0 ≤ (a 1).toInt := by
    by_cases z : 0 ≤ (a 1).toInt
    · exact z
    · exact absurd (Int32.lt_iff_toInt_lt.mpr (show (a 1).toInt < (0 : Int32).toInt by rw [show (0 : Int32).toInt = 0 from rfl]; omega)) hi0
  have cl1 := i32_cl t2
  have hi2 := Int32.lt_iff_toInt_lt.mp hi1
  rw [nI_toInt (by omega)] at hi2
  have ai : a 1 = nI (a 1).toNatClampNeg := by
    rw [← Int32.toInt_inj, nI_toInt (by omega)]
    exact cl1.symm
  have iL : (a 1).toNatClampNeg < (is.map Prod.fst ++ tW e).length := by omega
  obtain ⟨w, hw⟩ : ∃ w, (is.map Prod.fst ++ tW e)[(a 1).toNatClampNeg]? = some w := ⟨_, List.getElem?_eq_getElem iL⟩
  generalize ei : (a 1).toNatClampNeg = i at *
  -- OUT, draft, the list
  obtain ⟨fs3, ta, oa, da, nl, d, ln, mc, go, gb, gl, y1, ⟨f0, f6, f7, f10⟩, ⟨ro, rd⟩, ⟨⟨bo, bo'⟩, ⟨bc, bc'⟩, n1, n2, n3, n4, n5⟩, ⟨r1, r2, r3, r4⟩, hnl, hln, hcl⟩ := id z6
  rw [e1] at y1
  injection y1 with y1; injection y1 with y1; injection y1 with _ y1
  subst y1
  have r1 : da < lo ∨ V.2.1 + 7 ≤ da := r1
  have r2 : oa < lo ∨ V.2.1 + 7 ≤ oa := r2
  have r3 : nl < lo := r3
  have r4 : d < lo ∨ V.2.1 + 7 ≤ d := r4
  have hh1 : lo ≤ σ.2.1 := hhi.1
  have hh2 : V.2.1 + 7 ≤ σ.2.1 := hhi.2
  obtain ⟨Γ, Q, na, sy, q, tQ, tG, tB⟩ := zz7 h67
  obtain ⟨tR, tC, tS, tW1, tW2, tW3, tW4⟩ := tB i w hw
  obtain ⟨-, -, -, -, -, -, -, -, -, -, hLn⟩ := id tR
  have hsx : sz ≤ x := by
    by_cases z : sz ≤ x
    · exact z
    · rw [h2.1 x (by omega)] at e1; cases e1
  obtain ⟨⟨p1, p1', p1''⟩, -, -, -, -, -, -, -, p9, -⟩ := id hp
  have hwl : ∀ w, wL pp ee w ≤ 3000 := fun w => by
    have := p9 w
    unfold wL
    omega
  have hmem : w ∈ is.map Prod.fst ++ tW e := List.mem_of_getElem? hw
  obtain ⟨u2, u, cap', da', d', cl', r, F, b, u4, st, fw, co, f4', g1, g2, g3, g4, g5, g6⟩ := ty_189 (T := T) (n := n + 1190) (pp := pp) (ee := ee) (fc := fc) (by omega) hf h2 hsx (by
      by_cases z : sz ≤ da
      · exact z
      · rw [h2.1 da (by omega)] at rd; cases rd) hκ tC hLn (fun w' hw' => by
      obtain ⟨b', q', r', h', gs', c1, c2, c3, ⟨c4, c5, c6⟩, c7, c8⟩ := ty_tx (by omega) hp hRf.2.1 hV hS hw'
      exact ⟨b', q', r', h', gs', c1, c2, c3, by omega, c7, c8⟩) hwl tW3 tW2 e1 x2 x3 f4 f6 f7 f10 rd ⟨bc, bc'⟩ hnl hln hcl hp9 rfl (fun u t => by
      have ex : u.1 (p + 2) = σ.1 (p + 2) := t.1 (p + 2) (fun z => by rw [z, e1] at hl8; injection hl8 with hl8; injection hl8 with hl8; injection hl8 with hl8 _; exact absurd hl8 (by decide)) (by omega) (Or.inl (by omega))
      refine oLs_of (cap := D.1.2.2.1) (ex.trans hl8) (hd8.imp_right (fun z => ⟨(t.1 _ (by omega) (by omega) (Or.inl (by omega))).trans z.1, z.2.1⟩)) (by omega)) iL (by omega) ((hV.2.2.2.2.2.1 i w hw).trans (tC.2.1 w hmem))
  obtain ⟨LL, τ1, τ2, Le, Ll, em, tv, ok, no⟩ := ty_118 (T := T) (h0 := y) (qs := qs) (N := n' + 1310) hf (by omega) (by rw [hRf.1]; decide) (by rw [h67]; decide) h50 L7 iL tR tW3 (fun w => by unfold tyW; rw [tTx_len]; exact hwl w) (by omega)
  have al := ty_al (pp := pp) (ee := ee) (bk := tyKd Γ) (A := q w) p1'' hRf.2.1.1.2.1 p9 tW1 tS
  have all := al.len
  rw [Le] at all
  have s2e : u2.2 = σ.2 := b.2
  obtain ⟨cos, coc⟩ := co
  rw [s2e] at cos coc
  have cty : cTp κ x nl na _ cap' da' d' cl' u4 := st.2.1
  obtain ⟨⟨fs5, ⟨fs6, da6, g6', ⟨s1, s2, s3, s4⟩, ⟨s5, s6, s7, s8⟩, -, -, frs, -⟩, s9, s10⟩, ⟨s11, s12⟩, mc', gl', s13, s14⟩ := cty
  rw [g1] at s1
  injection s1 with s1; injection s1 with s1; injection s1 with _ s1
  subst s1
  rw [g3] at s4
  injection s4 with s4; injection s4 with s4
  subst s4
  have daw : da' = da ∨ σ.2.1 ≤ da' := by
    have := fw.2.1
    rw [s2e] at this
    exact this
  have dw : d' = d ∨ σ.2.1 ≤ d' := by
    have := fw.2.2.1
    rw [s2e] at this
    exact this
  have ltd := lt rd
  have lto := lt ro
  obtain ⟨gs0, gm0, ta1, oa1, ma1, No, ft, go1, ⟨v1, v2⟩, ⟨v3', v4, v5, v6, v7, v8⟩, ⟨v9, v10, v11, v12⟩, ⟨v13, v14, v15, v16, v17, v18⟩, ⟨v19, v20, v21, v22⟩⟩ := id h1
  rw [e1] at v1
  injection v1 with v1; injection v1 with v1; injection v1 with _ v1
  subst v1
  rw [f0] at v3'
  injection v3' with v3'; injection v3' with v3'
  subst v3'
  rw [f6] at v6
  injection v6 with v6; injection v6 with v6
  subst v6
  have ltt := lt v9
  have hxd : ∀ q c, σ.1 q = some c → (∀ f, c ≠ .inr (14, f)) → q ≠ x := fun q c e h z => by
    rw [z, e1] at e
    injection e with e
    exact h _ e.symm
  have dxt : da ≠ x := hxd da _ rd (fun _ z => by cases z)
  have oxt : oa ≠ x := hxd oa _ ro (fun _ z => by cases z)
  have txt : ta ≠ x := hxd ta _ v9 (fun _ z => by cases z)
  have nxt : nl ≠ x := hxd nl _ hnl.1 (fun _ z => by injection z with z; injection z with z _; exact absurd z (by decide))
  have da'x : da' ≠ x := by
    rcases daw with r | r
    · rw [r]; exact dxt
    · have := lt e1; omega
  have d'x : d' ≠ x := fun z => by
    rcases s13.2.1 with ⟨-, -, q3, q4⟩ | ⟨q3, -⟩
    · rw [z, g1] at q4; cases q4
    · rw [z, g1] at q3; cases q3
  have onl : oa ≠ nl := fun z => by rw [z, hnl.1] at ro; cases ro
  have od : oa ≠ d := fun z => by
    rcases hnl.2.1 with ⟨-, -, -, q4⟩ | ⟨q3, -⟩
    · rw [z, q4] at ro; cases ro
    · rw [z, q3] at ro; injection ro with ro; injection ro with ro; injection ro with ro _; cases ro
  have tnl : ta ≠ nl := fun z => n4 z.symm
  -- the frame, whichever way it ends
  have FIN : ∀ {v : zSt} {gs : List Value} {dq' : Nat × Nat × Nat} {no na2 : Nat} {g1' g2' : Nat → Int32}, (u = u4 ∨ (u = oput u4 x (.inr (14, gs)) ∧ gs.length = fs.length ∧ ∀ k, k ≠ 6 → k ≠ 7 → k ≠ 8 → gs[k]? = f4'[k]?)) → zTf τ v → lst (oF κ T (n + 1323)) (zF y qs ks T (n' + 1311)) x y a σ τ 5 = some (u, v) → lRel x u v → (∃ fs', u.1 x = some (.inr (14, fs')) ∧ fs'[0]? = some (.ref ta) ∧ fs'[6]? = some (.ref no) ∧ fs'[7]? = some (.ref na2) ∧ fs'[10]? = some (.ref nl)) → (u.1 no = some (.inl (.byte, dq'.1, .inl g1')) ∧ u.1 na2 = some (.inl (.byte, dq'.2.1, .inl g2'))) → ((no = oa ∧ na2 = da' ∧ dq'.1 = dq.1 ∧ dq'.2.1 = cap') ∨ (no = da' ∧ na2 = oa ∧ dq'.1 = cap' ∧ dq'.2.1 = dq.1)) → dq'.2.2 = cl' → lZ κ T sz x (K + 9001) b0 jd o ol Kc hl dq' Qo u v := fun {v gs dq' no na2 g1' g2'} hu zt l1 lr hx' hrw hwh hcl' => by
    obtain ⟨tf, kp⟩ := lTf_of (lo := lo) (hi := V.2.1 + 7) (fs4 := f4') hfr e1 hnl rd b fw hxl r3 r1 r4 g1 (g2.trans x2.symm) g5 hu
    have K6 : oK6 σ u := lst_O (oK6_ok σ) (oK6.rf hfr) 5 l1
    have rm : oRm sz u := ⟨fun q hq => by
      have q0 := h2.1 q hq
      rcases hu with r | ⟨r, -⟩
      · rw [r]; exact st.1.2.2.1 q hq
      · rw [r, oput_ne (by omega)]; exact st.1.2.2.1 q hq, K6.1.1, Nat.le_trans h2.2.2 tf.1⟩
    have une : ∀ z, z ≠ x → u.1 z = u4.1 z := fun z hz => by
      rcases hu with r | ⟨r, -⟩
      · rw [r]
      · rw [r, oput_ne hz]
    have un : u.2 = u4.2 := by
      rcases hu with r | ⟨r, -⟩ <;> rw [r] <;> rfl
    have ls : cLs κ u nl d' dq'.2.2 (tTy (tyV pp ee fc) (tyKd Γ) sy (pTN f pp ee is e α w) (q w) ([], [])).2.length mc' gl' 6 := by
      rw [hcl']
      refine cLs.keep s13 (une nl nxt) (une d' d'x) (fun z f ez => ?_)
      refine ⟨f, ?_⟩
      rw [une z (fun w => by rw [w, g1] at ez; injection ez with ez; injection ez with ez; injection ez with ez _; exact absurd ez (by decide))]
      exact ez
    have DR : ∀ lo' hi', (da < lo' ∨ hi' ≤ da) → (oa < lo' ∨ hi' ≤ oa) → nl < lo' → (d < lo' ∨ hi' ≤ d) → hi' ≤ σ.2.1 → lDr κ x lo' hi' dq' u := fun lo' hi' q1 q2 q3 q4 q5 => by
      obtain ⟨fs', x1', x2', x3', x4', x5'⟩ := hx'
      refine ⟨fs', ta, no, na2, nl, d', _, mc', g1', g2', gl', x1', ⟨x2', x3', x4', x5'⟩, hrw, ⟨?_, ?_, ?_, ?_, ?_, n4, ?_⟩, ⟨?_, ?_, q3, ?_⟩, ls, s11, by rw [hcl']; exact s12⟩
      · rcases hwh with ⟨y1, y2, y3, y4⟩ | ⟨y1, y2, y3, y4⟩
        · rw [y3]; exact ⟨bo, bo'⟩
        · rw [y3]; exact s6
      · rcases hwh with ⟨y1, y2, y3, y4⟩ | ⟨y1, y2, y3, y4⟩
        · rw [y4]; exact s6
        · rw [y4]; exact ⟨bo, bo'⟩
      · rcases hwh with ⟨y1, y2, y3, y4⟩ | ⟨y1, y2, y3, y4⟩
        · rw [y1, y2]; rcases daw with r | r
          · rw [r]; exact n1
          · omega
        · rw [y1, y2]; rcases daw with r | r
          · rw [r]; exact fun z => n1 z.symm
          · omega
      · rcases hwh with ⟨y1, y2, y3, y4⟩ | ⟨y1, y2, y3, y4⟩
        · rw [y2]; rcases daw with r | r
          · rw [r]; exact n2
          · omega
        · rw [y2]; exact n3
      · rcases hwh with ⟨y1, y2, y3, y4⟩ | ⟨y1, y2, y3, y4⟩
        · rw [y1]; exact n3
        · rw [y1]; rcases daw with r | r
          · rw [r]; exact n2
          · omega
      · rcases dw with r | r
        · rw [r]; exact n5
        · omega
      · rcases hwh with ⟨y1, y2, y3, y4⟩ | ⟨y1, y2, y3, y4⟩
        · rw [y2]; rcases daw with r | r
          · rw [r]; exact q1
          · right; omega
        · rw [y2]; exact q2
      · rcases hwh with ⟨y1, y2, y3, y4⟩ | ⟨y1, y2, y3, y4⟩
        · rw [y1]; exact q2
        · rw [y1]; rcases daw with r | r
          · rw [r]; exact q1
          · right; omega
      · rcases dw with r | r
        · rw [r]; exact q4
        · right; omega
    have nlb : nl < b0 := by
      obtain ⟨fs3, -, -, -, nl2, -, -, -, -, -, -, y1, ⟨-, -, -, f10'⟩, -, -, ⟨-, -, q3, -⟩, -⟩ := id m7
      rw [e1] at y1
      injection y1 with y1; injection y1 with y1; injection y1 with _ y1
      subst y1
      rw [f10] at f10'
      injection f10' with f10'; injection f10' with f10'
      rw [f10']; exact q3
    have zk := zt.1
    obtain ⟨fsn, nx1, nx2, nx3⟩ := tf.2.2.2.1 fs e1
    refine ⟨⟨lr, rm, (zk 45 (by decide)).trans h3, ⟨k0, (zk 60 (by decide)).trans h4, by omega⟩, ma, va, ra, fm, fv, gr, tf.mv h6⟩, ⟨tf.mq m1, tf.jg m2, lst_O oOc_ok m3 5 l1, lst_Q rwI_ok m4 5 (by decide) l1, lst_Q kn8_ok m5 5 (by decide) l1, lst_Q cnI_ok m6 5 (by decide) l1, DR b0 0 (Or.inr (Nat.zero_le _)) (Or.inr (Nat.zero_le _)) nlb (Or.inr (Nat.zero_le _)) (Nat.zero_le _)⟩, Nat.le_trans hb0 tf.1, by rw [hQo]; exact ⟨z1.tf tf zt, z2, tf.mq z3, ⟨fsn, nx1, Or.inr ⟨c, cf, (nx3 4 (by decide) (by decide) (by decide) (by decide)).trans f4, tf.ob ec (by decide) (by decide) (by decide), by rw [zk 69 (by decide)]; exact ec9, (zk 67 (by decide)).trans h67, by rw [zk 68 (by decide), zk 69 (by decide)]; exact h68⟩⟩, fun i hi => by rw [zt.2.2.2]; exact z5 i hi, DR lo (V.2.1 + 7) r1 r2 r3 r4 hh2, fun _ => tf.ty zt (zz7 h67)⟩⟩
  have u4o : u4.1 oa = some (.inl (.byte, dq.1, .inl go)) := by
    have e2 : u2.1 oa = some (.inl (.byte, dq.1, .inl go)) := (b.1 oa oxt onl (Or.inl od)).trans ro
    rw [fw.1 oa (by rw [s2e]; exact lto) oxt (fun z => n1 z.symm) onl (Or.inl od) (fun f z => by rw [e2] at z; cases z)]
    exact e2
  have u4t : u4.1 ta = some (.inl (.byte, 2000, .inl ft)) := by
    have e2 : u2.1 ta = some (.inl (.byte, 2000, .inl ft)) := (b.1 ta txt tnl (Or.inl (fun z => n5 z.symm))).trans v9
    rw [fw.1 ta (by rw [s2e]; exact ltt) txt (fun z => n2 z.symm) tnl (Or.inl (fun z => n5 z.symm)) (fun f z => by rw [e2] at z; cases z)]
    exact e2
  have u4m : u4.1 ma1 = some (.inr (5, gm0)) := by
    have mx : ma1 ≠ x := v22
    have mn : ma1 ≠ nl := fun z => by rw [z, hnl.1] at v19; injection v19 with v19; injection v19 with v19; injection v19 with v19 _; exact absurd v19 (by decide)
    have md : ma1 ≠ d := fun z => by
      rcases hnl.2.1 with ⟨-, -, -, q4⟩ | ⟨q3, -⟩
      · rw [z, q4] at v19; cases v19
      · rw [z, q3] at v19; cases v19
    have e2 : u2.1 ma1 = some (.inr (5, gm0)) := (b.1 ma1 mx mn (Or.inl md)).trans v19
    rw [fw.1 ma1 (by rw [s2e]; exact lt v19) mx (fun z => by rw [z, rd] at v19; cases v19) mn (Or.inl md) (fun f z => by rw [e2] at z; injection z with z; injection z with z; injection z with z _; exact absurd z (by decide))]
    exact e2
  have e5 : lst (oF κ T (n + 1323)) (zF y qs ks T (n' + 1311)) x y a σ τ 5 = lcpI (oF κ T (n + 1190 + 133) 189 [va_rf (some x), .int (nI i)] σ) (zF y qs ks T (n' + 1310 + 1) 118 [.ref y, .int (nI i)] τ) := by
    show lcpI (oF κ T (n + 1323) 189 [.ref x, .int (a 1)] σ) (zF y qs ks T (n' + 1311) 118 [.ref y, .int (a 1)] τ) = _
    rw [ai]
    rfl
  have dqs : dq.2.1 = dq.2.1 := rfl
  rcases g6 with ⟨big, rr, ru⟩ | ⟨sml, rr, ru⟩
  · -- more than 16000
    have G := no (by rw [← all]; exact big)
    have l1 : lst (oF κ T (n + 1323)) (zF y qs ks T (n' + 1311)) x y a σ τ 5 = some (u, τ2) := by
      rw [e5, F, G, rr]
      exact lcpI_ok rfl rfl
    have zt : zTf τ τ2 := zTf_of tv (Or.inl rfl)
    have lr : lRel x u τ2 := by
      rw [ru]
      refine ⟨f4', gm0, ta, oa, ma1, No, ft, go1, ⟨g1, g2⟩, ⟨(g5 0 (by decide) (by decide)).trans f0, by rw [g5 1 (by decide) (by decide), zt.1 3 (by decide)]; exact v4, by rw [g5 5 (by decide) (by decide), zt.1 69 (by decide)]; exact v5, (g5 6 (by decide) (by decide)).trans f6, ?_, (g5 12 (by decide) (by decide)).trans v8⟩, ⟨u4t, by rw [zt.1 3 (by decide)]; exact v10, by rw [zt.1 3 (by decide)]; exact v11, fun j hj => ?_⟩, ⟨?_, ?_, ?_, v16, fun j hj => ?_, v18⟩, ⟨u4m, ?_, by rw [zt.1 165 (by decide)]; exact v21, v22⟩⟩
      · have e55 : τ2.1 5 = τ.1 5 := tv.2.1 5 (by decide) (by decide) (by decide) (by decide) (by decide)
        rw [g5 8 (by decide) (by decide), e55]; exact v7
      · rw [zt.2.2.1 0 (by decide)]
        rw [zt.1 3 (by decide)] at hj
        exact v12 j hj
      · rw [ro] at v13
        rw [u4o]; exact v13
      · rw [tv.2.1 5 (by decide) (by decide) (by decide) (by decide) (by decide)]; exact v14
      · rw [tv.2.1 5 (by decide) (by decide) (by decide) (by decide) (by decide)]; exact v15
      · rw [tv.2.2.2.1 2 (by decide) (by decide)]
        rw [tv.2.1 5 (by decide) (by decide) (by decide) (by decide) (by decide)] at hj
        exact v17 j hj
      · rw [zt.1 163 (by decide), zt.2.1 166 (by decide)]; exact v20
    refine ⟨u, τ2, (dq.1, cap', cl'), l1, FIN (gs := []) (no := oa) (na2 := da') (g1' := go) (g2' := g6') (Or.inl ru) zt l1 lr ⟨f4', by rw [ru]; exact g1, (g5 0 (by decide) (by decide)).trans f0, (g5 6 (by decide) (by decide)).trans f6, g3, (g5 10 (by decide) (by decide)).trans f10⟩ ⟨by rw [ru]; exact u4o, by rw [ru]; exact s5⟩ (Or.inl ⟨rfl, rfl, rfl, rfl⟩) rfl, ⟨zt.1 67 (by decide), zt.1 3 (by decide)⟩, ?_, ?_⟩
    · rw [ru]
      show u4.2.2.2 + (tPh dq.1 + tPh dq.2.1 + 4 * dq.2.2) ≤ σ.2.2.2 + (tPh dq.1 + tPh cap' + 4 * cl') + 3570
      omega
    · rw [ru]
      show u4.2.2.1 + (dq.1 + dq.2.1 + dq.2.2) ≤ σ.2.2.1 + (dq.1 + cap' + cl') + 238
      omega
  · -- it comes to the OUT
    obtain ⟨τ', G, G5, Gb, Gr⟩ := ok (by rw [← all]; exact sml)
    rw [← all] at G G5
    have l1 : lst (oF κ T (n + 1323)) (zF y qs ks T (n' + 1311)) x y a σ τ 5 = some (u, τ') := by
      rw [e5, F, G, rr]
      exact lcpI_ok rfl rfl
    have zt : zTf τ τ' := zTf_of tv (Or.inr Gr)
    generalize es : tTy (tyV pp ee fc) (tyKd Γ) sy (pTN f pp ee is e α w) (q w) ([], []) = ss at *
    have len30 : ss.1.length < 2 ^ 30 := by omega
    have lcap : ss.1.length ≤ cap' := by
      rcases s7 with z | z
      · exact z
      · omega
    have gl6 : ((f4'.set 6 (.ref da')).set 7 (.ref oa)).set 8 (.int r) = ((f4'.set 6 (.ref da')).set 7 (.ref oa)).set 8 (.int r) := rfl
    have lset : (((f4'.set 6 (.ref da')).set 7 (.ref oa)).set 8 (.int r)).length = 13 := by rw [List.length_set, List.length_set, List.length_set]; exact g2
    have stk : ∀ k, k ≠ 6 → k ≠ 7 → k ≠ 8 → (((f4'.set 6 (.ref da')).set 7 (.ref oa)).set 8 (.int r))[k]? = f4'[k]? := fun k h6 h7 h8 => by
      rw [List.getElem?_set_ne (fun z => h8 z.symm), List.getElem?_set_ne (fun z => h7 z.symm), List.getElem?_set_ne (fun z => h6 z.symm)]
    have st6 : (((f4'.set 6 (.ref da')).set 7 (.ref oa)).set 8 (.int r))[6]? = some (.ref da') := by
      rw [List.getElem?_set_ne (by decide), List.getElem?_set_ne (by decide), List.getElem?_set_self (by rw [g2]; decide)]
    have st7 : (((f4'.set 6 (.ref da')).set 7 (.ref oa)).set 8 (.int r))[7]? = some (.ref oa) := by
      rw [List.getElem?_set_ne (by decide), List.getElem?_set_self (by rw [List.length_set, g2]; decide)]
    have st8 : (((f4'.set 6 (.ref da')).set 7 (.ref oa)).set 8 (.int r))[8]? = some (.int r) := by
      rw [List.getElem?_set_self (by rw [List.length_set, List.length_set, g2]; decide)]
    have ux : u.1 x = some (.inr (14, ((f4'.set 6 (.ref da')).set 7 (.ref oa)).set 8 (.int r))) := by rw [ru]; exact oput_eq _ _ _
    have une : ∀ z, z ≠ x → u.1 z = u4.1 z := fun z hz => by rw [ru, oput_ne hz]
    have ti5 : (τ'.1 5).toInt = ss.1.length := by rw [G5, nI_toInt (by omega)]
    have lr : lRel x u τ' := by
      refine ⟨_, gm0, ta, da', ma1, cap', ft, g6', ⟨ux, lset⟩, ⟨(stk 0 (by decide) (by decide) (by decide)).trans ((g5 0 (by decide) (by decide)).trans f0), by rw [stk 1 (by decide) (by decide) (by decide), g5 1 (by decide) (by decide), zt.1 3 (by decide)]; exact v4, by rw [stk 5 (by decide) (by decide) (by decide), g5 5 (by decide) (by decide), zt.1 69 (by decide)]; exact v5, st6, by rw [st8, rr, G5], (stk 12 (by decide) (by decide) (by decide)).trans ((g5 12 (by decide) (by decide)).trans v8)⟩, ⟨(une ta txt).trans u4t, by rw [zt.1 3 (by decide)]; exact v10, by rw [zt.1 3 (by decide)]; exact v11, fun j hj => ?_⟩, ⟨(une da' da'x).trans s5, by rw [ti5]; omega, by rw [ti5]; omega, s6.2, fun j hj => ?_, ?_⟩, ⟨(une ma1 v22).trans u4m, ?_, by rw [zt.1 165 (by decide)]; exact v21, v22⟩⟩
      · rw [zt.2.2.1 0 (by decide)]
        rw [zt.1 3 (by decide)] at hj
        exact v12 j hj
      · rw [ti5] at hj
        have hj : j < ss.1.length := by omega
        obtain ⟨cc, ec1⟩ : ∃ cc, ss.1[j]? = some cc := ⟨_, List.getElem?_eq_getElem hj⟩
        obtain ⟨cc', ec2⟩ : ∃ cc', LL[j]? = some cc' := ⟨_, List.getElem?_eq_getElem (by omega)⟩
        rw [s8 j cc ec1 (by omega), Gb j cc' ec2]
        have q1 := congrArg (fun l => l[j]?) al.1
        simp only [List.getElem?_map] at q1
        rw [Le, ec1, ec2] at q1
        injection q1
      · rcases daw with r | r
        · rw [r]; exact n2
        · omega
      · rw [zt.1 163 (by decide), zt.2.1 166 (by decide)]; exact v20
    refine ⟨u, τ', (cap', dq.1, cl'), l1, FIN (gs := ((f4'.set 6 (.ref da')).set 7 (.ref oa)).set 8 (.int r)) (no := da') (na2 := oa) (g1' := g6') (g2' := go) (Or.inr ⟨ru, lset.trans x2.symm, stk⟩) zt l1 lr ⟨_, ux, (stk 0 (by decide) (by decide) (by decide)).trans ((g5 0 (by decide) (by decide)).trans f0), st6, st7, (stk 10 (by decide) (by decide) (by decide)).trans ((g5 10 (by decide) (by decide)).trans f10)⟩ ⟨(une da' da'x).trans s5, (une oa oxt).trans u4o⟩ (Or.inr ⟨rfl, rfl, rfl, rfl⟩) rfl, ⟨zt.1 67 (by decide), zt.1 3 (by decide)⟩, ?_, ?_⟩
    · rw [ru]
      show u4.2.2.2 + (tPh dq.1 + tPh dq.2.1 + 4 * dq.2.2) ≤ σ.2.2.2 + (tPh cap' + tPh dq.1 + 4 * cl') + 3570
      omega
    · rw [ru]
      show u4.2.2.1 + (dq.1 + dq.2.1 + dq.2.2) ≤ σ.2.2.1 + (cap' + dq.1 + cl') + 238
      omega
end LZT
