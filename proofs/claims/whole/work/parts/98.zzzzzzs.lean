/-! compile() of the class up to its types -/
section CUT
variable {κ : oKv} {T n m len cnt sz : Nat} {kk pp ee f : Nat → Int32} {U : oSt} {w r v ka pa ea : Nat}
set_option maxHeartbeats 2000000 in
/-- Parser(words), readProgram(), Typer(words), and findAll() up to its types: P the parser's object, y the typer's, e0 the root -/
theorem c_upT (h : cWs κ sz len cnt kk pp ee f w r v ka pa ea U) (hm : 320 ≤ m) (hT : 25000 ≤ T) {xs : List tQ} {is : List (Nat × Nat)} {e : tT} {j : Nat} (hP : aPr kk T cnt = .inr ((xs, is, e), j)) (hG : pG kk pp cnt is e) (hpp : ∀ u v, u < cnt → v < cnt → pp u = pp v → u = v) (hp0 : ∀ w, 0 ≤ pp w) (hN : (nT f pp ee e (nIn f pp ee is ([], [], none))).2.2 = none) : ∃ P1 V D at2 am2 cd' nm e0 fb fr fz fn σ1 σ2 g Tt, oF κ T m 103 [va_rf (some U.2.1), va_rf (some w)] (onew U (.inr (9, odef 9)) (oq 9).2.2) = some (none, P1) ∧ oob P1 (some U.2.1) 9 = some U.2.1 ∧ oF κ T m 145 [va_rf (some U.2.1)] P1 = some (none, V) ∧ cV κ sz len cnt kk pp ee f (pA w r v ka pa ea U.2.1) (nI xs.length) (nI is.length) (.ref e0) V D at2 cd' 0 am2 (-1) (-1) (fE f pp ee e (is.map Prod.fst) 0 (-1)) ∧ ((∀ a, a < U.2.1 → V.1 a = U.1 a) ∧ U.2.1 ≤ V.2.1) ∧ (cRw (pA w r v ka pa ea U.2.1) V fb fr fz fn ∧ ∀ k x, xs[k]? = some x → fb k = bCd x.1 ∧ fr k = rCd x.2.1 ∧ fz k = zSr x.2.2 ∧ fn k = zNu T f pp ee x.2.2.2.2) ∧ (8 * V.2.2.1 + (sv e + (1680 * xs.length + 1200 * is.length)) ≤ 8 * U.2.2.1 + 496 + 240 * cnt ∧ (V.2.2.2 ≤ U.2.2.2 + 622 + 256 * cnt ∧ V.2.2.2 + (sv e + (1680 * xs.length + 1200 * is.length)) ≤ U.2.2.2 + 622 + 240 * cnt + 8 * (is.map Prod.fst ++ tW e).length + 8 * nF e)) ∧ (cIs (pA w r v ka pa ea U.2.1) D U.2.1 V nm is 0 ∧ cTr κ T kk pp ee f (pA w r v ka pa ea U.2.1) D U.2.1 V nm e (is.map Prod.fst) 0 (fun _ => none) 0 e0 ∧ D.1.2.2.2.2.1 = (is.map Prod.fst ++ tW e).length ∧ (∀ k u, (is.map Prod.fst ++ tW e)[k]? = some u → D.2.1 k = nm u) ∧ D.1.2.2.2.2.2 = nF e ∧ ∀ u, u ∈ is.map Prod.fst ++ tW e → ∃ b, nm u = some b ∧ cNc pp ee f V b u) ∧ oF κ T m 147 [va_rf (some V.2.1), .int (nI cnt)] (onew V (.inr (12, odef 12)) (oq 12).2.2) = some (none, σ1) ∧ oob σ1 (some V.2.1) 12 = some V.2.1 ∧ (∀ a, V.2.1 + 7 ≤ a → σ2.1 a = none) ∧ σ2.2 = (V.2.1 + 7, V.2.2.1 + 7, V.2.2.2 + 74 + 32 * cnt) ∧ wH κ T (4 * cnt + 8) V.2.1 cnt (fun i => V.2.1 + 1 + i) V nm pp (is.map Prod.fst ++ tW e) ∧ cXE V V.2.1 (fun i => V.2.1 + 1 + i) (4 * cnt + 8) nm (is.map Prod.fst) σ2 (mEnd f pp ee is e) g Tt ∧ (∀ u, u ∈ is.map Prod.fst ++ tW e → nY V nm σ2 g Tt (mEnd f pp ee is e) u) ∧ (mSat (mEnd f pp ee is e).1 → ∃ c, ofd σ2 (some e0) 7 8 = some (.int (nI c)) ∧ gY g Tt (mEnd f pp ee is e) c (mE f pp ee e (is.map Prod.fst) (mIn is mI0)).2) ∧ cTX κ T kk pp ee f (pA w r v ka pa ea U.2.1) D (eY σ2 g Tt (mEnd f pp ee is e)) U.2.1 V nm e (is.map Prod.fst) 0 (fun _ => none) 0 e0 ∧ ∃ fl, ofd σ2 (some V.2.1) 12 8 = some (.int fl) ∧ oF κ T m 162 [va_rf (some V.2.1), va_rf (some U.2.1)] σ1 = if fl < 0 then ol_X10_findAll_77 T (oF κ T (m - 1)) κ T (some V.2.1) (some U.2.1) 0 σ2 else some (none, σ2) := by
  obtain ⟨P1, V, D, at2, am2, bd2, nf2, ff2, nm, q', n2, cd', e0, fb', fr', fz', fn', b1, b2, b3, v1, o2, ⟨j1, j2⟩, rw', ⟨g1, g2⟩, j3⟩ := c_par' (κ := κ) (T := T) (m := m) h (by omega) (by omega)
  rw [hP] at o2
  obtain ⟨⟨i1, i2, i3, i4⟩, i5, i6, i7, i8, i9, i10⟩ := j3 xs is e j hP
  obtain ⟨n1, n2'⟩ := nIn_3 (f := f) (pp := pp) (ee := ee) is ([], [], none)
  rw [List.nil_append] at n2'
  have n2' : (nIn f pp ee is ([], [], none)).1 = is.map Prod.fst := n2'
  rw [n2'] at i7 i9
  have told : (nT f pp ee e (nIn f pp ee is ([], [], none))).2.1 = is.map Prod.fst ++ tW e := by
    rw [(nT_12 e _).2]
    congr 1
    have : ∀ (l : List (Nat × Nat)) (ν : nSt), (nIn f pp ee l ν).2.1 = ν.2.1 ++ l.map Prod.fst := fun l => by
      induction l with
      | nil => intro ν; exact (List.append_nil _).symm
      | cons x l IH =>
        intro ν
        show (nIn f pp ee l (nCnt x.1 (nTell f pp ee x.1 ν))).2.1 = _
        rw [IH]
        show (nTell f pp ee x.1 ν).2.1 ++ _ = _
        rw [(nTell_12 x.1 ν).2, List.append_assoc]
        rfl
    rw [this]
    rfl
  obtain ⟨⟨z1, z2, ⟨z3, z4⟩, z5, -, z7⟩, -, z6, -⟩ := i8
  rw [hN] at z5
  have z5 : nf2 = -1 := z5
  have hbd : bd2 = -1 := o2.1
  subst i1 i2 i9 z5 hbd
  rw [told] at z3 z4 z6 z7
  have cl : inW (cFd f pp ee) is [] ++ tWr (cFd f pp ee) e (is.map Prod.fst) = [] := by
    rw [nT_3, n1, n2', nHd_ap] at hN
    exact List.head?_eq_none_iff.mp hN
  obtain ⟨-, cl2⟩ := List.append_eq_nil_iff.mp cl
  obtain ⟨⟨h6, ic⟩, wf, ⟨i0, rg⟩, ⟨o3, sn, a3⟩, ⟨k1, k2, k3, k4, k5, k6⟩, nd, evl⟩ := hG
  obtain ⟨nI', nE', nIE⟩ := List.nodup_append.mp nd
  have hc : cnt ≤ 2000 := by have := h.2.2.1; omega
  have hfr : ∀ q, V.2.1 ≤ q → V.1 q = none := v1.1.1.1
  obtain ⟨σ1, F, t1, t2, t3, t4, t5, t6⟩ := c_tinit (κ := κ) (T := T) (σ := V) (m := m) hc (by omega)
  have hκV : κ.2.2.1 < V.2.1 := by have := v1.1.1.2.2.1; have := v1.1.1.2.2.2; omega
  have hH : wH κ T (4 * cnt + 8) V.2.1 cnt (fun i => V.2.1 + 1 + i) V nm pp (is.map Prod.fst ++ tW e) := by
    refine ⟨⟨hT, Nat.le_refl _, fun i _ => by show V.2.1 ≤ V.2.1 + 1 + i; omega, hκV, hp0⟩, hpp, fun u hu => ?_, fun u hu u' hu' => z6 u hu u' hu'⟩
    rcases List.mem_append.mp hu with hu | hu
    · obtain ⟨x, hx, rfl⟩ := List.mem_map.mp hu
      obtain ⟨b, q, k, e1, e2⟩ := cIs_nm is 0 i6 x hx
      exact ⟨b, _, e1, e2, by show 2 < 8; omega, 0, rfl⟩
    · obtain ⟨b, q, k, e1, e2⟩ := cTr_nm e 0 _ _ _ _ _ _ wf i7 u hu
      exact ⟨b, _, e1, e2, by show 2 < 8; omega, 0, rfl⟩
  have X0 : cXE V V.2.1 (fun i => V.2.1 + 1 + i) (4 * cnt + 8) nm [] σ1 mI0 gY4 mB := by
    refine ⟨⟨vR.rf hfr t4 (fun a ha => by rw [t6] at ha; rw [t5 a ha]; exact hfr a (by have ha : V.2.1 + 7 ≤ a := ha; omega)), Or.inl ⟨⟨fun _ => yB 0, fun x hx => (by cases hx)⟩, F, t2, t3, gY4_K, gY4_C, by show 4 ≤ 4 * cnt + 8; omega, gY4_T rfl⟩⟩, fun u hu => by cases hu⟩
  obtain ⟨m', rfl⟩ : ∃ m', m = m' + 4 := ⟨m - 4, by omega⟩
  obtain ⟨mc, hls⟩ := v1.1.2.2.2.1.1
  have vp : V.1 U.2.1 = _ := v1.2.1
  obtain ⟨σa, a1, a2, a3'⟩ := c_faL (n := m') (len := D.1.2.2.2.2.1) hH vp rfl rfl hls (fun k x hx => z4 k x.1 (by
    have hk : k < is.length := by
      by_cases z : k < is.length
      · exact z
      · rw [List.getElem?_eq_none (by omega)] at hx; cases hx
    rw [List.getElem?_append_left (by rw [List.length_map]; exact hk), List.getElem?_map, hx]
    rfl)) (by rw [← z3, List.length_append, List.length_map]; omega) (by have := v1.2.2.2.2.1; have := v1.2.2.1; omega) (fun x hx => by
    obtain ⟨b, q, k, e1, e2⟩ := cIs_nm is 0 i6 x hx
    exact ⟨b, _, e1, e2, by show 2 < 8; omega, rfl⟩) (fun x hx => (ic x hx).2) (fun x hx => List.mem_append_left _ (List.mem_map_of_mem hx)) is 0 T [] σ1 mI0 gY4 mB rfl (Nat.zero_add _) (by omega) X0 (fun u hu => by cases hu) (fun _ _ z => by cases z) nI'
  rw [List.nil_append] at a2
  obtain ⟨σ2, vv, g, Tt, c1, c2, c3, c4, c5, c6, c7, c8⟩ := (c_infer (T0 := T) (B := pA w r v ka pa ea U.2.1) (D := D) (kk := kk) (f := f) (ee := ee) hH hc e).1 (is.map Prod.fst) σa (mIn is mI0) gY4 mB e0 0 U.2.1 i0 cnt (m' + 3) i7 rg (Nat.le_refl _) (fun u hu z => nIE u hu u z rfl) nE' (by omega) cl2 wf k3 sn (fun u hu => List.mem_append_left _ hu) (fun u hu => List.mem_append_right _ hu) a2 (by show 4 + tM e ≤ 4 * cnt + 8; omega) (by omega)
  have em : (mE f pp ee e (is.map Prod.fst) (mIn is mI0)).1 = mEnd f pp ee is e := rfl
  rw [em] at c2 c5 c6 c8
  have s2 : σ2.2 = σ1.2 := c7.2.2.trans (a3' 0 0).2.2
  have old : ∀ a, V.2.1 + 7 ≤ a → σ2.1 a = none := fun a ha => by
    exact c2.1.1.2.2.2.2 a (by rw [s2, t6]; exact ha)
  refine ⟨P1, V, D, at2, am2, cd', nm, e0, fb', fr', fz', fn', σ1, σ2, g, Tt, b1, b2, b3, v1, ⟨j1, j2⟩, ⟨rw', i5⟩, ⟨by have g3 := g1; rw [hP] at g3; exact g3, g2.1, by have g3 := g2.2; rw [hP, ← z3, i10] at g3; exact g3⟩, ⟨i6, i7, z3.symm, z4, i10, z7⟩, t1, t2.ob, old, s2.trans t6, hH, c2, fun u hu => ?_, fun hs => ?_, c8, ?_⟩
  · rcases List.mem_append.mp hu with hu | hu
    · exact c2.2 u hu
    · exact c6 u hu
  · obtain ⟨c, rfl, hc⟩ := c5 hs
    exact ⟨c, c_inf8 c1 (fl := -1) (by
      rcases a2.1.2 with ⟨-, F', y1, -⟩ | ⟨pl, c, F', q1, -⟩
      · rw [ofd_at y1.1]; rfl
      · exact absurd (show mSat (mIn is mI0).1 by rw [(mIn_1 is mI0).1]; exact ⟨fun _ => yB 0, fun x hx => (by cases hx)⟩) q1.no) (by decide), hc⟩
  · have go : ∀ fl, ofd σ2 (some V.2.1) 12 8 = some (.int fl) → oF κ T (m' + 4) 162 [va_rf (some V.2.1), va_rf (some U.2.1)] σ1 = if fl < 0 then ol_X10_findAll_77 T (oF κ T (m' + 3)) κ T (some V.2.1) (some U.2.1) 0 σ2 else some (none, σ2) := fun fl hfl => by
      have p10 : ofd σa (some U.2.1) 9 10 = some (.ref e0) := a2.1.1.p9 vp
      rw [show m' + 4 = (m' + 3) + 1 from rfl, oE_X10_findAll]
      unfold ob_X10_findAll
      refine Eq.trans (show ol_X10_findAll_2 T (oF κ T (m' + 3)) κ T (some V.2.1) (some U.2.1) 0 σ1 = _ from a1) ?_
      unfold oj_X10_findAll_58
      rw [p10, ovr_rf, obn_at, a2.yo, obn_at, c1, oin_at, hfl, ovi_in, obn_at]
    rcases c2.1.2 with ⟨-, F', y1, -⟩ | ⟨pl, c, F', q1, q2, q3, q4⟩
    · exact ⟨-1, by rw [ofd_at y1.1]; rfl, go _ (by rw [ofd_at y1.1]; rfl)⟩
    · exact ⟨pl, by rw [ofd_at q4.1]; rfl, go _ (by rw [ofd_at q4.1]; rfl)⟩
end CUT
