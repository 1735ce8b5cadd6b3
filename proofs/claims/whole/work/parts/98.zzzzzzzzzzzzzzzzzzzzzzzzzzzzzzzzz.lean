/-! run(), the class: an E begins -/
section HYS
variable {κ : oKv} {T n cnt : Nat} {kk pp ee f fc : Nat → Int32} {tE tN : Nat → tY} {R : Nat → Int32} {L : List Nat} {y0 : tY} {B : Nat → Nat} {D : cDt} {V : oSt} {nm : Nat → Option Nat} {p : Nat} {σ0 : oSt} {nf ma ha0 wn ws wa : Nat} {fm0 : List Value} {hl0 : Nat} {σ σ' : oSt} {G G' : hG} {top ha hl top' ha' hl' : Nat} {hp hp' : Nat → Int64} {fm gm : List Value} {nu n' : Nat} {h h' : xmHp} {fr : List xmFr} {env : List Nat} {vs : List xmV} {Kb N sc e : Nat} {d : Nat × Nat × Nat × tS × tS} {z : Unit} {a b : tT} {y : tY}
theorem hOt.go {x : Nat} {t : tT} (I : hXa κ T kk pp ee f fc tN B D V nm p σ0 nf ma ha0 wn ws wa fm0 hl0 σ G top ha hl hp fm nu h fr) (Tt : hTt κ T kk pp ee f fc tN B D V nm p σ0 nf t env x) (hsc : fm[10]? = some (.int (nI sc))) (hs : hSc G (hAr G.2.1 h.2.1) top hp vs.reverse sc) (hb : top + 16 * nu + hPt fr ≤ Kb + xmTot h) : hOt κ T kk pp ee f fc tN B D V nm p σ0 nf ma ha0 wn ws wa fm0 hl0 Kb (some (some (va_rf (some x)), σ)) (.inr (h, fr, nu, .inl (t, env, vs))) := ⟨some x, σ, rfl, G, top, ha, hl, hp, fm, I, Nat.le_trans (Nat.le_of_eq (Nat.add_zero _)) hb, x, sc, rfl, Tt, hsc, hs⟩
theorem hOt.en {q : Nat} {x : Option Nat} (I : hXa κ T kk pp ee f fc tN B D V nm p σ0 nf ma ha0 wn ws wa fm0 hl0 σ G top ha hl hp fm nu h fr) (hml : ma < σ0.2.1) (ht : top ≤ 335000) : hOt κ T kk pp ee f fc tN B D V nm p σ0 nf ma ha0 wn ws wa fm0 hl0 Kb (some (some (va_rf x), oput σ ma (.inr (5, fm.set 12 (.int (nI q)))))) (.inl (q, nu)) := ⟨x, _, rfl, I.ed hml ht⟩
/-- cons() behind a sum that was too much -/
theorem h_consE {q b' l' : Nat} {ps : List tP} {fs : List Value} {v : xmV} {Ar : Nat → Prop} {nb : tT → List Nat → Nat → Prop} (M : hMa ma fm ha hl hp top σ) (H : hHp nb G top hp h) (hsc : fm[10]? = some (.int (nI sc))) (hen : fm[12]? = some (.int 0)) (hs : hSc G Ar top hp vs.reverse sc) (hm : σ.1 q = some (.inr (7, fs))) (h9 : fs[9]? = some (.ref b')) (h2 : fs[2]? = some (.int (nI vs.length))) (h15 : fs[15]? = some (.ref l')) (Nb : hNa vs σ b' v) (hv : v.1 = 4) (NS : hSn T f pp ee h env vs σ l' ps) (hT : vs.length < T) (hT' : 5000 ≤ T) (hl' : vs.length < 2 ^ 31) (hk : top + 3 ≤ 332100) (hne : ma ≠ ha) (hml : ma < σ.2.1) (hhl : ha < σ.2.1) (hfr : ∀ q, σ.2.1 ≤ q → σ.1 q = none) (hb : ¬ xmB (xmSm T f pp ee h env vs ps) = true) : ∃ σ' ha' hl' hp', oF κ T (N + 4) 95 [va_rf (some ma), va_rf (some q)] σ = some (some (.long (xmNi top)), σ') ∧ hMa ma (((fm.set 12 (.int (nI 2))).set 4 (.ref ha')).set 5 (.int (nI (top + 3)))) ha' hl' hp' (top + 3) σ' ∧ hGr ma ha hl (oput σ ma (.inr (5, fm.set 12 (.int (nI 2))))) σ' ha' hl' ∧ ha' ≠ ma ∧ ha' < σ'.2.1 := by
  have M1 := M.pt (gm := fm.set 12 (.int (nI 2))) hne.symm (by rw [List.length_set]; exact M.1.2) (List.getElem?_set_ne (by decide)) (List.getElem?_set_ne (by decide))
  have nq : q ≠ ma := fun w => by rw [w, M.1.1] at hm; cases hm
  have hm1 : (oput σ ma (.inr (5, fm.set 12 (.int (nI 2))))).1 q = some (.inr (7, fs)) := (oput_ne nq).trans hm
  obtain ⟨gs, k, c, n1, n2, n3, n4, n5⟩ := Nb
  have nb' : b' ≠ ma := fun w => by rw [w, M.1.1] at n1; cases n1
  obtain ⟨xv, V1, V2⟩ := c_valueOf (κ := κ) (T := T) (n := N + 2) M1 (by rw [List.getElem?_set_ne (by decide)]; exact hsc) hs ((oput_ne nb').trans n1) n2 n4 hT hl'
  have V3 := c_measure (κ := κ) (T := T) (n := N + 2) (c := 213) M1 H V2 ⟨fun w => by omega, fun w => by omega, fun _ => rfl, fun w => by omega⟩
  have R1 := h_sn (κ := κ) (T := T) (n := N + 1) M H hsc hen hs NS hT hT' hl'
  have e15 : ovr (ofd σ (some q) 7 15) = some (some l') := by rw [ofd_at hm, h15]; rfl
  have e9 : ovr (ofd (oput σ ma (.inr (5, fm.set 12 (.int (nI 2))))) (some q) 7 9) = some (some b') := by rw [ofd_at hm1, h9]; rfl
  have e2 : ovi (ofd (oput σ ma (.inr (5, fm.set 12 (.int (nI 2))))) (some q) 7 2) = some (nI vs.length) := by rw [ofd_at hm1, h2]; rfl
  obtain ⟨σ', ha', hl2, hp', T1, T2, -, T7, T8, T9⟩ := h_triple (κ := κ) (T := T) (n := N) (x := xmSm T f pp ee h env vs ps) (y := xv) (z := xmOut h v + 1) M1 hk hne hml hhl (fun q hq => by
    have hq : σ.2.1 ≤ q := hq
    rw [oput_ne (by omega)]
    exact hfr q hq)
  rw [oE_X3_cons]
  unfold ob_X3_cons
  rw [e15, obn_at, oob_at M.1.1, obn_at, R1]
  unfold oln'
  simp only
  rw [hSe_no hb, e9, obn_at, e2, obn_at, oob_at M1.1.1, obn_at, V1]
  simp only
  rw [oob_at M1.1.1, obn_at, V3]
  simp only
  rw [oob_at M1.1.1, obn_at, T1, oin_at]
  exact ⟨σ', ha', hl2, hp', rfl, T2, T7, T8, T9⟩
/-- a list -/
theorem h_pl18 (P : hPo T pp ee f fc tN L V nm p (hW wn ws wa) ma ha0 σ0) (hT : 9010 ≤ T) (I : hXa κ T kk pp ee f fc tN B D V nm p σ0 nf ma ha0 wn ws wa fm0 hl0 σ G top ha hl hp fm nu h fr) (H : xmH cnt kk f pp ee tE tN R L h) (hz : h.1.length ≤ 60000 ∧ h.2.1.length ≤ 20006 ∧ h.2.2.length ≤ 20000) (En : xmEn tE tN h env vs) (hsc : fm[10]? = some (.int (nI sc))) (hs : hSc G (hAr G.2.1 h.2.1) top hp vs.reverse sc) (hb : top + 16 * (nu + 1) + hPt fr ≤ Kb + xmTot h) (hK : Kb ≤ 322000) (w : xmE cnt kk f pp ee tE tN R L (.inner 18 d z a b) env y) (Tt : hTt κ T kk pp ee f fc tN B D V nm p σ0 nf (.inner 18 d z a b) env e) : (∃ fs, σ.1 e = some (.inr (7, fs)) ∧ fs[0]? = some (.int 203)) ∧ hPl κ T kk pp ee f fc tN B D V nm p σ0 nf ma ha0 wn ws wa fm0 hl0 Kb nu fr (oF κ T (N + 5) 98 [va_rf (some ma), va_rf (some e)] σ) (xmBg T f pp ee h fr nu env vs (.inner 18 d z a b)) := by
  have M := I.1.1
  have HH := I.1.2
  have K := I.2.1.1
  have h12 := w.l12
  have ev := En.1
  have tt := H.2.1.2
  have hml := P.2.2.2.1.2.2.2
  have ml := I.ml hml
  have hne := K.2.2.2.2.2
  have f12 := I.2.2.2.2.2.2.1
  have pP := w.2.1.2
  obtain ⟨⟨X, lo1, fk, ⟨hlo, hfk⟩, c⟩, E, ⟨nw1, nw2⟩, -⟩ := Tt
  obtain ⟨c0, l', su, c1, cl⟩ := c
  have g := w.1.1
  have rr := w.1.2
  unfold gOk at g
  unfold rWo at rr
  simp only [reduceIte, Nat.reduceEqDiff, or_self] at g rr
  obtain ⟨gs, n1, F⟩ := P.nd K (show p ≤ e by have := c0.1; omega) c1
  obtain ⟨b', b1, b2⟩ := P.us K E En rr.2
  have h0 : gs[0]? = some (.int 203) := by rw [F 0 (by decide) (by decide)]; rfl
  have h2 : gs[2]? = some (.int (nI vs.length)) := by rw [F 2 (by decide) (by decide), ev]; rfl
  have h9 : gs[9]? = some (.ref b') := by
    rw [F 9 (by decide) (by decide)]
    show some (va_rf (nR fc pp ee nm env d.2.1)) = _
    rw [b1]; rfl
  have h15 : gs[15]? = some (.ref l') := by rw [F 15 (by decide) (by decide)]; rfl
  have e0 : ovi (ofd σ (some e) 7 0) = some 203 := by rw [ofd_at n1, h0]; rfl
  have S1 := P.sq K E En H (by omega) hlo cl rr.1 g.2.2 pP.2.2.2.2.1.1 pP.2.2.1.1.1.2 nw1
  have ty := (En.get rr.2).2.2
  rw [g.2.1] at ty
  have hv4 : (xmGet f pp ee env vs d.2.1).1 = 4 := by
    rcases ty with ⟨q, -⟩ | ⟨q, -⟩ | ⟨q, -⟩ | ⟨-, q, -⟩ | ⟨q, -⟩
    · exact absurd q (by decide)
    · exact absurd q (by decide)
    · exact absurd q (by decide)
    · exact q
    · exact absurd q (by decide)
  refine ⟨⟨gs, n1, h0⟩, ?_⟩
  unfold xmBg
  simp only [reduceIte, Nat.reduceEqDiff, or_self]
  rw [oE_X3_plain]
  unfold ob_X3_plain
  rw [e0, obn_at, if_neg (by decide), if_neg (by decide), if_neg (by decide), if_neg (by decide), if_pos rfl, oob_at M.1.1, obn_at]
  by_cases cb : xmB (xmSm T f pp ee h env vs d.2.2.2.1.2) = true
  · obtain ⟨σ', ha', hl', hp', T1, T2, ⟨T3, T4, T5, T6⟩, T7, T8, T9⟩ := h_cons (κ := κ) (T := T) (n := N) M HH hsc f12 hs n1 h9 h2 h15 b2 hv4 S1 (by omega) (by omega) (by omega) (by omega) hne.symm ml K.2.2.2.2.1 K.2.1 cb
    obtain ⟨kk', co⟩ := T7.ke K.2.1 K.2.2.2.2.1 hne T8 T9
    have sz : xmSz h (xmGet f pp ee env vs d.2.1).2 ≤ 20001 := by
      have := H.sz (xmGet f pp ee env vs d.2.1).2
      omega
    have eo : xmOut h (xmGet f pp ee env vs d.2.1) + 1 = xmNi (xmSz h (xmGet f pp ee env vs d.2.1).2 + 1) := by
      unfold xmOut
      rw [if_neg (by omega), if_neg (by omega), if_pos hv4, ← Int64.toInt_inj, j_add (by rw [xmNi_int (by omega)]; show _ ≤ _ + (1 : Int); omega) (by rw [xmNi_int (by omega)]; show _ + (1 : Int) ≤ _; omega), xmNi_int (by omega), xmNi_int (by omega)]
      show (_ : Int) + 1 = _
      omega
    have hv' : xmGet f pp ee env vs d.2.1 = (4, (xmGet f pp ee env vs d.2.1).2) := by rw [← hv4]
    have H' := HH.li (c := (xmSm T f pp ee h env vs d.2.2.2.1.2, (xmGet f pp ee env vs d.2.1).2, xmSz h (xmGet f pp ee env vs d.2.1).2 + 1)) (a := top) (top' := top + 3) (hp' := hp') (Nat.le_refl _) (Nat.le_refl _) T3 T4 (by rw [← hv']; exact T5) (by rw [T6]; exact eo) (by omega)
    have I' := I.to (n' := nu) T2 H' kk' co ⟨⟨[], by rw [List.append_nil]⟩, ⟨[], by rw [List.append_nil]⟩, ⟨[top], rfl⟩⟩ (hKp.up (by omega) T3) (((hFx.rf _ fm).st (by decide)).st (by decide)) (by rw [List.getElem?_set_ne (by decide), List.getElem?_set_ne (by decide)]; exact I.2.2.2.2.2.1) (by rw [List.getElem?_set_ne (by decide), List.getElem?_set_ne (by decide)]; exact I.2.2.2.2.2.2.2.2)
    rw [if_pos cb, T1]
    refine ⟨(4, xmNi h.2.2.length), xmNi top, σ', _, _, ha', hl', hp', _, rfl, rfl, I', Or.inr (Or.inr (Or.inr ⟨rfl, Or.inr ⟨h.2.2.length, top, rfl, ?_, rfl⟩⟩)), ?_⟩
    · show (G.2.2 ++ [top])[h.2.2.length]? = some top
      rw [← HH.1.2.2.1, List.getElem?_append_right (Nat.le_refl _), Nat.sub_self]
      rfl
    · refine Nat.le_trans (Nat.add_le_add_left (hVt_le _ _) _) ?_
      show top + 3 + 16 * nu + hPt fr + 9 ≤ Kb + xmTot h
      omega
  · obtain ⟨σ', ha', hl', hp', T1, T2, T7, T8, T9⟩ := h_consE (κ := κ) (T := T) (N := N) M HH hsc f12 hs n1 h9 h2 h15 b2 hv4 S1 (by omega) (by omega) (by omega) (by omega) hne.symm ml K.2.2.2.2.1 K.2.1 cb
    rw [if_neg cb, T1]
    have Ed := I.ed (e := 2) hml (show top ≤ 335000 by omega)
    refine ⟨_, σ', rfl, ?_⟩
    obtain ⟨ha1, hl1, hp1, top1, fm1, ⟨M1, -⟩, K1, TO⟩ := Ed.to
    have q1 := M1.1.1
    rw [oput_eq] at q1
    injection q1 with q1; injection q1 with q1; injection q1 with _ q1
    subst q1
    have q4 := M1.2.1.1
    rw [List.getElem?_set_ne (by decide), M.2.1.1] at q4
    injection q4 with q4; injection q4 with q4
    subst q4
    have q5 := M1.2.2.1
    rw [oput_ne hne, M.2.2.1] at q5
    injection q5 with q5; injection q5 with q5; injection q5 with _ q5; injection q5 with q5 _
    subst q5
    obtain ⟨kk', co⟩ := T7.ke K1.2.1 K1.2.2.2.2.1 hne T8 T9
    exact TO σ' ha' hl' hp' (top + 3) _ T2 (by omega) kk' co (((hFx.rf _ _).st (by decide)).st (by decide))
/-- ( E ) -/
theorem h_st16 (P : hPo T pp ee f fc tN L V nm p (hW wn ws wa) ma ha0 σ0) (hT : 9010 ≤ T) (I : hXa κ T kk pp ee f fc tN B D V nm p σ0 nf ma ha0 wn ws wa fm0 hl0 σ G top ha hl hp fm nu h fr) (H : xmH cnt kk f pp ee tE tN R L h) (hz : h.1.length ≤ 60000 ∧ h.2.1.length ≤ 20006 ∧ h.2.2.length ≤ 20000) (En : xmEn tE tN h env vs) (hsc : fm[10]? = some (.int (nI sc))) (hs : hSc G (hAr G.2.1 h.2.1) top hp vs.reverse sc) (hb : top + 16 * (nu + 1) + hPt fr ≤ Kb + xmTot h) (hK : Kb ≤ 322000) (w : xmE cnt kk f pp ee tE tN R L (.inner 16 d z a b) env y) (Tt : hTt κ T kk pp ee f fc tN B D V nm p σ0 nf (.inner 16 d z a b) env e) : (∃ fs, σ.1 e = some (.inr (7, fs)) ∧ fs[0]? = some (.int 40)) ∧ hOt κ T kk pp ee f fc tN B D V nm p σ0 nf ma ha0 wn ws wa fm0 hl0 Kb (hSx T (oF κ T (N + 4)) κ (some ma) (some e) 40 σ) (xmBg T f pp ee h fr nu env vs (.inner 16 d z a b)) := by
  have M := I.1.1
  have HH := I.1.2
  have K := I.2.1.1
  have h12 := w.l12
  have ev := En.1
  have tt := H.2.1.2
  have hml := P.2.2.2.1.2.2.2
  have ml := I.ml hml
  have hne := K.2.2.2.2.2
  have f12 := I.2.2.2.2.2.2.1
  have pP := w.2.1.2
  obtain ⟨⟨X, lo1, fk, ⟨hlo, hfk⟩, c⟩, E, hw⟩ := Tt
  obtain ⟨c0, x, c1, ca⟩ := c
  obtain ⟨gs, n1, F⟩ := P.nd K (show p ≤ e by have := c0.1; omega) c1
  have e12 : ovr (ofd σ (some e) 7 12) = some (some x) := by rw [ofd_at n1, F 12 (by decide) (by decide)]; rfl
  refine ⟨⟨gs, n1, by rw [F 0 (by decide) (by decide)]; rfl⟩, ?_⟩
  unfold xmBg
  simp only [reduceIte, Nat.reduceEqDiff, or_self]
  unfold hSx
  rw [if_pos rfl, e12, obn_at]
  have en : nF (.inner 16 d z a b) = 0 + nF a + nF b := rfl
  exact hOt.go I ⟨⟨X, lo1, fk, ⟨hlo, by omega⟩, ca⟩, E, hw.2.1⟩ hsc hs (by omega)
/-- let -/
theorem h_st1 (P : hPo T pp ee f fc tN L V nm p (hW wn ws wa) ma ha0 σ0) (hT : 9010 ≤ T) (I : hXa κ T kk pp ee f fc tN B D V nm p σ0 nf ma ha0 wn ws wa fm0 hl0 σ G top ha hl hp fm nu h fr) (H : xmH cnt kk f pp ee tE tN R L h) (hz : h.1.length ≤ 60000 ∧ h.2.1.length ≤ 20006 ∧ h.2.2.length ≤ 20000) (En : xmEn tE tN h env vs) (hsc : fm[10]? = some (.int (nI sc))) (hs : hSc G (hAr G.2.1 h.2.1) top hp vs.reverse sc) (hb : top + 16 * (nu + 1) + hPt fr ≤ Kb + xmTot h) (hK : Kb ≤ 322000) (hfr : fr.length < 1683) (w : xmE cnt kk f pp ee tE tN R L (.inner 1 d z a b) env y) (Tt : hTt κ T kk pp ee f fc tN B D V nm p σ0 nf (.inner 1 d z a b) env e) : (∃ fs, σ.1 e = some (.inr (7, fs)) ∧ fs[0]? = some (.int 212)) ∧ hOt κ T kk pp ee f fc tN B D V nm p σ0 nf ma ha0 wn ws wa fm0 hl0 Kb (hSx T (oF κ T (N + 4)) κ (some ma) (some e) 212 σ) (xmBg T f pp ee h fr nu env vs (.inner 1 d z a b)) := by
  have M := I.1.1
  have HH := I.1.2
  have K := I.2.1.1
  have h12 := w.l12
  have ev := En.1
  have tt := H.2.1.2
  have hml := P.2.2.2.1.2.2.2
  have ml := I.ml hml
  have hne := K.2.2.2.2.2
  have f12 := I.2.2.2.2.2.2.1
  have pP := w.2.1.2
  obtain ⟨⟨X, lo1, fk, ⟨hlo, hfk⟩, c⟩, E, hw⟩ := Tt
  obtain ⟨-, c0, x, y', w', c1, c2, ca, cb⟩ := c
  have pe : p ≤ e := by have := c0.1; omega
  obtain ⟨gs, n1, F⟩ := P.nd K pe c1
  obtain ⟨E1, E2⟩ := w.k1
  have ev2 := E.ap P hlo (E2.inL (List.mem_append_right _ (List.mem_singleton_self _))) c2
  have en : nF (.inner 1 d z a b) = 0 + nF a + nF b := rfl
  have e10 : ovi (ofd σ (some ma) 5 10) = some (nI sc) := by rw [ofd_at M.1.1, hsc]; rfl
  refine ⟨⟨gs, n1, by rw [F 0 (by decide) (by decide)]; rfl⟩, ?_⟩
  unfold xmBg
  simp only [reduceIte, Nat.reduceEqDiff]
  obtain ⟨WN, WS, WA, Wt, Fk⟩ := I.2.2.1
  obtain ⟨σ', A1, A2, A3, A4, A5⟩ := h_await (κ := κ) (T := T) (n := N + 3) (wc := fr.length) (x1 := some e) (s := nI sc) (a := 0) M.1.1 M.1.2 I.2.2.2.2.1 hfr Wt (fun b eb => by injection eb with eb; subst eb; exact ⟨gs, n1⟩)
  obtain ⟨-, ⟨q1, q2, q3⟩, d1, d2, d3, -⟩ := id Wt
  have hwn : ha ≠ wn := fun e => by have := M.2.2.1; rw [e, q1] at this; cases this
  have hws : ha ≠ ws := fun e => by have := M.2.2.1; rw [e, q2] at this; cases this
  have hwa : ha ≠ wa := fun e => by have := M.2.2.1; rw [e, q3] at this; cases this
  have M' : hMa ma (fm.set 9 (.int (nI (fr.length + 1)))) ha hl hp top σ' := by
    obtain ⟨⟨m1, m2⟩, ⟨m3, m4⟩, m5, m6⟩ := id M
    exact ⟨⟨A2, by rw [List.length_set]; exact m2⟩, ⟨by rw [List.getElem?_set_ne (by decide)]; exact m3, by rw [List.getElem?_set_ne (by decide)]; exact m4⟩, (A4 ha hne hwn hws hwa).trans m5, m6⟩
  have I' := I.aw (F := .inl (d.1 + 1, b, env, vs)) P M' ((hFx.rf _ fm).st (by decide)) (by rw [List.getElem?_set_self (by rw [M.1.2]; decide)]) (by rw [List.getElem?_set_ne (by decide)]; exact I.2.2.2.2.2.2.2.1) A3 ⟨⟨e, sc, by unfold va_up; rw [if_pos rfl], ⟨pe, _, y', c1, rfl, ⟨X, lo1, fk + nF a, ⟨hlo, by show fk + nF a + nF b ≤ nf; omega⟩, cb⟩, ev2, hw.2.2⟩, by unfold upd; rw [if_pos rfl], hs⟩, Fk.up fr (Nat.le_refl _)⟩ A4 A5
  have n2 : σ'.1 e = some (.inr (7, gs)) := by
    rw [A4 e (fun e' => by rw [e', M.1.1] at n1; cases n1) (fun e' => by rw [e', q1] at n1; cases n1) (fun e' => by rw [e', q2] at n1; cases n1) (fun e' => by rw [e', q3] at n1; cases n1)]
    exact n1
  have e12 : ovr (ofd σ' (some e) 7 12) = some (some x) := by rw [ofd_at n2, F 12 (by decide) (by decide)]; rfl
  unfold hSx
  rw [if_neg (by decide), if_neg (by decide), if_neg (by decide), if_pos rfl, e10, obn_at, oob_at M.1.1, obn_at, A1, ocv_at, e12, obn_at]
  exact hOt.go I' ⟨⟨X, lo1, fk, ⟨hlo, by omega⟩, ca⟩, E, hw.2.1⟩ (by rw [List.getElem?_set_ne (by decide)]; exact hsc) hs (by show top + 16 * nu + (2 + hPt fr) ≤ Kb + xmTot h; omega)
/-- if -/
theorem h_st4 (P : hPo T pp ee f fc tN L V nm p (hW wn ws wa) ma ha0 σ0) (hT : 9010 ≤ T) (I : hXa κ T kk pp ee f fc tN B D V nm p σ0 nf ma ha0 wn ws wa fm0 hl0 σ G top ha hl hp fm nu h fr) (H : xmH cnt kk f pp ee tE tN R L h) (hz : h.1.length ≤ 60000 ∧ h.2.1.length ≤ 20006 ∧ h.2.2.length ≤ 20000) (En : xmEn tE tN h env vs) (hsc : fm[10]? = some (.int (nI sc))) (hs : hSc G (hAr G.2.1 h.2.1) top hp vs.reverse sc) (hb : top + 16 * (nu + 1) + hPt fr ≤ Kb + xmTot h) (hK : Kb ≤ 322000) (hN : 1310 ≤ N) (w : xmE cnt kk f pp ee tE tN R L (.inner 4 d z a b) env y) (Tt : hTt κ T kk pp ee f fc tN B D V nm p σ0 nf (.inner 4 d z a b) env e) : (∃ fs, σ.1 e = some (.inr (7, fs)) ∧ fs[0]? = some (.int 207)) ∧ hOt κ T kk pp ee f fc tN B D V nm p σ0 nf ma ha0 wn ws wa fm0 hl0 Kb (hSx T (oF κ T (N + 4)) κ (some ma) (some e) 207 σ) (xmBg T f pp ee h fr nu env vs (.inner 4 d z a b)) := by
  have M := I.1.1
  have HH := I.1.2
  have K := I.2.1.1
  have h12 := w.l12
  have ev := En.1
  have tt := H.2.1.2
  have hml := P.2.2.2.1.2.2.2
  have ml := I.ml hml
  have hne := K.2.2.2.2.2
  have f12 := I.2.2.2.2.2.2.1
  have pP := w.2.1.2
  obtain ⟨⟨X, lo1, fk, ⟨hlo, hfk⟩, c⟩, E, hw⟩ := Tt
  obtain ⟨-, c0, cc, x, y', c1, c2, cb⟩ := c
  obtain ⟨⟨g1, g2, g3, g4, g5, g6⟩, d', z', t1, t2, rfl, E1, E2, -⟩ := w.k4
  obtain ⟨x', x1, ca, cb⟩ := cb
  injection x1 with x1
  subst x1
  obtain ⟨gs, n1, F⟩ := P.nd K (show p ≤ e by have := c0.1; omega) c1
  have hw4 : cNw T f pp ee a ∧ cBn a := hw.2.1
  have kd : kD a = kN a + kH a := rfl
  have hk := g6.2
  have dp := (hDp_k a false g3 hw4.2).2
  have CN := P.cn K E En H (by omega) hlo a false (fun _ => none) 0 cc g3 c2 g1 g2 g4 g5 g6.1 hw4.1 (by omega)
  have R := (h_holds (κ := κ) M HH hsc f12 hs (by omega) (by omega) (by omega) a).1 (fun _ => none) cc N CN (by omega)
  have en : nF (.inner 4 d z a (.inner 31 d' z' t1 t2)) = 0 + 0 + (0 + nF t1 + nF t2) := rfl
  have e14 : ovr (ofd σ (some e) 7 14) = some (some cc) := by rw [ofd_at n1, F 14 (by decide) (by decide)]; rfl
  refine ⟨⟨gs, n1, by rw [F 0 (by decide) (by decide)]; rfl⟩, ?_⟩
  unfold xmBg
  simp only [reduceIte, Nat.reduceEqDiff]
  unfold hSx
  rw [if_neg (by decide), if_neg (by decide), if_pos rfl, e14, obn_at, oob_at M.1.1, obn_at]
  cases q : xmC T f pp ee h env vs a 0 with
  | none =>
    rw [q] at R
    obtain ⟨cb', R⟩ := R
    have nn : e ≠ ma := fun q => by rw [q, M.1.1] at n1; cases n1
    have n2 : (oput σ ma (.inr (5, fm.set 12 (.int 2)))).1 e = some (.inr (7, gs)) := (oput_ne nn).trans n1
    have e12 : ovr (ofd (oput σ ma (.inr (5, fm.set 12 (.int 2)))) (some e) 7 12) = some (some x) := by rw [ofd_at n2, F 12 (by decide) (by decide)]; rfl
    have e13 : ovr (ofd (oput σ ma (.inr (5, fm.set 12 (.int 2)))) (some e) 7 13) = some (some y') := by rw [ofd_at n2, F 13 (by decide) (by decide)]; rfl
    rw [R, oin_at]
    split
    · rw [e13, obn_at]
      exact hOt.en (q := 2) I hml (by omega)
    · rw [e12, obn_at]
      exact hOt.en (q := 2) I hml (by omega)
  | some cb' =>
    rw [q] at R
    have R : oF κ T (N + 4) 87 [va_rf (some ma), va_rf (some cc)] σ = some (some (.int (b01 cb')), σ) := R
    have e12 : ovr (ofd σ (some e) 7 12) = some (some x) := by rw [ofd_at n1, F 12 (by decide) (by decide)]; rfl
    have e13 : ovr (ofd σ (some e) 7 13) = some (some y') := by rw [ofd_at n1, F 13 (by decide) (by decide)]; rfl
    rw [R, oin_at]
    cases cb' with
    | true =>
      rw [if_neg (show ¬ b01 true = 0 by decide), e12, obn_at]
      exact hOt.go (t := t1) I ⟨⟨X, lo1, fk, ⟨hlo, by omega⟩, ca⟩, E, hw.2.2.2.1⟩ hsc hs (by omega)
    | false =>
      rw [if_pos (show b01 false = 0 from rfl), e13, obn_at]
      exact hOt.go (t := t2) I ⟨⟨X, lo1, fk + nF t1, ⟨hlo, by omega⟩, cb⟩, E, hw.2.2.2.2⟩ hsc hs (by omega)
/-- assert -/
theorem h_st5 (P : hPo T pp ee f fc tN L V nm p (hW wn ws wa) ma ha0 σ0) (hT : 9010 ≤ T) (I : hXa κ T kk pp ee f fc tN B D V nm p σ0 nf ma ha0 wn ws wa fm0 hl0 σ G top ha hl hp fm nu h fr) (H : xmH cnt kk f pp ee tE tN R L h) (hz : h.1.length ≤ 60000 ∧ h.2.1.length ≤ 20006 ∧ h.2.2.length ≤ 20000) (En : xmEn tE tN h env vs) (hsc : fm[10]? = some (.int (nI sc))) (hs : hSc G (hAr G.2.1 h.2.1) top hp vs.reverse sc) (hb : top + 16 * (nu + 1) + hPt fr ≤ Kb + xmTot h) (hK : Kb ≤ 322000) (hN : 1310 ≤ N) (w : xmE cnt kk f pp ee tE tN R L (.inner 5 d z a b) env y) (Tt : hTt κ T kk pp ee f fc tN B D V nm p σ0 nf (.inner 5 d z a b) env e) : (∃ fs, σ.1 e = some (.inr (7, fs)) ∧ fs[0]? = some (.int 201)) ∧ hOt κ T kk pp ee f fc tN B D V nm p σ0 nf ma ha0 wn ws wa fm0 hl0 Kb (hSx T (oF κ T (N + 4)) κ (some ma) (some e) 201 σ) (xmBg T f pp ee h fr nu env vs (.inner 5 d z a b)) := by
  have M := I.1.1
  have HH := I.1.2
  have K := I.2.1.1
  have h12 := w.l12
  have ev := En.1
  have tt := H.2.1.2
  have hml := P.2.2.2.1.2.2.2
  have ml := I.ml hml
  have hne := K.2.2.2.2.2
  have f12 := I.2.2.2.2.2.2.1
  have pP := w.2.1.2
  obtain ⟨⟨X, lo1, fk, ⟨hlo, hfk⟩, c⟩, E, hw⟩ := Tt
  obtain ⟨c0, cc, x, c1, c2, cb⟩ := c
  obtain ⟨⟨g1, g2, g3, g4, g5, g6⟩, E1⟩ := w.k5
  obtain ⟨gs, n1, F⟩ := P.nd K (show p ≤ e by have := c0.1; omega) c1
  have hw4 : cNw T f pp ee a ∧ cBn a := hw.2.1
  have kd : kD a = kN a + kH a := rfl
  have hk := g6.2
  have dp := (hDp_k a false g3 hw4.2).2
  have CN := P.cn K E En H (by omega) hlo a false (fun _ => none) 0 cc g3 c2 g1 g2 g4 g5 g6.1 hw4.1 (by omega)
  have R := (h_holds (κ := κ) M HH hsc f12 hs (by omega) (by omega) (by omega) a).1 (fun _ => none) cc N CN (by omega)
  have en : nF (.inner 5 d z a b) = 0 + 0 + nF b := rfl
  have e14 : ovr (ofd σ (some e) 7 14) = some (some cc) := by rw [ofd_at n1, F 14 (by decide) (by decide)]; rfl
  have nn : e ≠ ma := fun q => by rw [q, M.1.1] at n1; cases n1
  have E12 : ∀ v : Value, ovr (ofd (oput σ ma (.inr (5, fm.set 12 v))) (some e) 7 12) = some (some x) := fun v => by rw [ofd_at ((oput_ne nn).trans n1), F 12 (by decide) (by decide)]; rfl
  refine ⟨⟨gs, n1, by rw [F 0 (by decide) (by decide)]; rfl⟩, ?_⟩
  unfold xmBg
  simp only [reduceIte, Nat.reduceEqDiff]
  unfold hSx oj_X3_start_210
  rw [if_neg (by decide), if_pos rfl, e14, obn_at, oob_at M.1.1, obn_at]
  cases q : xmC T f pp ee h env vs a 0 with
  | none =>
    rw [q] at R
    obtain ⟨cb', R⟩ := R
    have m' : (oput σ ma (.inr (5, fm.set 12 (.int 2)))).1 ma = some (.inr (5, fm.set 12 (.int 2))) := oput_eq _ _ _
    have f2 : ovi (ofd (oput σ ma (.inr (5, fm.set 12 (.int 2)))) (some ma) 5 12) = some 2 := by rw [ofd_at m', List.getElem?_set_self (by rw [M.1.2]; decide)]; rfl
    rw [R, oin_at]
    split
    · rw [f2, obn_at, if_neg (by decide), E12, obn_at]
      exact hOt.en (q := 2) I hml (by omega)
    · rw [E12, obn_at]
      exact hOt.en (q := 2) I hml (by omega)
  | some cb' =>
    rw [q] at R
    have R : oF κ T (N + 4) 87 [va_rf (some ma), va_rf (some cc)] σ = some (some (.int (b01 cb')), σ) := R
    have e12 : ovr (ofd σ (some e) 7 12) = some (some x) := by rw [ofd_at n1, F 12 (by decide) (by decide)]; rfl
    have f0 : ovi (ofd σ (some ma) 5 12) = some 0 := by rw [ofd_at M.1.1, f12]; rfl
    rw [R, oin_at]
    cases cb' with
    | true =>
      rw [if_neg (show ¬ b01 true = 0 by decide), e12, obn_at]
      exact hOt.go I ⟨⟨X, lo1, fk, ⟨hlo, by omega⟩, cb⟩, E, hw.2.2⟩ hsc hs (by omega)
    | false =>
      rw [if_pos (show b01 false = 0 from rfl), f0, obn_at, if_pos rfl, opf_at M.1.1 (by rw [M.1.2]; decide), obn_at, E12, obn_at]
      exact hOt.en (q := 3) I hml (by omega)
end HYS
