/-! run(), the class: plain() -/
section HYP
variable {κ : oKv} {T n cnt : Nat} {kk pp ee f fc : Nat → Int32} {tE tN : Nat → tY} {R : Nat → Int32} {L : List Nat} {y0 : tY} {B : Nat → Nat} {D : cDt} {V : oSt} {nm : Nat → Option Nat} {p : Nat} {σ0 : oSt} {nf ma ha0 wn ws wa : Nat} {fm0 : List Value} {hl0 : Nat} {σ σ' : oSt} {G G' : hG} {top ha hl top' ha' hl' : Nat} {hp hp' : Nat → Int64} {fm gm : List Value} {nu n' : Nat} {h h' : xmHp} {fr : List xmFr} {env : List Nat} {vs : List xmV} {Kb N sc e : Nat} {d : Nat × Nat × Nat × tS × tS} {z : Unit} {a b : tT} {y : tY}
/-- newArray() behind an end -/
theorem h_newA' {x : Int64} (hm : σ.1 ma = some (.inr (5, fm))) (hen : fm[12]? = some (.int 2)) : oF κ T (N + 1) 94 [va_rf (some ma), .long x] σ = some (some (.long 0), σ) := by
  have e12 : ovi (ofd σ (some ma) 5 12) = some 2 := by rw [ofd_at hm, hen]; rfl
  rw [oE_X3_newArray]
  unfold ob_X3_newArray oj_X3_newArray_22 oj_X3_newArray_56
  rw [e12, obn_at, if_neg (by decide), obn_at, if_neg (by decide), obn_at, if_neg (by decide)]
/-- an end that a sum made -/
theorem hSe_no {x : Int64} (hx : ¬ xmB x = true) : hSe σ ma fm 0 x = oput σ ma (.inr (5, fm.set 12 (.int (nI 2)))) := by
  unfold hSe
  rw [if_neg hx, if_pos rfl]
  rfl
theorem hSe_ok {x : Int64} {en : Int32} (hx : xmB x = true) : hSe σ ma fm en x = σ := by
  unfold hSe
  rw [if_pos hx]
/-- a value, nothing changes -/
theorem hPl.v {v : xmV} {x : Int64} {r : oRs} (I : hXa κ T kk pp ee f fc tN B D V nm p σ0 nf ma ha0 wn ws wa fm0 hl0 σ G top ha hl hp fm nu h fr) (hr : r = some (some (.long x), σ)) (hv : hV G v x) (hb : top + 16 * (nu + 1) + hPt fr ≤ Kb + xmTot h) : hPl κ T kk pp ee f fc tN B D V nm p σ0 nf ma ha0 wn ws wa fm0 hl0 Kb nu fr r (.inr (h, fr, nu, .inr v)) := ⟨v, x, σ, G, top, ha, hl, hp, fm, rfl, hr, I, hv, by show top + 16 * nu + hPt fr + hVt h v ≤ Kb + xmTot h; have := hVt_le h v; omega⟩
theorem hPl.en {q : Nat} {x : Int64} {r : oRs} (I : hXa κ T kk pp ee f fc tN B D V nm p σ0 nf ma ha0 wn ws wa fm0 hl0 σ G top ha hl hp fm nu h fr) (hml : ma < σ0.2.1) (ht : top ≤ 335000) (hr : r = some (some (.long x), oput σ ma (.inr (5, fm.set 12 (.int (nI q)))))) : hPl κ T kk pp ee f fc tN B D V nm p σ0 nf ma ha0 wn ws wa fm0 hl0 Kb nu fr r (.inl (q, nu)) := ⟨x, _, hr, I.ed hml ht⟩
/-- an S -/
theorem h_pl10 (P : hPo T pp ee f fc tN L V nm p (hW wn ws wa) ma ha0 σ0) (hT : 9010 ≤ T) (I : hXa κ T kk pp ee f fc tN B D V nm p σ0 nf ma ha0 wn ws wa fm0 hl0 σ G top ha hl hp fm nu h fr) (H : xmH cnt kk f pp ee tE tN R L h) (hz : h.1.length ≤ 60000 ∧ h.2.1.length ≤ 20006 ∧ h.2.2.length ≤ 20000) (En : xmEn tE tN h env vs) (hsc : fm[10]? = some (.int (nI sc))) (hs : hSc G (hAr G.2.1 h.2.1) top hp vs.reverse sc) (hb : top + 16 * (nu + 1) + hPt fr ≤ Kb + xmTot h) (hK : Kb ≤ 322000) (w : xmE cnt kk f pp ee tE tN R L (.inner 10 d z a b) env y) (Tt : hTt κ T kk pp ee f fc tN B D V nm p σ0 nf (.inner 10 d z a b) env e) : (∃ fs, σ.1 e = some (.inr (7, fs)) ∧ fs[0]? = some (.int 400)) ∧ hPl κ T kk pp ee f fc tN B D V nm p σ0 nf ma ha0 wn ws wa fm0 hl0 Kb nu fr (oF κ T (N + 4) 98 [va_rf (some ma), va_rf (some e)] σ) (xmBg T f pp ee h fr nu env vs (.inner 10 d z a b)) := by
  have M := I.1.1
  have HH := I.1.2
  have K := I.2.1.1
  have h12 := w.l12
  have ev := En.1
  have tt := H.2.1.2
  have hml := P.2.2.2.1.2.2.2
  have ml := I.ml hml
  have hne := K.2.2.2.2.2
  have f12 := I.2.2.2.2.2.2.1
  have pP := w.2.1.2
  obtain ⟨⟨X, lo1, fk, ⟨hlo, hfk⟩, c⟩, E, ⟨nw1, nw2⟩, -⟩ := Tt
  obtain ⟨su, c⟩ := c
  have g := w.1.1
  have rr := w.1.2
  unfold gOk at g
  unfold rWo at rr
  simp only [reduceIte, Nat.reduceEqDiff, or_false, or_self, false_or] at g rr
  have al := pP.2.2.2.2.2.1.1 (Or.inl rfl)
  obtain ⟨pa, na, ta, cap, pc, c1, -, -, c4, -⟩ := id c
  obtain ⟨gs, n1, F⟩ := P.nd K (show p ≤ e by have := c4.1; omega) c1
  have h0 : gs[0]? = some (.int 400) := by rw [F 0 (by decide) (by decide)]; rfl
  have h6 : gs[6]? = some (.int (tAl kk d.2.2.2.1)) := by rw [F 6 (by decide) (by decide)]; rfl
  have h9 : gs[9]? = some (sLn (nR fc pp ee nm env) d.2.2.2.1.2) := by rw [F 9 (by decide) (by decide)]; rfl
  have h2 : gs[2]? = some (.int (nI vs.length)) := by rw [F 2 (by decide) (by decide), ev]; rfl
  have e0 : ovi (ofd σ (some e) 7 0) = some 400 := by rw [ofd_at n1, h0]; rfl
  have e6 : ovi (ofd σ (some e) 7 6) = some (tAl kk d.2.2.2.1) := by rw [ofd_at n1, h6]; rfl
  refine ⟨⟨gs, n1, h0⟩, ?_⟩
  unfold xmBg
  simp only [reduceIte, Nat.reduceEqDiff]
  rw [oE_X3_plain]
  unfold ob_X3_plain
  rw [e0, obn_at, if_neg (by decide), if_neg (by decide), if_neg (by decide), if_neg (by decide), if_neg (by decide), if_neg (by decide), if_neg (by decide), if_neg (by decide), if_pos rfl, e6, obn_at]
  by_cases ci : isN d.2.2.2.1.2 = true
  · rw [if_pos (al.mpr ci), if_pos ci]
    have hh := ci
    unfold isN at hh
    rw [decide_eq_true_iff] at hh
    obtain ⟨i1, i2, i3⟩ := hh
    obtain ⟨q, eq⟩ : ∃ q, d.2.2.2.1.2 = [q] := List.length_eq_one_iff.mp i1
    rw [eq] at i2 i3 ⊢
    have i2 : q.1 = 1 := i2
    have hu : rUs f pp ee R L env q.2.2 := rr.1 _ (by rw [eq]; exact xsEv (List.mem_singleton_self _) (by omega))
    obtain ⟨b', b1, gs', k, c', u1, u2, u3, u4, u5⟩ := P.us K E En hu
    have h9' : ovr (ofd σ (some e) 7 9) = some (some b') := by
      rw [ofd_at n1, h9, eq]
      have e1 : sNm [q] = [q] := by
        unfold sNm
        rw [List.filter_cons, if_pos (decide_eq_true (by omega))]
        rfl
      unfold sLn
      rw [e1]
      show ovr (some (va_rf (nR fc pp ee nm env q.2.2))) = _
      rw [b1]
      rfl
    have e2 : ovi (ofd σ (some e) 7 2) = some (nI vs.length) := by rw [ofd_at n1, h2]; rfl
    obtain ⟨xv, V1, V2⟩ := c_valueOf (κ := κ) (T := T) (n := N + 2) M hsc hs u1 u2 u4 (by omega) (by omega)
    rw [h9', obn_at, e2, obn_at, oob_at M.1.1, obn_at, V1]
    exact hPl.v I rfl V2 hb
  · rw [if_neg (fun w' => ci (al.mp w')), if_neg ci]
    have S1 := P.sq K E En H (by omega) hlo c rr.1 (g.2 (by revert ci; cases isN d.2.2.2.1.2 <;> simp)) pP.2.2.2.2.1.1 pP.2.2.1.1.1.2 nw1
    rw [oob_at M.1.1, obn_at, h_sn M HH hsc f12 hs S1 (by omega) (by omega) (by omega)]
    unfold oln'
    simp only
    by_cases cb : xmB (xmSm T f pp ee h env vs d.2.2.2.1.2) = true
    · rw [if_pos cb, hSe_ok cb]
      exact hPl.v I rfl (Or.inl ⟨Nat.zero_le _, rfl⟩) hb
    · rw [if_neg cb, hSe_no cb]
      exact hPl.en I hml (by omega) rfl
/-- a product -/
theorem h_pl11 (P : hPo T pp ee f fc tN L V nm p (hW wn ws wa) ma ha0 σ0) (hT : 9010 ≤ T) (I : hXa κ T kk pp ee f fc tN B D V nm p σ0 nf ma ha0 wn ws wa fm0 hl0 σ G top ha hl hp fm nu h fr) (H : xmH cnt kk f pp ee tE tN R L h) (hz : h.1.length ≤ 60000 ∧ h.2.1.length ≤ 20006 ∧ h.2.2.length ≤ 20000) (En : xmEn tE tN h env vs) (hsc : fm[10]? = some (.int (nI sc))) (hs : hSc G (hAr G.2.1 h.2.1) top hp vs.reverse sc) (hb : top + 16 * (nu + 1) + hPt fr ≤ Kb + xmTot h) (hK : Kb ≤ 322000) (w : xmE cnt kk f pp ee tE tN R L (.inner 11 d z a b) env y) (Tt : hTt κ T kk pp ee f fc tN B D V nm p σ0 nf (.inner 11 d z a b) env e) : (∃ fs, σ.1 e = some (.inr (7, fs)) ∧ fs[0]? = some (.int 42)) ∧ hPl κ T kk pp ee f fc tN B D V nm p σ0 nf ma ha0 wn ws wa fm0 hl0 Kb nu fr (oF κ T (N + 4) 98 [va_rf (some ma), va_rf (some e)] σ) (xmBg T f pp ee h fr nu env vs (.inner 11 d z a b)) := by
  have M := I.1.1
  have HH := I.1.2
  have K := I.2.1.1
  have h12 := w.l12
  have ev := En.1
  have tt := H.2.1.2
  have hml := P.2.2.2.1.2.2.2
  have ml := I.ml hml
  have hne := K.2.2.2.2.2
  have f12 := I.2.2.2.2.2.2.1
  have pP := w.2.1.2
  obtain ⟨⟨X, lo1, fk, ⟨hlo, hfk⟩, c⟩, E, ⟨nw1, nw2⟩, -⟩ := Tt
  obtain ⟨c0, l', r', su, su', c1, cl, cr⟩ := c
  have g := w.1.1
  have rr := w.1.2
  unfold gOk at g
  unfold rWo at rr
  simp only [reduceIte, Nat.reduceEqDiff, true_or, or_true, or_self] at g rr
  obtain ⟨gs, n1, F⟩ := P.nd K (show p ≤ e by have := c0.1; omega) c1
  have h0 : gs[0]? = some (.int 42) := by rw [F 0 (by decide) (by decide)]; rfl
  have h15 : gs[15]? = some (.ref l') := by rw [F 15 (by decide) (by decide)]; rfl
  have h16 : gs[16]? = some (.ref r') := by rw [F 16 (by decide) (by decide)]; rfl
  have e0 : ovi (ofd σ (some e) 7 0) = some 42 := by rw [ofd_at n1, h0]; rfl
  have e15 : ovr (ofd σ (some e) 7 15) = some (some l') := by rw [ofd_at n1, h15]; rfl
  have e16 : ovr (ofd σ (some e) 7 16) = some (some r') := by rw [ofd_at n1, h16]; rfl
  have S1 := P.sq K E En H (by omega) hlo cl rr.1 g.2.1 pP.2.2.2.2.1.1 pP.2.2.1.1.1.2 nw1
  have S2 := P.sq K E En H (by omega) hlo cr rr.2.1 g.2.2 pP.2.2.2.2.1.2.1 pP.2.2.1.1.2.2 nw2
  have bd := (xmSm_bd (T := T) H (by omega) En rr.1 g.2.1 pP.2.2.1.1.1.2).1
  refine ⟨⟨gs, n1, h0⟩, ?_⟩
  unfold xmBg
  simp only [reduceIte, Nat.reduceEqDiff, true_or, or_true]
  rw [oE_X3_plain]
  unfold ob_X3_plain
  rw [e0, obn_at, if_neg (by decide), if_pos rfl, e15, obn_at, oob_at M.1.1, obn_at, h_sn M HH hsc f12 hs S1 (by omega) (by omega) (by omega)]
  unfold oln'
  simp only
  by_cases b1 : xmB (xmSm T f pp ee h env vs d.2.2.2.1.2) = true
  · have R := h_prod (κ := κ) (T := T) (n := N) M HH hsc f12 hs S2 (by omega) (by omega) (by omega) b1
    rw [hSe_ok b1, e16, obn_at, oob_at M.1.1, obn_at]
    by_cases b2 : xmB (xmSm T f pp ee h env vs d.2.2.2.2.2) = true
    · rw [if_pos b2] at R
      rw [if_pos ⟨b1, b2⟩]
      by_cases b3 : ((xmSm T f pp ee h env vs d.2.2.2.1.2).toInt * (xmSm T f pp ee h env vs d.2.2.2.2.2).toInt).natAbs ≤ 1099511627776
      · rw [if_pos b3] at R ⊢
        have R : oF κ T (N + 3) 96 [va_rf (some ma), .long (xmSm T f pp ee h env vs d.2.2.2.1.2), va_rf (some r')] σ = some (some (.long (xmSm T f pp ee h env vs d.2.2.2.1.2 * xmSm T f pp ee h env vs d.2.2.2.2.2)), σ) := R
        rw [R]
        exact hPl.v I rfl (Or.inl ⟨Nat.zero_le _, rfl⟩) hb
      · rw [if_neg b3] at R ⊢
        obtain ⟨x, R⟩ := R
        rw [R]
        exact hPl.en I hml (by omega) rfl
    · rw [if_neg b2] at R
      rw [if_neg (fun q => b2 q.2)]
      obtain ⟨x, R⟩ := R
      rw [R]
      exact hPl.en I hml (by omega) rfl
  · have nn : e ≠ ma := fun q => by rw [q, M.1.1] at n1; cases n1
    have m' : (oput σ ma (.inr (5, fm.set 12 (.int (nI 2))))).1 ma = some (.inr (5, fm.set 12 (.int (nI 2)))) := oput_eq _ _ _
    have e16' : ovr (ofd (oput σ ma (.inr (5, fm.set 12 (.int (nI 2))))) (some e) 7 16) = some (some r') := by rw [ofd_at ((oput_ne nn).trans n1), h16]; rfl
    rw [hSe_no b1, if_neg (fun q => b1 q.1), e16', obn_at, oob_at m', obn_at, h_prod' m' (by rw [List.getElem?_set_self (by rw [M.1.2]; decide)]; rfl) b1 (by omega)]
    exact hPl.en I hml (by omega) rfl
/-- a quotient, a remainder -/
theorem h_plQ {g0 : Nat} {kc : Int32} (hg : (g0 = 12 ∧ kc = 47) ∨ (g0 = 13 ∧ kc = 37)) (P : hPo T pp ee f fc tN L V nm p (hW wn ws wa) ma ha0 σ0) (hT : 9010 ≤ T) (I : hXa κ T kk pp ee f fc tN B D V nm p σ0 nf ma ha0 wn ws wa fm0 hl0 σ G top ha hl hp fm nu h fr) (H : xmH cnt kk f pp ee tE tN R L h) (hz : h.1.length ≤ 60000 ∧ h.2.1.length ≤ 20006 ∧ h.2.2.length ≤ 20000) (En : xmEn tE tN h env vs) (hsc : fm[10]? = some (.int (nI sc))) (hs : hSc G (hAr G.2.1 h.2.1) top hp vs.reverse sc) (hb : top + 16 * (nu + 1) + hPt fr ≤ Kb + xmTot h) (hK : Kb ≤ 322000) (w : xmE cnt kk f pp ee tE tN R L (.inner g0 d z a b) env y) (Tt : hTt κ T kk pp ee f fc tN B D V nm p σ0 nf (.inner g0 d z a b) env e) : (∃ fs, σ.1 e = some (.inr (7, fs)) ∧ fs[0]? = some (.int kc)) ∧ hPl κ T kk pp ee f fc tN B D V nm p σ0 nf ma ha0 wn ws wa fm0 hl0 Kb nu fr (oF κ T (N + 4) 98 [va_rf (some ma), va_rf (some e)] σ) (xmBg T f pp ee h fr nu env vs (.inner g0 d z a b)) := by
  have M := I.1.1
  have HH := I.1.2
  have K := I.2.1.1
  have h12 := w.l12
  have ev := En.1
  have tt := H.2.1.2
  have hml := P.2.2.2.1.2.2.2
  have ml := I.ml hml
  have hne := K.2.2.2.2.2
  have f12 := I.2.2.2.2.2.2.1
  have pP := w.2.1.2
  obtain ⟨⟨X, lo1, fk, ⟨hlo, hfk⟩, c⟩, E, ⟨nw1, nw2⟩, -⟩ := Tt
  have c : cOk B D lo1 V e ∧ ∃ l r c su su', V.1 e = some (.inr (7, cEn kc (pp d.1) (nI env.length) (pp d.2.1) 0 0 .null .null .null .null .null .null (.ref l) (.ref r) (.ref c) .null)) ∧ cSq κ T pp ee fc B D lo1 V l (pp d.2.2.2.1.1) env.length (nR fc pp ee nm env) d.2.2.2.1 (tAl kk d.2.2.2.1) su ∧ cSq κ T pp ee fc B D lo1 V r (pp d.2.2.2.2.1) env.length (nR fc pp ee nm env) d.2.2.2.2 (tAl kk d.2.2.2.2) su' := by
    rcases hg with ⟨rfl, rfl⟩ | ⟨rfl, rfl⟩
    · obtain ⟨c0, l', r', cq, su, su', c1, cl, cr, -⟩ := c
      exact ⟨c0, l', r', cq, su, su', c1, cl, cr⟩
    · obtain ⟨c0, l', r', cq, su, su', c1, cl, cr, -⟩ := c
      exact ⟨c0, l', r', cq, su, su', c1, cl, cr⟩
  obtain ⟨c0, l', r', cq, su, su', c1, cl, cr⟩ := c
  have g : gSo f pp ee tN env d.2.2.2.1.2 ∧ gSo f pp ee tN env d.2.2.2.2.2 := by
    have g := w.1.1
    unfold gOk at g
    rcases hg with ⟨rfl, -⟩ | ⟨rfl, -⟩
    · simp only [reduceIte, Nat.reduceEqDiff, true_or, or_true, or_self] at g
      exact g.2
    · simp only [reduceIte, Nat.reduceEqDiff, true_or, or_true, or_self] at g
      exact g.2
  have rr : rWs f pp ee R L env (sEv d.2.2.2.1.2) ∧ rWs f pp ee R L env (sEv d.2.2.2.2.2) := by
    have rr := w.1.2
    unfold rWo at rr
    rcases hg with ⟨rfl, -⟩ | ⟨rfl, -⟩
    · simp only [reduceIte, Nat.reduceEqDiff, true_or, or_true, or_self] at rr
      exact ⟨rr.1, rr.2.1⟩
    · simp only [reduceIte, Nat.reduceEqDiff, true_or, or_true, or_self] at rr
      exact ⟨rr.1, rr.2.1⟩
  obtain ⟨gs, n1, F⟩ := P.nd K (show p ≤ e by have := c0.1; omega) c1
  have h0 : gs[0]? = some (.int kc) := by rw [F 0 (by decide) (by decide)]; rfl
  have h15 : gs[15]? = some (.ref l') := by rw [F 15 (by decide) (by decide)]; rfl
  have h16 : gs[16]? = some (.ref r') := by rw [F 16 (by decide) (by decide)]; rfl
  have e0 : ovi (ofd σ (some e) 7 0) = some kc := by rw [ofd_at n1, h0]; rfl
  have S1 := P.sq K E En H (by omega) hlo cl rr.1 g.1 pP.2.2.2.2.1.1 pP.2.2.1.1.1.2 nw1
  have S2 := P.sq K E En H (by omega) hlo cr rr.2 g.2 pP.2.2.2.2.1.2.1 pP.2.2.1.1.2.2 nw2
  have R := h_quot (κ := κ) (T := T) (n := N) M HH hsc f12 hs n1 h0 h15 h16 S1 S2 (by omega) (by omega) (by omega)
  refine ⟨⟨gs, n1, h0⟩, ?_⟩
  have EB : xmBg T f pp ee h fr nu env vs (.inner g0 d z a b) = if xmB (xmSm T f pp ee h env vs d.2.2.2.1.2) = true ∧ xmB (xmSm T f pp ee h env vs d.2.2.2.2.2) = true then (if xmSm T f pp ee h env vs d.2.2.2.2.2 = 0 then .inl (4, nu) else .inr (h, fr, nu, .inr (0, Int64.ofInt (if kc = 47 then (xmSm T f pp ee h env vs d.2.2.2.1.2).toInt.fdiv (xmSm T f pp ee h env vs d.2.2.2.2.2).toInt else (xmSm T f pp ee h env vs d.2.2.2.1.2).toInt.fmod (xmSm T f pp ee h env vs d.2.2.2.2.2).toInt)))) else .inl (2, nu) := by
    unfold xmBg
    rcases hg with ⟨rfl, rfl⟩ | ⟨rfl, rfl⟩
    · simp only [reduceIte, Nat.reduceEqDiff, true_or, or_true]
    · simp only [reduceIte, Nat.reduceEqDiff, true_or, or_true, show ¬ (37 : Int32) = 47 by decide]
  have EP : oF κ T (N + 4) 98 [va_rf (some ma), va_rf (some e)] σ = oln' (oF κ T (N + 3) 97 [va_rf (some ma), va_rf (some e)] σ) fun r8 s6 => some (some (.long r8), s6) := by
    rw [oE_X3_plain]
    unfold ob_X3_plain
    rcases hg with ⟨-, rfl⟩ | ⟨-, rfl⟩
    · rw [e0, obn_at, if_neg (by decide), if_neg (by decide), if_pos rfl, oob_at M.1.1, obn_at]
    · rw [e0, obn_at, if_pos rfl, oob_at M.1.1, obn_at]
  rw [EB, EP]
  by_cases b1 : xmB (xmSm T f pp ee h env vs d.2.2.2.1.2) = true ∧ xmB (xmSm T f pp ee h env vs d.2.2.2.2.2) = true
  · rw [if_pos b1] at R ⊢
    by_cases b2 : xmSm T f pp ee h env vs d.2.2.2.2.2 = 0
    · rw [if_pos b2] at R ⊢
      obtain ⟨x, R⟩ := R
      rw [R]
      exact hPl.en I hml (by omega) rfl
    · rw [if_neg b2] at R ⊢
      have R : oF κ T (N + 3) 97 [va_rf (some ma), va_rf (some e)] σ = some (some (.long _), σ) := R
      rw [R]
      exact hPl.v I rfl (Or.inl ⟨Nat.zero_le _, rfl⟩) hb
  · rw [if_neg b1] at R ⊢
    obtain ⟨x, R⟩ := R
    rw [R]
    exact hPl.en I hml (by omega) rfl
end HYP
