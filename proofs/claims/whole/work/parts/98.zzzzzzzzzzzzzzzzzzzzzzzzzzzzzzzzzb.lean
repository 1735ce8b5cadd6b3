/-! run(), the class: an E begins: set, match, let rec -/
section HYT
variable {κ : oKv} {T n cnt : Nat} {kk pp ee f fc : Nat → Int32} {tE tN : Nat → tY} {R : Nat → Int32} {L : List Nat} {y0 : tY} {B : Nat → Nat} {D : cDt} {V : oSt} {nm : Nat → Option Nat} {p : Nat} {σ0 : oSt} {nf ma ha0 wn ws wa : Nat} {fm0 : List Value} {hl0 : Nat} {σ σ' : oSt} {G G' : hG} {top ha hl top' ha' hl' : Nat} {hp hp' : Nat → Int64} {fm gm : List Value} {nu n' : Nat} {h h' : xmHp} {fr : List xmFr} {env : List Nat} {vs : List xmV} {Kb N sc e : Nat} {d : Nat × Nat × Nat × tS × tS} {z : Unit} {a b : tT} {y : tY}
/-- set -/
theorem h_st6 (P : hPo T pp ee f fc tN L V nm p (hW wn ws wa) ma ha0 σ0) (hT : 9010 ≤ T) (I : hXa κ T kk pp ee f fc tN B D V nm p σ0 nf ma ha0 wn ws wa fm0 hl0 σ G top ha hl hp fm nu h fr) (H : xmH cnt kk f pp ee tE tN R L h) (hz : h.1.length ≤ 60000 ∧ h.2.1.length ≤ 20006 ∧ h.2.2.length ≤ 20000) (En : xmEn tE tN h env vs) (hsc : fm[10]? = some (.int (nI sc))) (hs : hSc G (hAr G.2.1 h.2.1) top hp vs.reverse sc) (hb : top + 16 * (nu + 1) + hPt fr ≤ Kb + xmTot h) (hK : Kb ≤ 322000) (w : xmE cnt kk f pp ee tE tN R L (.inner 6 d z a b) env y) (Tt : hTt κ T kk pp ee f fc tN B D V nm p σ0 nf (.inner 6 d z a b) env e) : (∃ fs, σ.1 e = some (.inr (7, fs)) ∧ fs[0]? = some (.int 220)) ∧ hOt κ T kk pp ee f fc tN B D V nm p σ0 nf ma ha0 wn ws wa fm0 hl0 Kb (hSx T (oF κ T (N + 4)) κ (some ma) (some e) 220 σ) (xmBg T f pp ee h fr nu env vs (.inner 6 d z a b)) := by
  have M := I.1.1
  have HH := I.1.2
  have K := I.2.1.1
  have h12 := w.l12
  have ev := En.1
  have tt := H.2.1.2
  have hml := P.2.2.2.1.2.2.2
  have ml := I.ml hml
  have hne := K.2.2.2.2.2
  have f12 := I.2.2.2.2.2.2.1
  have pP := w.2.1.2
  obtain ⟨⟨X, lo1, fk, ⟨hlo, hfk⟩, c⟩, E, hw⟩ := Tt
  obtain ⟨c0, x, l', r', nd, su, su', c1, cl, cr, -, ca⟩ := c
  obtain ⟨⟨k1, ⟨k2, k3⟩, k4, k5, k6⟩, E1⟩ := w.k6
  obtain ⟨gs, n1, F⟩ := P.nd K (show p ≤ e by have := c0.1; omega) c1
  obtain ⟨b', b1, b2⟩ := P.us K E En k4
  have h2 : gs[2]? = some (.int (nI vs.length)) := by rw [F 2 (by decide) (by decide), ev]; rfl
  have h9 : gs[9]? = some (.ref b') := by
    rw [F 9 (by decide) (by decide)]
    show some (va_rf (nR fc pp ee nm env (d.1 + 1))) = _
    rw [b1]; rfl
  have h15 : gs[15]? = some (.ref l') := by rw [F 15 (by decide) (by decide)]; rfl
  have h16 : gs[16]? = some (.ref r') := by rw [F 16 (by decide) (by decide)]; rfl
  have S1 := P.sq K E En H (by omega) hlo cl k5 k2 pP.2.2.2.2.1.1 pP.2.2.1.1.1.2 hw.1.1
  have S2 := P.sq K E En H (by omega) hlo cr k6 k3 pP.2.2.2.2.1.2.1 pP.2.2.1.1.2.2 hw.1.2
  have ty := (En.get k4).2.2
  rw [k1] at ty
  obtain ⟨i, ya, yy, v1, v2, v3, v4, v5, v6, v7⟩ := hV.ar HH (by omega) ty
  have R := h_change (κ := κ) (T := T) (n := N) M hne HH hsc f12 hs n1 h9 h2 h15 h16 b2 v1 v2 v3 v4 S1 S2 (by omega) (by omega) (by omega)
  have en : nF (.inner 6 d z a b) = 0 + nF a + nF b := rfl
  have nn : e ≠ ma := fun q => by rw [q, M.1.1] at n1; cases n1
  have nh : e ≠ ha := fun q => by rw [q, M.2.2.1] at n1; cases n1
  have E12 : ∀ v : oC, ovr (ofd (oput σ ma v) (some e) 7 12) = some (some x) := fun v => by rw [ofd_at ((oput_ne nn).trans n1), F 12 (by decide) (by decide)]; rfl
  refine ⟨⟨gs, n1, by rw [F 0 (by decide) (by decide)]; rfl⟩, ?_⟩
  unfold xmBg
  simp only [reduceIte, Nat.reduceEqDiff]
  unfold hSx
  rw [v5, v6, v7, if_neg (by decide), if_neg (by decide), if_neg (by decide), if_neg (by decide), if_neg (by decide), if_neg (by decide), if_pos rfl, oob_at M.1.1, obn_at]
  by_cases t1 : xmB (xmSm T f pp ee h env vs d.2.2.2.1.2) = true
  · rw [if_pos t1] at R ⊢
    by_cases t2 : 0 ≤ xmSm T f pp ee h env vs d.2.2.2.1.2 ∧ xmSm T f pp ee h env vs d.2.2.2.1.2 < xmNi yy.length
    · rw [if_pos t2] at R ⊢
      by_cases t3 : xmB (xmSm T f pp ee h env vs d.2.2.2.2.2) = true
      · rw [if_pos t3] at R ⊢
        have R : oF κ T (N + 4) 89 [va_rf (some ma), va_rf (some e)] σ = some (none, oput σ ha (.inl (.long, hl, .inr (.inl (vp_updL hp (ya + 1 + xmIx (xmSm T f pp ee h env vs d.2.2.2.1.2)) (xmSm T f pp ee h env vs d.2.2.2.2.2)))))) := R
        have yl := (H.2.1.1 yy (List.mem_of_getElem? v3)).1
        have hx : xmIx (xmSm T f pp ee h env vs d.2.2.2.1.2) < yy.length := by
          obtain ⟨z1, z2⟩ := t2
          rw [Int64.le_iff_toInt_le] at z1
          rw [Int64.lt_iff_toInt_lt, xmNi_int (by omega)] at z2
          have z1 : (0 : Int) ≤ (xmSm T f pp ee h env vs d.2.2.2.1.2).toInt := z1
          show (xmSm T f pp ee h env vs d.2.2.2.1.2).toInt.toNat < yy.length
          omega
        obtain ⟨⟨q1, q2⟩, q3, q4⟩ := HH.2.2.1 i yy ya v3 v4
        have M' := (M.sj hne (i := ya + 1 + xmIx (xmSm T f pp ee h env vs d.2.2.2.1.2)) (by omega) (xmSm T f pp ee h env vs d.2.2.2.2.2)).2
        have H' := HH.st (x := xmSm T f pp ee h env vs d.2.2.2.2.2) v3 v4 hx
        have kp := hKp_st (x := xmSm T f pp ee h env vs d.2.2.2.2.2) HH v3 v4 hx
        have kk' := (hKe.rf (W := fun _ => False) K.2.1 K.2.2.2.2.1 hne).pt (c := .inl (.long, hl, .inr (.inl (vp_updL hp (ya + 1 + xmIx (xmSm T f pp ee h env vs d.2.2.2.1.2)) (xmSm T f pp ee h env vs d.2.2.2.2.2))))) (x := ha) (Or.inr (Or.inl rfl)) K.2.2.2.2.1
        have xt : xmTot (h.1, h.2.1.set i (yy.set (xmIx (xmSm T f pp ee h env vs d.2.2.2.1.2)) (xmSm T f pp ee h env vs d.2.2.2.2.2)), h.2.2) = xmTot h := by
          show ((h.2.1.set i (yy.set _ _)).map List.length).sum = _
          rw [sum_set _ _ _ (by rw [List.getD_eq_getElem?_getD, v3, List.length_set]; rfl)]
          rfl
        have I' := I.to (n' := nu) (h' := (h.1, h.2.1.set i (yy.set (xmIx (xmSm T f pp ee h env vs d.2.2.2.1.2)) (xmSm T f pp ee h env vs d.2.2.2.2.2)), h.2.2)) M' H' kk' (hCo.rf _ _) (hGe.rf G) kp (hFx.rf _ _) I.2.2.2.2.2.1 (by rw [xt]; exact I.2.2.2.2.2.2.2.2)
        have n2 : (oput σ ha (.inl (.long, hl, .inr (.inl (vp_updL hp (ya + 1 + xmIx (xmSm T f pp ee h env vs d.2.2.2.1.2)) (xmSm T f pp ee h env vs d.2.2.2.2.2)))))).1 e = some (.inr (7, gs)) := (oput_ne nh).trans n1
        have e12 : ovr (ofd (oput σ ha (.inl (.long, hl, .inr (.inl (vp_updL hp (ya + 1 + xmIx (xmSm T f pp ee h env vs d.2.2.2.1.2)) (xmSm T f pp ee h env vs d.2.2.2.2.2)))))) (some e) 7 12) = some (some x) := by rw [ofd_at n2, F 12 (by decide) (by decide)]; rfl
        rw [R, ocv_at, e12, obn_at]
        exact hOt.go I' ⟨⟨X, lo1, fk, ⟨hlo, by omega⟩, ca⟩, E, hw.2.1⟩ hsc (hs.kp (hGe.rf G) kp) (by rw [xt]; omega)
      · rw [if_neg t3] at R ⊢
        have R : oF κ T (N + 4) 89 [va_rf (some ma), va_rf (some e)] σ = some (none, oput σ ma (.inr (5, fm.set 12 (.int (nI 2))))) := R
        rw [R, ocv_at, E12, obn_at]
        exact hOt.en I hml (by omega)
    · rw [if_neg t2] at R ⊢
      have R : oF κ T (N + 4) 89 [va_rf (some ma), va_rf (some e)] σ = some (none, oput σ ma (.inr (5, fm.set 12 (.int (nI 5))))) := R
      rw [R, ocv_at, E12, obn_at]
      exact hOt.en I hml (by omega)
  · rw [if_neg t1] at R ⊢
    have R : oF κ T (N + 4) 89 [va_rf (some ma), va_rf (some e)] σ = some (none, oput σ ma (.inr (5, fm.set 12 (.int (nI 2))))) := R
    rw [R, ocv_at, E12, obn_at]
    exact hOt.en I hml (by omega)
/-- match -/
theorem h_st19 (P : hPo T pp ee f fc tN L V nm p (hW wn ws wa) ma ha0 σ0) (hT : 9010 ≤ T) (I : hXa κ T kk pp ee f fc tN B D V nm p σ0 nf ma ha0 wn ws wa fm0 hl0 σ G top ha hl hp fm nu h fr) (H : xmH cnt kk f pp ee tE tN R L h) (hz : h.1.length ≤ 60000 ∧ h.2.1.length ≤ 20006 ∧ h.2.2.length ≤ 20000) (En : xmEn tE tN h env vs) (hsc : fm[10]? = some (.int (nI sc))) (hs : hSc G (hAr G.2.1 h.2.1) top hp vs.reverse sc) (hb : top + 16 * (nu + 1) + hPt fr ≤ Kb + xmTot h) (hK : Kb ≤ 322000) (w : xmE cnt kk f pp ee tE tN R L (.inner 19 d z a b) env y) (Tt : hTt κ T kk pp ee f fc tN B D V nm p σ0 nf (.inner 19 d z a b) env e) : (∃ fs, σ.1 e = some (.inr (7, fs)) ∧ fs[0]? = some (.int 214)) ∧ hOt κ T kk pp ee f fc tN B D V nm p σ0 nf ma ha0 wn ws wa fm0 hl0 Kb (hSx T (oF κ T (N + 4)) κ (some ma) (some e) 214 σ) (xmBg T f pp ee h fr nu env vs (.inner 19 d z a b)) := by
  have M := I.1.1
  have HH := I.1.2
  have K := I.2.1.1
  have h12 := w.l12
  have ev := En.1
  have tt := H.2.1.2
  have hml := P.2.2.2.1.2.2.2
  have ml := I.ml hml
  have hne := K.2.2.2.2.2
  have f12 := I.2.2.2.2.2.2.1
  have pP := w.2.1.2
  obtain ⟨⟨X, lo1, fk, ⟨hlo, hfk⟩, c⟩, E, hw⟩ := Tt
  obtain ⟨-, c0, x, y', cc, q, su, na, ta, c1, -, -, c2, ca, cb⟩ := c
  obtain ⟨⟨k1, ⟨k2, k3⟩, k4⟩, E1, E2⟩ := w.k19
  obtain ⟨gs, n1, F⟩ := P.nd K (show p ≤ e by have := c0.1; omega) c1
  obtain ⟨b', b1, b2⟩ := P.us K E En k4
  have h2 : gs[2]? = some (.int (nI vs.length)) := by rw [F 2 (by decide) (by decide), ev]; rfl
  have h9 : gs[9]? = some (.ref b') := by
    rw [F 9 (by decide) (by decide)]
    show some (va_rf (nR fc pp ee nm env (d.1 + 1))) = _
    rw [b1]; rfl
  have h12' : gs[12]? = some (.ref x) := by rw [F 12 (by decide) (by decide)]; rfl
  have h13 : gs[13]? = some (.ref y') := by rw [F 13 (by decide) (by decide)]; rfl
  have ty := (En.get k4).2.2
  rw [k1] at ty
  have hv : (xmGet f pp ee env vs (d.1 + 1)).1 = 4 ∧ ((xmGet f pp ee env vs (d.1 + 1)).2 = -1 ∨ xmIn h.2.2.length (xmGet f pp ee env vs (d.1 + 1)).2) := by
    rcases ty with ⟨q, -⟩ | ⟨q, -⟩ | ⟨q, -⟩ | ⟨-, q, q'⟩ | ⟨q, -⟩
    · exact absurd q (by decide)
    · exact absurd q (by decide)
    · exact absurd q (by decide)
    · exact ⟨q, q'⟩
    · exact absurd q (by decide)
  have en : nF (.inner 19 d z a b) = 0 + nF a + nF b := rfl
  have hg2 := HH.1.2.2.1
  have ev2 : hEv tN nm p σ0 (env ++ [d.2.1, d.2.1 + 1]) := E.aps P hlo (fun x hx => E2.inL (List.mem_append_right _ (by
    rcases (show x = 0 ∨ x = 1 by omega) with r | r <;> (subst r; simp))) ) c2
  refine ⟨⟨gs, n1, by rw [F 0 (by decide) (by decide)]; rfl⟩, ?_⟩
  unfold xmBg
  simp only [reduceIte, Nat.reduceEqDiff, or_self]
  unfold hSx
  rw [if_neg (by decide), if_neg (by decide), if_neg (by decide), if_neg (by decide), if_pos rfl, oob_at M.1.1, obn_at]
  obtain ⟨hv1, hv⟩ := hv
  rcases hv with hv | ⟨i, hi, ei⟩
  · rw [hv, if_pos (show (-1 : Int64) < 0 by decide), h_matchN (n := N + 2) M hsc hs n1 h9 h2 h12' b2 ⟨hv1, by rw [hv]; decide⟩ (by omega) (by omega) (by omega), orn_at]
    exact hOt.go I ⟨⟨X, lo1, fk, ⟨hlo, by omega⟩, ca⟩, E, hw.2.1⟩ hsc hs (by omega)
  · obtain ⟨c', ec⟩ : ∃ cc, h.2.2[i]? = some cc := ⟨_, List.getElem?_eq_getElem hi⟩
    obtain ⟨la, gl⟩ := gl_ex hg2 ec
    have eg : h.2.2.getD i (0, 0, 0) = c' := by
      rw [List.getD_eq_getElem?_getD, ec]
      rfl
    obtain ⟨σ', ha', hl', hp', gm, A1, A2, A3, A4, A5, A6, A7, A8, A9⟩ := h_matchC (κ := κ) (T := T) (n := N) M HH hsc hs n1 h9 h2 h13 b2 (show xmGet f pp ee env vs (d.1 + 1) = (4, xmNi i) by rw [← ei, ← hv1]) (by omega) ec gl (by omega) (by omega) (by omega) hne.symm ml K.2.2.2.2.1 K.2.1 (fun _ => False) (fun w' => w')
    have I' := I.to (n' := nu) A2 A6 A8 A9 (hGe.rf G) (hKp.up (by omega) A5) (fun k hk => A3 k (fun w' => hk (by revert w'; simp only [List.mem_cons, List.not_mem_nil, or_false]; omega))) ((A3 11 (by decide)).trans I.2.2.2.2.2.1) ((A3 14 (by decide)).trans I.2.2.2.2.2.2.2.2)
    rw [ei, if_neg (by rw [Int64.lt_iff_toInt_lt, xmNi_int (by omega)]; show ¬ (i : Int) < 0; omega), xmNi_ix (by omega), eg, A1, orn_at]
    exact hOt.go I' ⟨⟨X, lo1, fk + nF a, ⟨hlo, by omega⟩, cb⟩, ev2, hw.2.2⟩ A4 A7 (by omega)
/-- let rec -/
theorem h_st2 (P : hPo T pp ee f fc tN L V nm p (hW wn ws wa) ma ha0 σ0) (hT : 9010 ≤ T) (I : hXa κ T kk pp ee f fc tN B D V nm p σ0 nf ma ha0 wn ws wa fm0 hl0 σ G top ha hl hp fm nu h fr) (H : xmH cnt kk f pp ee tE tN R L h) (hz : h.1.length ≤ 60000 ∧ h.2.1.length ≤ 20006 ∧ h.2.2.length ≤ 20000) (En : xmEn tE tN h env vs) (hsc : fm[10]? = some (.int (nI sc))) (hs : hSc G (hAr G.2.1 h.2.1) top hp vs.reverse sc) (hb : top + 16 * (nu + 1) + hPt fr ≤ Kb + xmTot h) (hK : Kb ≤ 322000) (w : xmE cnt kk f pp ee tE tN R L (.inner 2 d z a b) env y) (Tt : hTt κ T kk pp ee f fc tN B D V nm p σ0 nf (.inner 2 d z a b) env e) : (∃ fs, σ.1 e = some (.inr (7, fs)) ∧ fs[0]? = some (.int 219)) ∧ hOt κ T kk pp ee f fc tN B D V nm p σ0 nf ma ha0 wn ws wa fm0 hl0 Kb (hSx T (oF κ T (N + 4)) κ (some ma) (some e) 219 σ) (xmBg T f pp ee h fr nu env vs (.inner 2 d z a b)) := by
  have M := I.1.1
  have HH := I.1.2
  have K := I.2.1.1
  have h12 := w.l12
  have ev := En.1
  have tt := H.2.1.2
  have hml := P.2.2.2.1.2.2.2
  have ml := I.ml hml
  have hne := K.2.2.2.2.2
  have f12 := I.2.2.2.2.2.2.1
  have pP := w.2.1.2
  obtain ⟨⟨X, lo1, fk, ⟨hlo, hfk⟩, c⟩, E, hw⟩ := Tt
  obtain ⟨nb, ev2⟩ := hNb.k2 P hlo w E hw hfk c
  obtain ⟨-, c0, x, y', w', q, c1, -, -, -, -, cb⟩ := c
  obtain ⟨gs, n1, F⟩ := P.nd K (show p ≤ e by have := c0.1; omega) c1
  have en : nF (.inner 2 d z a b) = 1 + nF a + nF b := rfl
  have e10 : ovi (ofd σ (some ma) 5 10) = some (nI sc) := by rw [ofd_at M.1.1, hsc]; rfl
  refine ⟨⟨gs, n1, by rw [F 0 (by decide) (by decide)]; rfl⟩, ?_⟩
  unfold xmBg
  simp only [reduceIte, Nat.reduceEqDiff]
  obtain ⟨σ1, σ2, ha1, hl1, hp1, A1, A2, A3, ⟨A4, A5, A6⟩, A7, A8, A9⟩ := h_push (κ := κ) (T := T) (n := N + 1) (x := 0) (a := sc) M (by omega) hne.symm ml K.2.2.2.2.1 K.2.1
  have k2 := (hKe.rf (W := fun _ => False) K.2.1 K.2.2.2.2.1 hne).gr A7 A8 A9
  have l1 := A7.le
  have n2 : σ2.1 e = some (.inr (7, gs)) := k2.at K.2.1 ⟨fm, M.1.1⟩ ⟨_, _, M.2.2.1⟩ n1 (fun _ w => by cases w) (fun _ _ w => by cases w) (fun w => w)
  obtain ⟨σ3, ha3, hl3, hp3, T1, T2, ⟨T3, T4, T5, T6⟩, T7, T8, T9⟩ := h_triple (κ := κ) (T := T) (n := N + 1) (x := xmNi fk) (y := xmNi top) (z := 0) A3 (by omega) A8.symm (by omega) A9 k2.2.1
  have T1' : oF κ T (N + 4) 82 [va_rf (some ma), .long (nI fk).toInt64, .long (nI top).toInt64, .long 0] σ2 = some (some (.int (nI (top + 2))), σ3) := T1
  have k3 := k2.gr T7 T8 T9
  have l3 := T7.le
  obtain ⟨W1, W2⟩ := T2.sj T8 (i := top) (by omega) (xmNi (top + 2))
  have n3 : σ3.1 e = some (.inr (7, gs)) := k3.at K.2.1 ⟨fm, M.1.1⟩ ⟨_, _, M.2.2.1⟩ n1 (fun _ w => by cases w) (fun _ _ w => by cases w) (fun w => w)
  have nh : e ≠ ha3 := fun q => by rw [q, T2.2.2.1] at n3; cases n3
  have k4 := k3.pt (c := .inl (.long, hl3, .inr (.inl (vp_updL hp3 top (xmNi (top + 2)))))) (x := ha3) (Or.inr (Or.inl rfl)) T9
  have e7 : ovi (ofd σ2 (some e) 7 7) = some (nI fk) := by rw [ofd_at n2, F 7 (by decide) (by decide)]; rfl
  have f10 : ovi (ofd σ2 (some ma) 5 10) = some (nI top) := by rw [ofd_at A3.1.1, List.getElem?_set_self (by rw [List.length_set, List.length_set, M.1.2]; decide)]; rfl
  have g10 : ovi (ofd σ3 (some ma) 5 10) = some (nI top) := by rw [ofd_at T2.1.1, List.getElem?_set_ne (by decide), List.getElem?_set_ne (by decide), List.getElem?_set_self (by rw [List.length_set, List.length_set, M.1.2]; decide)]; rfl
  have e13 : ovr (ofd (oput σ3 ha3 (.inl (.long, hl3, .inr (.inl (vp_updL hp3 top (xmNi (top + 2))))))) (some e) 7 13) = some (some y') := by rw [ofd_at ((oput_ne nh).trans n3), F 13 (by decide) (by decide)]; rfl
  have hk : ∀ i, i < top → vp_updL hp3 top (xmNi (top + 2)) i = hp i := fun i hi => by rw [vp_L, if_neg (by omega), T3 i (by omega), A4 i hi]
  have g : hGe G (G.1 ++ [top + 2], G.2) := ⟨⟨[top + 2], rfl⟩, ⟨[], by rw [List.append_nil]⟩, ⟨[], by rw [List.append_nil]⟩⟩
  have hvf : hV (G.1 ++ [top + 2], G.2) (xmFv h) (xmNi (top + 2)) := by
    refine Or.inr (Or.inr (Or.inl ⟨rfl, h.1.length, top + 2, rfl, ?_, rfl⟩))
    show (G.1 ++ [top + 2])[h.1.length]? = some (top + 2)
    rw [← HH.1.1, List.getElem?_append_right (Nat.le_refl _), Nat.sub_self]
    rfl
  have SC : hSc (G.1 ++ [top + 2], G.2) (hAr G.2.1 h.2.1) (top + 2 + 3) (vp_updL hp3 top (xmNi (top + 2))) (xmFv h :: vs.reverse) top := by
    have t4 := HH.1.2.2.2.1
    have NC : ∀ y, top ≤ y → y < top + 5 → hC (hAr G.2.1 h.2.1) (top + 2 + 3) y := fun y q1 q2 => ⟨by omega, by omega, fun w => by have := hAr_lt HH w; omega⟩
    refine ⟨⟨NC _ (Nat.le_refl _) (by omega), NC _ (by omega) (by omega)⟩, by rw [vp_L, if_pos rfl]; exact hvf, sc, by rw [vp_L, if_neg (by omega), T3 _ (by omega), A6], hs.kp g (hKp.up (by omega) hk)⟩
  have H' := HH.fn (fn := (.inner 2 d z a b, env ++ [d.1 + 2], vs ++ [xmFv h], [])) (a := top + 2) (s := top) (top' := top + 2 + 3) (hp' := vp_updL hp3 top (xmNi (top + 2))) (by omega) (Nat.le_refl _) hk ⟨fk, by rw [vp_L, if_neg (by omega), T4], nb⟩ (by rw [vp_L, if_neg (by omega), T5]) (by
    show hSc _ _ _ _ (vs ++ [xmFv h] ++ []).reverse top
    rw [List.append_nil, List.reverse_append]
    exact SC) (by rw [vp_L, if_neg (by omega), T6]; rfl) (by omega)
  have I' := I.to (n' := nu) (h' := xmNf h (.inner 2 d z a b, env ++ [d.1 + 2], vs ++ [xmFv h], [])) W2 H' k4 (show hCo σ hl _ hl3 by
    unfold hCo
    show σ3.2.2.2 + 2 * hl ≤ σ.2.2.2 + 2 * hl3 ∧ 64 * σ3.2.2.1 + hl ≤ 64 * σ.2.2.1 + hl3 ∧ _
    omega) g (hKp.up (by omega) hk) (((((hFx.rf _ fm).st (by decide)).st (by decide)).st (by decide) |>.st (by decide)).st (by decide)) (by rw [List.getElem?_set_ne (by decide), List.getElem?_set_ne (by decide), List.getElem?_set_ne (by decide), List.getElem?_set_ne (by decide), List.getElem?_set_ne (by decide)]; exact I.2.2.2.2.2.1) (by rw [List.getElem?_set_ne (by decide), List.getElem?_set_ne (by decide), List.getElem?_set_ne (by decide), List.getElem?_set_ne (by decide), List.getElem?_set_ne (by decide)]; exact I.2.2.2.2.2.2.2.2)
  unfold hSx
  rw [if_neg (by decide), if_neg (by decide), if_neg (by decide), if_neg (by decide), if_neg (by decide), if_pos rfl, e10, obn_at, oob_at M.1.1, obn_at, A1, oin_at, A2, obn_at, e7, obn_at, f10, obn_at, oob_at A3.1.1, obn_at, T1', oin_at, T2.hp4, obn_at, g10, obn_at]
  have W1' : osj σ3 (some ha3) (nI top) (nI (top + 2)).toInt64 = some (oput σ3 ha3 (.inl (.long, hl3, .inr (.inl (vp_updL hp3 top (xmNi (top + 2))))))) := W1
  rw [W1', obn_at, e13, obn_at]
  refine hOt.go I' ⟨⟨X, lo1, fk + 1 + nF a, ⟨hlo, by omega⟩, cb⟩, ev2, hw.2.2⟩ (by rw [List.getElem?_set_ne (by decide), List.getElem?_set_ne (by decide), List.getElem?_set_self (by rw [List.length_set, List.length_set, M.1.2]; decide)]) ?_ (by show top + 2 + 3 + 16 * nu + hPt fr ≤ Kb + xmTot h; omega)
  rw [List.reverse_append]
  exact SC
end HYT
