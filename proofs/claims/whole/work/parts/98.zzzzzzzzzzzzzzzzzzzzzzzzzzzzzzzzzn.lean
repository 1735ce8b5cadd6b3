/-! run(), the class: start() and resume() -/
section HZG
variable {κ : oKv} {T n cnt : Nat} {kk pp ee f fc : Nat → Int32} {tE tN : Nat → tY} {R : Nat → Int32} {L : List Nat} {y0 : tY} {B : Nat → Nat} {D : cDt} {V : oSt} {nm : Nat → Option Nat} {p : Nat} {σ0 : oSt} {nf ma ha0 wn ws wa : Nat} {fm0 : List Value} {hl0 : Nat} {σ σ' : oSt} {G G' : hG} {top ha hl top' ha' hl' : Nat} {hp hp' : Nat → Int64} {fm gm : List Value} {nu n' : Nat} {h h' : xmHp} {fr : List xmFr} {env : List Nat} {vs : List xmV} {Kb N N0 sc e pg : Nat} {y : tY}
/-- **start() (99)** -/
theorem h_start {t : tT} (P : hPo T pp ee f fc tN L V nm p (hW wn ws wa) ma ha0 σ0) (hF : hFl κ D V p pg nf) (f0 : fm0[0]? = some (.ref pg)) (hT : 9010 ≤ T) (I : hXa κ T kk pp ee f fc tN B D V nm p σ0 nf ma ha0 wn ws wa fm0 hl0 σ G top ha hl hp fm nu h fr) (H : xmH cnt kk f pp ee tE tN R L h) (hz : h.1.length ≤ 60000 ∧ h.2.1.length ≤ 20006 ∧ h.2.2.length ≤ 20000) (hz2 : h.1.length + nu ≤ 60000 ∧ nu ≤ 20000) (En : xmEn tE tN h env vs) (hsc : fm[10]? = some (.int (nI sc))) (hs : hSc G (hAr G.2.1 h.2.1) top hp vs.reverse sc) (hb : top + 16 * nu + hPt fr ≤ Kb + xmTot h) (hK : Kb ≤ 322000) (hdp : xmDp fr ≤ 50) (hfr : fr.length < 1683) (hh : tH t ≤ 31) (w : xmE cnt kk f pp ee tE tN R L t env y) (Tt : hTt κ T kk pp ee f fc tN B D V nm p σ0 nf t env e) : hOt κ T kk pp ee f fc tN B D V nm p σ0 nf ma ha0 wn ws wa fm0 hl0 Kb (oF κ T (N + 1321) 99 [va_rf (some ma), va_rf (some e)] σ) (xmSt T f pp ee (h, fr, nu, .inl (t, env, vs))) := by
  have M := I.1.1
  have hml := P.2.2.2.1.2.2.2
  have tt := H.2.1.2
  have e11 : ovi (ofd σ (some ma) 5 11) = some (nI nu) := by rw [ofd_at M.1.1, I.2.2.2.2.2.1]; rfl
  rw [oE_X3_start]
  unfold ob_X3_start
  cases nu with
  | zero =>
    rw [e11, obn_at, if_pos (show nI 0 = (0 : Int32) from rfl), opf_at M.1.1 (by rw [M.1.2]; decide), obn_at]
    exact hOt.en (q := 1) I hml (by omega)
  | succ nu =>
    have n0 : ¬ nI (nu + 1) = (0 : Int32) := fun w => by have := nI_inj' (b := 0) (by omega) (by omega) w; omega
    have es : nI (nu + 1) - 1 = nI nu := by rw [← nI_p1, nI_pm]
    have I1 := I.pt (gm := fm.set 11 (.int (nI nu))) (n' := nu) hml (by rw [List.length_set]; exact M.1.2) ((hFx.rf _ _).st (by decide)) (by rw [List.getElem?_set_self (by rw [M.1.2]; decide)])
    obtain ⟨kc, ⟨fs, n1, n2⟩, R⟩ := h_begin (N := N) (e := e) (sc := sc) P hF f0 hT I1 H hz ⟨by omega, by omega⟩ En (by rw [List.getElem?_set_ne (by decide)]; exact hsc) hs hb hK hdp hfr hh w Tt
    have k0 : ovi (ofd (oput σ ma (.inr (5, fm.set 11 (.int (nI nu))))) (some e) 7 0) = some kc := by rw [ofd_at n1, n2]; rfl
    rw [e11, obn_at, if_neg n0, obn_at, es, opf_at M.1.1 (by rw [M.1.2]; decide), obn_at, k0, obn_at]
    exact R
/-- what waited goes on -/
theorem hXa.pop {Fr : xmFr} (I : hXa κ T kk pp ee f fc tN B D V nm p σ0 nf ma ha0 wn ws wa fm0 hl0 σ G top ha hl hp fm nu h (Fr :: fr)) (M' : hMa ma gm ha' hl' hp' top' σ') (H' : hHp (hNb κ T kk pp ee f fc tN B D V nm p σ0 nf) G' top' hp' h) (k : hKe (fun _ => False) ma ha σ σ' ha') (co : hCo σ hl σ' hl') (g : hGe G G') (kp : hKp (hAr G.2.1 h.2.1) (hAr G'.2.1 h.2.1) top top' hp hp') (fx : hFx [4, 5, 9, 10, 13] fm gm) (h9 : gm[9]? = some (.int (nI fr.length))) (h13 : gm[13]? = some (.int (nI (xmDp fr)))) : hXa κ T kk pp ee f fc tN B D V nm p σ0 nf ma ha0 wn ws wa fm0 hl0 σ' G' top' ha' hl' hp' gm nu h fr := by
  obtain ⟨⟨M, H⟩, ⟨K, C⟩, ⟨WN, WS, WA, Wt, Fk⟩, F, f9, f11, f12, f13, f14⟩ := I
  have Fk' : hFk κ T kk pp ee f fc tN B D V nm p σ0 nf G (hAr G.2.1 h.2.1) top hp WN WS WA fr := by
    cases Fr with
    | inl x => exact Fk.2
    | inr x => exact Fk.2
  refine ⟨⟨M', H'⟩, ⟨K.tr k, C.tr co⟩, ⟨WN, WS, WA, Wt.kp (Wt.ke M K.2.1 k) (fun q hq => fx q ?_), Fk'.kp g kp⟩, fun q hq => (fx q (fun w => hq ?_)).trans (F q hq), h9, (fx 11 (by decide)).trans f11, (fx 12 (by decide)).trans f12, h13, (fx 14 (by decide)).trans f14⟩
  · rcases hq with e | e | e <;> (rw [e]; decide)
  · revert w
    simp only [List.mem_cons, List.not_mem_nil, or_false]
    omega
/-- **resume() (100)** -/
theorem h_resume {Fr : xmFr} {v : xmV} {x : Int64} (P : hPo T pp ee f fc tN L V nm p (hW wn ws wa) ma ha0 σ0) (hF : hFl κ D V p pg nf) (f0 : fm0[0]? = some (.ref pg)) (hT : 9010 ≤ T) (I : hXa κ T kk pp ee f fc tN B D V nm p σ0 nf ma ha0 wn ws wa fm0 hl0 σ G top ha hl hp fm nu h (Fr :: fr)) (H : xmH cnt kk f pp ee tE tN R L h) (hz : h.1.length ≤ 60000 ∧ h.2.1.length ≤ 20006 ∧ h.2.2.length ≤ 20000) (h15 : fm[15]? = some (.long x)) (hvx : hV G v x) (hv : xmT tE tN h y v) (hy : ∀ l, Fr = .inr l → l ≠ [] → yK y = 1) (hb : top + 16 * nu + hPt (Fr :: fr) + hVt h v ≤ Kb + xmTot h) (hK : Kb ≤ 322000) (hdp : xmDp fr ≤ 50) (hfr : fr.length < 1683) : hOt κ T kk pp ee f fc tN B D V nm p σ0 nf ma ha0 wn ws wa fm0 hl0 Kb (oF κ T (N + 1321) 100 [va_rf (some ma)] σ) (xmSt T f pp ee (h, Fr :: fr, nu, .inr v)) := by
  have M := I.1.1
  have HH := I.1.2
  have K := I.2.1.1
  have hml := P.2.2.2.1.2.2.2
  have ml := I.ml hml
  have hne := K.2.2.2.2.2
  have tt := H.2.1.2
  obtain ⟨WN, WS, WA, Wt, Fk⟩ := I.2.2.1
  have f9 : fm[9]? = some (.int (nI (fr.length + 1))) := I.2.2.2.2.1
  cases Fr with
  | inl xx =>
    obtain ⟨u, b, env, vs⟩ := xx
    obtain ⟨⟨m, a, w1, ⟨pm, fs, y', c1, c13, Tb⟩, w3, w4⟩, -⟩ := Fk
    have w4 : hSc G (hAr G.2.1 h.2.1) top hp vs.reverse a := w4
    have hb' : top + 16 * nu + (2 + hPt fr) + hVt h v ≤ Kb + xmTot h := hb
    obtain ⟨gs, n1, F⟩ := P.nd K pm c1
    obtain ⟨σ', ha', hl2, hp', gm, A1, A2, A3, ⟨A4, A5⟩, ⟨A6, A7, A8⟩, A9, A10⟩ := h_resL (κ := κ) (T := T) (n := N + 1317) (y := y') M Wt f9 hfr w1 w3 h15 n1 (by rw [F 13 (by decide) (by decide)]; exact c13) (by omega) hne.symm ml K.2.2.2.2.1 K.2.1
    have I' := I.pop A2 (HH.up (by omega) A6) A9 A10 (hGe.rf G) (hKp.up (by omega) A6) (fun k hk => A3 k (fun w' => hk (by revert w'; simp only [List.mem_cons, List.not_mem_nil, or_false]; omega))) A4 ((A3 13 (by decide)).trans I.2.2.2.2.2.2.2.1)
    have ex : xmSt T f pp ee (h, .inl (u, b, env, vs) :: fr, nu, .inr v) = .inr (h, fr, nu, .inl (b, env ++ [u], vs ++ [v])) := by cases nu <;> rfl
    rw [ex, A1]
    refine hOt.go I' Tb A5 ?_ (by omega)
    rw [List.reverse_append]
    exact w4.push HH hvx A6 A7 A8
  | inr rest =>
    obtain ⟨⟨w1, s, w2, w3⟩, -⟩ := Fk
    have f13 : fm[13]? = some (.int (nI (xmDp fr + 1))) := I.2.2.2.2.2.2.2.1
    have es : ∀ n, nI (n + 1) - 1 = nI n := fun n => by rw [← nI_p1, nI_pm]
    obtain ⟨⟨wr1, wr2, wr3⟩, ⟨q1, q2, q3⟩, d1, d2, d3, -⟩ := id Wt
    have e9 : ovi (ofd σ (some ma) 5 9) = some (nI (fr.length + 1)) := by rw [ofd_at M.1.1, f9]; rfl
    have m1 : (oput σ ma (.inr (5, fm.set 9 (.int (nI fr.length))))).1 ma = some (.inr (5, fm.set 9 (.int (nI fr.length)))) := oput_eq _ _ _
    have l1 : (fm.set 9 (.int (nI fr.length))).length = 18 := by rw [List.length_set]; exact M.1.2
    have g9 : ovi (ofd (oput σ ma (.inr (5, fm.set 9 (.int (nI fr.length))))) (some ma) 5 9) = some (nI fr.length) := by rw [ofd_at m1, List.getElem?_set_self (by rw [M.1.2]; decide)]; rfl
    have g6 : ovr (ofd (oput σ ma (.inr (5, fm.set 9 (.int (nI fr.length))))) (some ma) 5 6) = some (some wn) := by rw [ofd_at m1, List.getElem?_set_ne (by decide), wr1]; rfl
    have g13 : ovi (ofd (oput σ ma (.inr (5, fm.set 9 (.int (nI fr.length))))) (some ma) 5 13) = some (nI (xmDp fr + 1)) := by rw [ofd_at m1, List.getElem?_set_ne (by decide), f13]; rfl
    have zi : zin (nI fr.length) 1683 = true := zin_n hfr (by decide)
    have cl : (nI fr.length).toNatClampNeg = fr.length := nI_clamp (by omega)
    have q1' : (oput σ ma (.inr (5, fm.set 9 (.int (nI fr.length))))).1 wn = some (.inl (.object "LiquidTongue$Node", 1683, .inr (.inr (.inr (.inr WN))))) := (oput_ne d1.symm).trans q1
    have r1 : oar (oput σ ma (.inr (5, fm.set 9 (.int (nI fr.length))))) (some wn) (nI fr.length) = some none := by
      simp only [oar, q1', zi, if_true, cl, w1]
    generalize hgm : (fm.set 9 (.int (nI fr.length))).set 13 (.int (nI (xmDp fr))) = gm
    have gl : gm.length = 18 := by rw [← hgm, List.length_set]; exact l1
    have fx : hFx [4, 5, 9, 10, 13] fm gm := by rw [← hgm]; exact ((hFx.rf _ _).st (by decide)).st (by decide)
    have h9 : gm[9]? = some (.int (nI fr.length)) := by rw [← hgm, List.getElem?_set_ne (by decide), List.getElem?_set_self (by rw [M.1.2]; decide)]
    have h13 : gm[13]? = some (.int (nI (xmDp fr))) := by rw [← hgm, List.getElem?_set_self (by rw [l1]; decide)]
    have g4 : gm[4]? = fm[4]? := by rw [← hgm, List.getElem?_set_ne (by decide), List.getElem?_set_ne (by decide)]
    have g5 : gm[5]? = fm[5]? := by rw [← hgm, List.getElem?_set_ne (by decide), List.getElem?_set_ne (by decide)]
    have M' := M.pt (gm := gm) hne gl g4 g5
    have k' := (hKe.rf (W := fun _ => False) K.2.1 K.2.2.2.2.1 hne).pt (c := .inr (5, gm)) (x := ma) (Or.inl rfl) ml
    have I' := I.pop M' HH k' (hCo.rf _ _) (hGe.rf G) (fun a ha => ⟨ha, rfl⟩) fx h9 h13
    have G8 : ovr (ofd (oput σ ma (.inr (5, gm))) (some ma) 5 8) = some (some wa) := by rw [ofd_at M'.1.1, fx 8 (by decide), wr3]; rfl
    have G9 : ovi (ofd (oput σ ma (.inr (5, gm))) (some ma) 5 9) = some (nI fr.length) := by rw [ofd_at M'.1.1, h9]; rfl
    have G15 : ovl (ofd (oput σ ma (.inr (5, gm))) (some ma) 5 15) = some x := by rw [ofd_at M'.1.1, fx 15 (by decide), h15]; rfl
    have r3 : oai (oput σ ma (.inr (5, gm))) (some wa) .int (nI fr.length) = some (nI s) := by
      rw [oai_at ((oput_ne d3.symm).trans q3) zi, cl, w2]
    have SET : opf (oput σ ma (.inr (5, fm.set 9 (.int (nI fr.length))))) (some ma) 5 13 (.int (nI (xmDp fr))) = some (oput σ ma (.inr (5, gm))) := by
      rw [opf_at m1 (by rw [l1]; decide), oput_oput, hgm]
    rw [oE_X3_resume]
    unfold ob_X3_resume
    rw [e9, obn_at, es, opf_at M.1.1 (by rw [M.1.2]; decide), obn_at, g6, obn_at, g9, obn_at, r1, obn_at, if_pos rfl, g13, obn_at, es, SET, obn_at, G8, obn_at, G9, obn_at, r3, obn_at]
    cases rest with
    | nil =>
      have s0 : s = 0 := w3
      have ex : xmSt T f pp ee (h, .inr [] :: fr, nu, .inr v) = .inr (h, fr, nu, .inr v) := by cases nu <;> rfl
      rw [ex, if_pos (show nI s = (0 : Int32) by rw [s0]; rfl)]
      rw [hPt_nil] at hb
      exact ⟨none, _, rfl, G, top, ha, hl, hp, gm, I', hb, rfl, x, (fx 15 (by decide)).trans h15, hvx⟩
    | cons v0 rest =>
      have s4 := w3.1.1
      have t31 := M.2.2.2
      have n0 : ¬ nI s = (0 : Int32) := fun z => by have := nI_inj' (b := 0) (by have := s4.2.1; omega) (by omega) z; have := s4.1; omega
      have ex : xmSt T f pp ee (h, .inr (v0 :: rest) :: fr, nu, .inr v) = xmAp h fr nu v (v0 :: rest) := by cases nu <;> rfl
      have hb' : top + 16 * nu + (2 * (v0 :: rest).length + hPt fr) + hVt h v ≤ Kb + xmTot h := hb
      have r1 : 1 ≤ (v0 :: rest).length := by rw [List.length_cons]; omega
      obtain ⟨x', σ2, A1, A2⟩ := h_apply (N := N + 1316) (rest := v0 :: rest) (s := s) P hF f0 hT I' H hz hdp hfr hv (hy _ rfl (by simp)) hvx w3 (by omega) (fun q hq e => by omega) hK
      rw [ex, if_neg n0, G15, obn_at, oob_at M'.1.1, obn_at, A1]
      exact ⟨x', σ2, by cases x' <;> rfl, A2⟩
end HZG
