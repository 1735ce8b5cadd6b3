/-! run(), the class: go() -/
/-- how go() leaves it -/
def hEz (σ0 : oSt) (ma ha0 wn ws wa : Nat) (fm0 : List Value) (hl0 : Nat) (gave : Int64) (took : Int32) (σ : oSt) : Prop := ∃ ha hl hp top fm, hMa ma fm ha hl hp top σ ∧ (hKe (hW wn ws wa) ma ha0 σ0 σ ha ∧ hCo σ0 hl0 σ hl) ∧ (∃ WN WS WA, hWt ma fm wn ws wa WN WS WA σ) ∧ hFx [4, 5, 9, 10, 11, 12, 13, 14, 15, 16, 17] fm0 fm ∧ fm[16]? = some (.long gave) ∧ fm[17]? = some (.int took)
section HZK
variable {κ : oKv} {T n cnt : Nat} {kk pp ee f fc : Nat → Int32} {tE tN : Nat → tY} {R : Nat → Int32} {L : List Nat} {y0 : tY} {B : Nat → Nat} {D : cDt} {V : oSt} {nm : Nat → Option Nat} {p : Nat} {σ0 : oSt} {nf ma ha0 wn ws wa : Nat} {fm0 : List Value} {hl0 : Nat} {σ σ' : oSt} {G G' : hG} {top ha hl top' ha' hl' : Nat} {hp hp' : Nat → Int64} {fm gm : List Value} {nu n' : Nat} {h h' : xmHp} {fr : List xmFr} {env : List Nat} {vs : List xmV} {N sc pg e0 va ra : Nat} {fv gv ge : Nat → Int64} {gr : Nat → Option Nat} {is : List (Nat × Nat)} {e : tT}
/-- the last two fields -/
theorem hEz.of {gave : Int64} {took : Int32} {WN : Nat → Option Nat} {WS WA : Nat → Int32} (M : hMa ma fm ha hl hp top σ) (K : hKe (hW wn ws wa) ma ha0 σ0 σ ha) (C : hCo σ0 hl0 σ hl) (Wt : hWt ma fm wn ws wa WN WS WA σ) (F : hFx [4, 5, 9, 10, 11, 12, 13, 14, 15] fm0 fm) (ml : ma < σ.2.1) : hEz σ0 ma ha0 wn ws wa fm0 hl0 gave took (oput σ ma (.inr (5, (fm.set 17 (.int took)).set 16 (.long gave)))) := by
  obtain ⟨-, -, d1, d2, d3, -⟩ := id Wt
  have fx : ∀ k, k ≠ 16 → k ≠ 17 → ((fm.set 17 (.int took)).set 16 (.long gave))[k]? = fm[k]? := fun k h1 h2 => by rw [List.getElem?_set_ne (fun w => h1 w.symm), List.getElem?_set_ne (fun w => h2 w.symm)]
  refine ⟨ha, hl, hp, top, _, M.pt K.2.2.2.2.2 (by rw [List.length_set, List.length_set]; exact M.1.2) (fx 4 (by decide) (by decide)) (fx 5 (by decide) (by decide)), ⟨K.pt (Or.inl rfl) ml, C⟩, ⟨WN, WS, WA, Wt.kp (fun x hx => oput_ne ?_) (fun q hq => fx q (by omega) (by omega))⟩, fun q hq => (fx q (fun w => hq (by rw [w]; decide)) (fun w => hq (by rw [w]; decide))).trans (F q (fun w => hq ?_)), ?_, ?_⟩
  · rcases hx with e | e | e
    · rw [e]; exact d1.symm
    · rw [e]; exact d2.symm
    · rw [e]; exact d3.symm
  · revert w
    simp only [List.mem_cons, List.not_mem_nil, or_false]
    omega
  · rw [List.getElem?_set_self (by rw [List.length_set, M.1.2]; decide)]
  · rw [List.getElem?_set_ne (by decide), List.getElem?_set_self (by rw [M.1.2]; decide)]
set_option maxHeartbeats 1000000 in
/-- **go() (101)** -/
theorem h_go {n0 : Nat} {hp0 : Nat → Int64} {WN : Nat → Option Nat} {WS WA : Nat → Int32} (P : hPo T pp ee f fc tN L V nm p (hW wn ws wa) ma ha0 σ0) (hF : hFl κ D V p pg nf) (hI : hFi κ D V p pg nm is e0) (f0 : fm0[0]? = some (.ref pg)) (f1 : fm0[1]? = some (.int (cKd (yK y0)))) (hT : 240010 ≤ T) (m0 : σ0.1 ma = some (.inr (5, fm0)) ∧ fm0.length = 18) (m4 : fm0[4]? = some (.ref ha0)) (mh : σ0.1 ha0 = some (.inl (.long, hl0, .inr (.inl hp0)))) (hl0' : 64 ≤ hl0 ∧ hl0 < 2 ^ 30) (Wt0 : hWt ma fm0 wn ws wa WN WS WA σ0) (N' : hIn fm0 ma ha0 (hW wn ws wa) σ0 va ra fv gr) (Gi : hGi σ0 is fv gv ge gr) (h6 : is.length ≤ 6) (hk : ∀ (i : Nat) (y : Nat × Nat), is[i]? = some y → y.2 ≤ 2 ∧ yK (tN y.1) = y.2 + 2) (hn0 : n0 ≤ 20000) (hg : ∀ i y, is[i]? = some y → y.2 = 2 → (0 ≤ (gv i).toInt ∧ (gv i).toInt ≤ 1000) ∧ ∀ k : Nat, (k : Int) < (gv i).toInt → xmB (ge (1000 * i + k)) = true) (hb : ∀ i y, is[i]? = some y → y.2 = 0 → xmB (gv i) = true) (w : xmE cnt kk f pp ee tE tN R L e (is.map Prod.fst) y0) (hh : tH e ≤ 31) (Tt : hTt κ T kk pp ee f fc tN B D V nm p σ0 nf e (is.map Prod.fst) e0) : ∃ σ', (∀ r, xmGo T f pp ee 80001 (xm0 gv ge is e n0) = .inl r → oF κ T (N + 1322) 101 [va_rf (some ma), .int (nI n0)] σ0 = some (some (.int (nI r.1)), σ') ∧ hEz σ0 ma ha0 wn ws wa fm0 hl0 0 (nI n0 - nI r.2) σ' ∧ 1 ≤ r.1 ∧ r.1 ≤ 6) ∧ ∀ r, xmGo T f pp ee 80001 (xm0 gv ge is e n0) = .inr r → oF κ T (N + 1322) 101 [va_rf (some ma), .int (nI n0)] σ0 = some (some (.int 0), σ') ∧ hEz σ0 ma ha0 wn ws wa fm0 hl0 (xmOut r.1 r.2.2) (nI n0 - nI r.2.1) σ' := by
  obtain ⟨m1, m2⟩ := m0
  have hml := P.2.2.2.1.2.2.2
  have fr0 := P.2.2.2.1.1
  have hne : ha0 ≠ ma := fun q => by rw [q, m1] at mh; cases mh
  have hal : ha0 < σ0.2.1 := Nat.lt_of_not_le (fun q => by rw [fr0 ha0 q] at mh; cases mh)
  generalize hfb : (((((((fm0.set 11 (.int (nI n0))).set 12 (.int 0)).set 5 (.int 4)).set 9 (.int 0)).set 10 (.int 0)).set 13 (.int 0)).set 14 (.int 0)).set 15 (.long 0) = fmb
  have lb : fmb.length = 18 := by rw [← hfb]; simp only [List.length_set]; exact m2
  have fx : hFx [4, 5, 9, 10, 11, 12, 13, 14, 15] fm0 fmb := by
    rw [← hfb]
    exact ((((((((hFx.rf _ fm0).st (by decide)).st (by decide)).st (by decide)).st (by decide)).st (by decide)).st (by decide)).st (by decide)).st (by decide)
  have b4 : fmb[4]? = some (.ref ha0) := by rw [← hfb]; simp only [List.getElem?_set_ne (show (15 : Nat) ≠ 4 by decide), List.getElem?_set_ne (show (14 : Nat) ≠ 4 by decide), List.getElem?_set_ne (show (13 : Nat) ≠ 4 by decide), List.getElem?_set_ne (show (10 : Nat) ≠ 4 by decide), List.getElem?_set_ne (show (9 : Nat) ≠ 4 by decide), List.getElem?_set_ne (show (5 : Nat) ≠ 4 by decide), List.getElem?_set_ne (show (12 : Nat) ≠ 4 by decide), List.getElem?_set_ne (show (11 : Nat) ≠ 4 by decide)]; exact m4
  have b5 : fmb[5]? = some (.int (nI 4)) := by
    rw [← hfb, List.getElem?_set_ne (by decide), List.getElem?_set_ne (by decide), List.getElem?_set_ne (by decide), List.getElem?_set_ne (by decide), List.getElem?_set_ne (by decide), List.getElem?_set_self (by simp only [List.length_set]; rw [m2]; decide)]; rfl
  have b9 : fmb[9]? = some (.int (nI 0)) := by
    rw [← hfb, List.getElem?_set_ne (by decide), List.getElem?_set_ne (by decide), List.getElem?_set_ne (by decide), List.getElem?_set_ne (by decide), List.getElem?_set_self (by simp only [List.length_set]; rw [m2]; decide)]; rfl
  have b10 : fmb[10]? = some (.int (nI 0)) := by
    rw [← hfb, List.getElem?_set_ne (by decide), List.getElem?_set_ne (by decide), List.getElem?_set_ne (by decide), List.getElem?_set_self (by simp only [List.length_set]; rw [m2]; decide)]; rfl
  have b13 : fmb[13]? = some (.int (nI 0)) := by
    rw [← hfb, List.getElem?_set_ne (by decide), List.getElem?_set_ne (by decide), List.getElem?_set_self (by simp only [List.length_set]; rw [m2]; decide)]; rfl
  have b14 : fmb[14]? = some (.int (nI 0)) := by
    rw [← hfb, List.getElem?_set_ne (by decide), List.getElem?_set_self (by simp only [List.length_set]; rw [m2]; decide)]; rfl
  have b12 : fmb[12]? = some (.int 0) := by
    rw [← hfb, List.getElem?_set_ne (by decide), List.getElem?_set_ne (by decide), List.getElem?_set_ne (by decide), List.getElem?_set_ne (by decide), List.getElem?_set_ne (by decide), List.getElem?_set_ne (by decide), List.getElem?_set_self (by simp only [List.length_set]; rw [m2]; decide)]
  have b11 : fmb[11]? = some (.int (nI n0)) := by
    rw [← hfb, List.getElem?_set_ne (by decide), List.getElem?_set_ne (by decide), List.getElem?_set_ne (by decide), List.getElem?_set_ne (by decide), List.getElem?_set_ne (by decide), List.getElem?_set_ne (by decide), List.getElem?_set_ne (by decide), List.getElem?_set_self (by rw [m2]; decide)]
  have K0 := (hKe.rf (W := hW wn ws wa) fr0 hal hne).pt (c := .inr (5, fmb)) (x := ma) (Or.inl rfl) hml
  have M0 : hMa ma fmb ha0 hl0 hp0 4 (oput σ0 ma (.inr (5, fmb))) := ⟨⟨oput_eq _ _ _, lb⟩, ⟨b4, b5⟩, (oput_ne hne).trans mh, by omega, by omega, by omega, by omega⟩
  obtain ⟨-, -, d1, d2, d3, -⟩ := id Wt0
  have Wtb : hWt ma fmb wn ws wa WN WS WA (oput σ0 ma (.inr (5, fmb))) := Wt0.kp (fun x hx => oput_ne (by
    rcases hx with e | e | e
    · rw [e]; exact d1.symm
    · rw [e]; exact d2.symm
    · rw [e]; exact d3.symm)) (fun q hq => fx q (by rcases hq with e | e | e <;> (rw [e]; decide)))
  have I0 : hXa κ T kk pp ee f fc tN B D V nm p σ0 nf ma ha0 wn ws wa fm0 hl0 (oput σ0 ma (.inr (5, fmb))) ([], [], []) 4 ha0 hl0 hp0 fmb n0 ([], [], []) [] := ⟨⟨M0, ⟨rfl, rfl, rfl, Nat.le_refl _, by show 0 + 0 + 0 < _; omega⟩, fun i fn a q => (by cases q), fun i yy a q => (by cases q), fun i j yy a b q1 q2 => (by cases q2), fun i c a q => (by cases q)⟩, ⟨K0, hCo.rf _ _⟩, ⟨WN, WS, WA, Wtb, trivial⟩, fx, b9, b11, b12, b13, b14⟩
  have hL : ∀ (i : Nat) (y : Nat × Nat), is[i]? = some y → y.1 ∈ L := fun i y hy => w.inL (List.mem_map_of_mem (List.mem_of_getElem? hy))
  obtain ⟨σ1, G1, top1, ha1, hl1, hp1, gm1, sc1, A1, A2, A3, A4, A5⟩ := h_bg32 (N := N + 1315) P hF hI f0 (by omega) N' Gi h6 hk hL is 0 T _ ([], [], []) 4 ha0 hl0 hp0 fmb [] [] 0 rfl (Nat.zero_le _) (by omega) I0 b10 rfl ⟨Nat.le_refl _, Nat.le_refl _⟩ (Nat.le_refl _)
  obtain ⟨⟨t1, t2⟩, ⟨t3, t4⟩, t5⟩ := xi_ty (tE := tE) h6 hk hg hb is 0 [] [] rfl (Nat.zero_le _) ⟨rfl, Nat.le_refl _⟩ ⟨fun a ha => (by cases ha), Nat.le_refl _⟩ (fun k y v _ h2 => by cases h2)
  have Iv : xmI cnt kk f pp ee tE tN R L y0 (xm0 gv ge is e n0) := by
    refine ⟨⟨fun fn hf => (by cases hf), ⟨t3, Nat.le_trans t4 (by decide)⟩, fun i c hc => (by cases hc)⟩, Nat.zero_le _, y0, w, ⟨by rw [List.length_map]; exact t1, fun k u v h1 h2 => ?_⟩, hh, rfl⟩
    have h1 : (is.map Prod.fst)[k]? = some u := h1
    rw [List.getElem?_map] at h1
    cases q : is[k]? with
    | none => rw [q] at h1; cases h1
    | some y =>
      rw [q] at h1
      injection h1 with h1
      subst h1
      exact t5 k y v q h2
  have hn : xmN n0 (xm0 gv ge is e n0) := ⟨Nat.le_refl _, by show 0 + 0 ≤ _; omega, by show (xiS gv ge is 0 [] []).1.length ≤ _; omega, by show 0 ≤ _; omega⟩
  have S1 : hSt κ T kk pp ee f fc tN B D V nm p σ0 nf ma ha0 wn ws wa fm0 hl0 (22 + 16 * n0) σ1 (some e0) (xm0 gv ge is e n0) := ⟨G1, top1, ha1, hl1, hp1, gm1, A2, by show top1 + 16 * n0 + 0 ≤ 22 + 16 * n0 + xmTot ([], (xiS gv ge is 0 [] []).1, []); omega, e0, sc1, rfl, Tt, A3, A4⟩
  obtain ⟨B1, B2⟩ := h_lp (N := N) (n0 := nI n0) P hF f0 (by omega) (show 22 + 16 * n0 ≤ 322000 by omega) hn0 80001 (xm0 gv ge is e n0) (some e0) σ1 0 T (by show 4 * n0 + 2 * 0 + 0 < _; omega) (by omega) (by omega) S1 Iv hn
  -- go() up to its loop
  obtain ⟨ppg, -⟩ := id hF
  obtain ⟨gp, tl, d, cap, mc, nt, i1, -, -, i4, -⟩ := id hI
  have pg' := P.ob A2.2.1.1 ppg i1 (by decide)
  have q0 : ovr (ofd σ1 (some ma) 5 0) = some (some pg) := by rw [ofd_at A2.1.1.1.1, A2.2.2.2.1 0 (by decide), f0]; rfl
  have q10 : ovr (ofd σ1 (some pg) 9 10) = some (some e0) := by rw [ofd_at pg', i4]; rfl
  have BEG : oF κ T (N + 1321) 80 [va_rf (some ma)] (oput σ0 ma (.inr (5, (fm0.set 11 (.int (nI n0))).set 12 (.int 0)))) = some (none, σ1) := by
    have mm : ∀ (g : List Value), (oput σ0 ma (.inr (5, g))).1 ma = some (.inr (5, g)) := fun g => oput_eq _ _ _
    rw [oE_X3_begin]
    unfold ob_X3_begin
    rw [opf_at (mm _) (by simp only [List.length_set]; rw [m2]; decide), obn_at, oput_oput, opf_at (mm _) (by simp only [List.length_set]; rw [m2]; decide), obn_at, oput_oput, opf_at (mm _) (by simp only [List.length_set]; rw [m2]; decide), obn_at, oput_oput, opf_at (mm _) (by simp only [List.length_set]; rw [m2]; decide), obn_at, oput_oput, opf_at (mm _) (by simp only [List.length_set]; rw [m2]; decide), obn_at, oput_oput, opf_at (mm _) (by simp only [List.length_set]; rw [m2]; decide), obn_at, oput_oput, hfb]
    exact A1
  have GO : oF κ T (N + 1322) 101 [va_rf (some ma), .int (nI n0)] σ0 = ol_X3_go_24 T (oF κ T (N + 1321)) κ T (some ma) (nI n0) (some e0) (nI 0) σ1 := by
    have mm : ∀ (g : List Value), (oput σ0 ma (.inr (5, g))).1 ma = some (.inr (5, g)) := fun g => oput_eq _ _ _
    rw [oE_X3_go]
    unfold ob_X3_go
    rw [opf_at m1 (by rw [m2]; decide), obn_at, opf_at (mm _) (by rw [List.length_set, m2]; decide), obn_at, oput_oput, oob_at (mm _), obn_at, BEG, ocv_at, q0, obn_at, q10, obn_at]
    rfl
  rw [GO]
  cases q : xmGo T f pp ee 80001 (xm0 gv ge is e n0) with
  | inl r =>
    obtain ⟨σ2, c1, c2, c3, c4⟩ := B1 r q
    obtain ⟨ha2, hl2, hp2, top2, fm2, ⟨M2, -⟩, ⟨K2, C2⟩, ⟨WN2, WS2, WA2, Wt2⟩, F2, g11, g12⟩ := c2
    have ml2 : ma < σ2.2.1 := by have := K2.2.2.1; omega
    refine ⟨oput σ2 ma (.inr (5, (fm2.set 17 (.int (nI n0 - nI r.2))).set 16 (.long 0))), fun r' hr' => ?_, fun r' hr' => (by cases hr')⟩
    injection hr' with hr'
    subst hr'
    refine ⟨?_, hEz.of M2 K2 C2 Wt2 F2 ml2, c3, c4⟩
    have mm : ∀ (g : List Value), (oput σ2 ma (.inr (5, g))).1 ma = some (.inr (5, g)) := fun g => oput_eq _ _ _
    have e11 : ovi (ofd σ2 (some ma) 5 11) = some (nI r.2) := by rw [ofd_at M2.1.1, g11]; rfl
    have e12 : ovi (ofd (oput σ2 ma (.inr (5, fm2.set 17 (.int (nI n0 - nI r.2))))) (some ma) 5 12) = some (nI r.1) := by rw [ofd_at (mm _), List.getElem?_set_ne (by decide), g12]; rfl
    have e12' : ovi (ofd (oput σ2 ma (.inr (5, (fm2.set 17 (.int (nI n0 - nI r.2))).set 16 (.long 0)))) (some ma) 5 12) = some (nI r.1) := by rw [ofd_at (mm _), List.getElem?_set_ne (by decide), List.getElem?_set_ne (by decide), g12]; rfl
    rw [c1]
    unfold oj_X3_go_71 oj_X3_go_105
    rw [e11, obn_at, opf_at M2.1.1 (by rw [M2.1.2]; decide), obn_at, e12, obn_at, if_neg (fun w' => by have := nI_inj' (b := 0) (by omega) (by omega) w'; omega), opf_at (mm _) (by rw [List.length_set, M2.1.2]; decide), obn_at, oput_oput, e12', obn_at]
  | inr r =>
    obtain ⟨σ2, c1, c2, c3, -⟩ := B2 r q
    obtain ⟨h, n2, v⟩ := r
    obtain ⟨G2, top2, ha2, hl2, hp2, fm2, I2, -, -, x, x15, hv⟩ := c2
    have I2 : hXa κ T kk pp ee f fc tN B D V nm p σ0 nf ma ha0 wn ws wa fm0 hl0 σ2 G2 top2 ha2 hl2 hp2 fm2 n2 h [] := I2
    obtain ⟨-, -, ty, hvt, hy0⟩ := c3
    have hy0 : ty = y0 := hy0
    subst hy0
    have hvt : xmT tE tN h ty v := hvt
    obtain ⟨⟨M2, H2⟩, ⟨K2, C2⟩, ⟨WN2, WS2, WA2, Wt2, -⟩, F2, g9, g11, g12, g13, g14⟩ := I2
    have ml2 : ma < σ2.2.1 := by have := K2.2.2.1; omega
    refine ⟨oput σ2 ma (.inr (5, (fm2.set 17 (.int (nI n0 - nI n2))).set 16 (.long (xmOut h v)))), fun r' hr' => (by cases hr'), fun r' hr' => ?_⟩
    injection hr' with hr'
    subst hr'
    refine ⟨?_, hEz.of M2 K2 C2 Wt2 F2 ml2⟩
    have mm : ∀ (g : List Value), (oput σ2 ma (.inr (5, g))).1 ma = some (.inr (5, g)) := fun g => oput_eq _ _ _
    have M3 := M2.pt (gm := fm2.set 17 (.int (nI n0 - nI n2))) K2.2.2.2.2.2 (by rw [List.length_set]; exact M2.1.2) (List.getElem?_set_ne (by decide)) (List.getElem?_set_ne (by decide))
    have V3 := c_measure (κ := κ) (T := T) (n := N + 1320) M3 H2 hv (hKc_of hvt)
    have e11 : ovi (ofd σ2 (some ma) 5 11) = some (nI n2) := by rw [ofd_at M2.1.1, g11]; rfl
    have e12 : ovi (ofd (oput σ2 ma (.inr (5, fm2.set 17 (.int (nI n0 - nI n2))))) (some ma) 5 12) = some 0 := by rw [ofd_at (mm _), List.getElem?_set_ne (by decide), g12]; rfl
    have e15 : ovl (ofd (oput σ2 ma (.inr (5, fm2.set 17 (.int (nI n0 - nI n2))))) (some ma) 5 15) = some x := by rw [ofd_at (mm _), List.getElem?_set_ne (by decide), x15]; rfl
    have e1 : ovi (ofd (oput σ2 ma (.inr (5, fm2.set 17 (.int (nI n0 - nI n2))))) (some ma) 5 1) = some (cKd (yK ty)) := by rw [ofd_at (mm _), List.getElem?_set_ne (by decide), F2 1 (by decide), f1]; rfl
    have e12' : ovi (ofd (oput σ2 ma (.inr (5, (fm2.set 17 (.int (nI n0 - nI n2))).set 16 (.long (xmOut h v))))) (some ma) 5 12) = some 0 := by rw [ofd_at (mm _), List.getElem?_set_ne (by decide), List.getElem?_set_ne (by decide), g12]; rfl
    rw [c1]
    unfold oj_X3_go_71 oj_X3_go_105
    rw [e11, obn_at, opf_at M2.1.1 (by rw [M2.1.2]; decide), obn_at, e12, obn_at, if_pos rfl, e15, obn_at, e1, obn_at, oob_at (mm _), obn_at, V3, oln_lg, opf_at (mm _) (by rw [List.length_set, M2.1.2]; decide), obn_at, oput_oput, e12', obn_at]
end HZK
