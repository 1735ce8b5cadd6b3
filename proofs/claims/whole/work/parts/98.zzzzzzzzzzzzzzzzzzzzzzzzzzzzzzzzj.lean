/-! run(), the class: behind the ARGS -/
section HAQ
variable {κ : oKv} {T n : Nat} {σ : oSt} {ma ha hl top : Nat} {fm : List Value} {hp : Nat → Int64} {m pa d w has a s : Nat} {mc : Int32} {fs : List Value}
/-- not enough: a function that has more -/
theorem h_ap96a {nu : Nat} (M : hMa ma fm ha hl hp top σ) (hn : σ.1 m = some (.inr (7, fs))) (h11 : fs[11]? = some (.ref pa)) (hl1 : σ.1 pa = some (.inr (1, [.int mc, .ref d, .int (nI w)]))) (h7 : fs[7]? = some (.int (nI nu))) (hw : has < w) (hw4 : w ≤ 4) (hk : top + 3 ≤ 332100) (hne : ma ≠ ha) (hml : ma < σ.2.1) (hhl : ha < σ.2.1) (hfr : ∀ q, σ.2.1 ≤ q → σ.1 q = none) : ∃ σ' ha' hl2 hp' gm, oj_X3_apply_96 T (oF κ T (n + 3)) κ (some ma) (some m) (nI a) (nI has) (nI s) σ = some (some (va_rf none), σ') ∧ hMa ma gm ha' hl2 hp' (top + 3) σ' ∧ hFx [4, 5, 15] fm gm ∧ gm[15]? = some (.long (xmNi top)) ∧ ((∀ i, i < top → hp' i = hp i) ∧ hp' top = xmNi nu ∧ hp' (top + 1) = xmNi a ∧ hp' (top + 2) = xmNi has) ∧ hGr ma ha hl σ σ' ha' hl2 ∧ ha' ≠ ma ∧ ha' < σ'.2.1 := by
  have e11 : ovr (ofd σ (some m) 7 11) = some (some pa) := by rw [ofd_at hn, h11]; rfl
  have e7 : ovi (ofd σ (some m) 7 7) = some (nI nu) := by rw [ofd_at hn, h7]; rfl
  obtain ⟨σ', ha', hl2, hp', T1, T2, T3, T4, T5, T6⟩ := h_triple (κ := κ) (T := T) (n := n) (x := xmNi nu) (y := xmNi a) (z := xmNi has) M hk hne hml hhl hfr
  have T1' : oF κ T (n + 3) 82 [va_rf (some ma), .long (nI nu).toInt64, .long (nI a).toInt64, .long (nI has).toInt64] σ = some (some (.int (nI top)), σ') := T1
  obtain ⟨⟨m1, m2⟩, ⟨m3, m4⟩, m5, m6, m7, m8⟩ := T2
  unfold oj_X3_apply_96
  rw [e11, obn_at, oob_at hl1, obn_at, h_size hl1, oin_at, if_neg (nI_ge (by omega) (by omega)), e7, obn_at, oob_at M.1.1, obn_at, T1', oin_at, opf_at m1 (by rw [m2]; decide), obn_at]
  refine ⟨_, ha', hl2, hp', _, rfl, ⟨⟨oput_eq _ _ _, by rw [List.length_set]; exact m2⟩, ⟨by rw [List.getElem?_set_ne (by decide)]; exact m3, by rw [List.getElem?_set_ne (by decide)]; exact m4⟩, (oput_ne T5).trans m5, m6, m7, m8⟩, (((hFx.rf [4, 5, 15] fm).st (by decide)).st (by decide)).st (by decide), ?_, T3, T4.pm hml, T5, T6⟩
  rw [List.getElem?_set_self (by rw [m2]; decide)]
  rfl
/-- too deep -/
theorem h_ap96b (M : hMa ma fm ha hl hp top σ) (hn : σ.1 m = some (.inr (7, fs))) (h11 : fs[11]? = some (.ref pa)) (hl1 : σ.1 pa = some (.inr (1, [.int mc, .ref d, .int (nI w)]))) (hw : w ≤ has) (hh : has ≤ 4) (h13 : fm[13]? = some (.int 50)) : oj_X3_apply_96 T (oF κ T (n + 3)) κ (some ma) (some m) (nI a) (nI has) (nI s) σ = some (some (va_rf none), oput σ ma (.inr (5, fm.set 12 (.int 2)))) := by
  have e11 : ovr (ofd σ (some m) 7 11) = some (some pa) := by rw [ofd_at hn, h11]; rfl
  unfold oj_X3_apply_96
  rw [e11, obn_at, oob_at hl1, obn_at, h_size hl1, oin_at, if_pos (nI_le (by omega) (by omega)), ofd_at M.1.1, h13, ovi_in, obn_at, if_pos rfl, opf_at M.1.1 (by rw [M.1.2]; decide), obn_at]
/-- a call -/
theorem h_ap96c {dp wc wn ws wa y : Nat} {WN : Nat → Option Nat} {WS WA : Nat → Int32} (M : hMa ma fm ha hl hp top σ) (hn : σ.1 m = some (.inr (7, fs))) (h11 : fs[11]? = some (.ref pa)) (h12 : fs[12]? = some (.ref y)) (hl1 : σ.1 pa = some (.inr (1, [.int mc, .ref d, .int (nI w)]))) (hw : w ≤ has) (hh : has ≤ 4) (h13 : fm[13]? = some (.int (nI dp))) (hdp : dp < 50) (h9 : fm[9]? = some (.int (nI wc))) (hwc : wc < 1683) (Wt : hWt ma fm wn ws wa WN WS WA σ) (hne : ha ≠ ma) : ∃ σ' gm, oj_X3_apply_96 T (oF κ T (n + 3)) κ (some ma) (some m) (nI a) (nI has) (nI s) σ = some (some (va_rf (some y)), σ') ∧ hMa ma gm ha hl hp top σ' ∧ hFx [9, 10, 13] fm gm ∧ (gm[9]? = some (.int (nI (wc + 1))) ∧ gm[10]? = some (.int (nI a)) ∧ gm[13]? = some (.int (nI (dp + 1)))) ∧ hWt ma gm wn ws wa (va_up WN wc none) (upd WS wc 0) (upd WA wc (nI s)) σ' ∧ (∀ x, x ≠ ma → x ≠ wn → x ≠ ws → x ≠ wa → σ'.1 x = σ.1 x) ∧ σ'.2 = σ.2 := by
  have e11 : ovr (ofd σ (some m) 7 11) = some (some pa) := by rw [ofd_at hn, h11]; rfl
  have n50 : ¬ nI dp = (50 : Int32) := fun w => by have := nI_inj' (b := 50) (by omega) (by omega) w; omega
  have e13 : ovi (ofd σ (some ma) 5 13) = some (nI dp) := by rw [ofd_at M.1.1, h13]; rfl
  obtain ⟨⟨m1, m2⟩, ⟨m3, m4⟩, m5, m6⟩ := id M
  obtain ⟨⟨w1, w2, w3⟩, ⟨c1, c2, c3⟩, d1, d2, d3, d4, d5, d6⟩ := id Wt
  have g1 : (oput σ ma (.inr (5, fm.set 13 (.int (nI (dp + 1)))))).1 ma = some (.inr (5, fm.set 13 (.int (nI (dp + 1))))) := oput_eq _ _ _
  have Wt1 : hWt ma (fm.set 13 (.int (nI (dp + 1)))) wn ws wa WN WS WA (oput σ ma (.inr (5, fm.set 13 (.int (nI (dp + 1)))))) := ⟨⟨by rw [List.getElem?_set_ne (by decide)]; exact w1, by rw [List.getElem?_set_ne (by decide)]; exact w2, by rw [List.getElem?_set_ne (by decide)]; exact w3⟩, ⟨(oput_ne d1.symm).trans c1, (oput_ne d2.symm).trans c2, (oput_ne d3.symm).trans c3⟩, d1, d2, d3, d4, d5, d6⟩
  obtain ⟨σ1, A1, A2, A3, A4, A5⟩ := h_await (κ := κ) (T := T) (n := n + 2) (wc := wc) (x1 := none) (s := 0) (a := nI s) g1 (by rw [List.length_set]; exact m2) (by rw [List.getElem?_set_ne (by decide)]; exact h9) hwc Wt1 (fun b e => by cases e)
  obtain ⟨⟨v1, v2, v3⟩, ⟨u1, u2, u3⟩, -⟩ := A3
  have nwn : m ≠ wn := fun e => by rw [e, c1] at hn; cases hn
  have nws : m ≠ ws := fun e => by rw [e, c2] at hn; cases hn
  have nwa : m ≠ wa := fun e => by rw [e, c3] at hn; cases hn
  have nma : m ≠ ma := fun e => by rw [e, m1] at hn; cases hn
  have hwn : ha ≠ wn := fun e => by rw [e, c1] at m5; cases m5
  have hws : ha ≠ ws := fun e => by rw [e, c2] at m5; cases m5
  have hwa : ha ≠ wa := fun e => by rw [e, c3] at m5; cases m5
  have k4 : ∀ x, x ≠ ma → x ≠ wn → x ≠ ws → x ≠ wa → σ1.1 x = σ.1 x := fun x q1 q2 q3 q4 => (A4 x q1 q2 q3 q4).trans (oput_ne q1)
  have l18 : ((fm.set 13 (.int (nI (dp + 1)))).set 9 (.int (nI (wc + 1)))).length = 18 := by rw [List.length_set, List.length_set]; exact m2
  have n2 : (oput σ1 ma (.inr (5, ((fm.set 13 (.int (nI (dp + 1)))).set 9 (.int (nI (wc + 1)))).set 10 (.int (nI a))))).1 m = some (.inr (7, fs)) := by
    rw [oput_ne nma, k4 m nma nwn nws nwa]; exact hn
  have e12 : ovr (ofd (oput σ1 ma (.inr (5, ((fm.set 13 (.int (nI (dp + 1)))).set 9 (.int (nI (wc + 1)))).set 10 (.int (nI a))))) (some m) 7 12) = some (some y) := by rw [ofd_at n2, h12]; rfl
  unfold oj_X3_apply_96
  rw [e11, obn_at, oob_at hl1, obn_at, h_size hl1, oin_at, if_pos (nI_le (by omega) (by omega)), e13, obn_at, if_neg n50, obn_at, nI_p1, opf_at m1 (by rw [m2]; decide), obn_at, oob_at g1, obn_at, A1]
  unfold ocv
  simp only
  rw [opf_at A2 (by rw [l18]; decide), obn_at, e12, obn_at]
  refine ⟨_, _, rfl, ⟨⟨oput_eq _ _ _, by rw [List.length_set]; exact l18⟩, ⟨?_, ?_⟩, ?_, m6⟩, (((hFx.rf [9, 10, 13] fm).st (by decide)).st (by decide)).st (by decide), ⟨?_, ?_, ?_⟩, ⟨⟨?_, ?_, ?_⟩, ⟨(oput_ne d1.symm).trans u1, (oput_ne d2.symm).trans u2, (oput_ne d3.symm).trans u3⟩, d1, d2, d3, d4, d5, d6⟩, fun x q1 q2 q3 q4 => (oput_ne q1).trans (k4 x q1 q2 q3 q4), A5⟩
  · rw [List.getElem?_set_ne (by decide), List.getElem?_set_ne (by decide), List.getElem?_set_ne (by decide)]; exact m3
  · rw [List.getElem?_set_ne (by decide), List.getElem?_set_ne (by decide), List.getElem?_set_ne (by decide)]; exact m4
  · rw [oput_ne hne, k4 ha hne hwn hws hwa]; exact m5
  · rw [List.getElem?_set_ne (by decide), List.getElem?_set_self (by rw [List.length_set, m2]; decide)]
  · rw [List.getElem?_set_self (by rw [l18]; decide)]
  · rw [List.getElem?_set_ne (by decide), List.getElem?_set_ne (by decide), List.getElem?_set_self (by rw [m2]; decide)]
  · rw [List.getElem?_set_ne (by decide)]; exact v1
  · rw [List.getElem?_set_ne (by decide)]; exact v2
  · rw [List.getElem?_set_ne (by decide)]; exact v3
end HAQ
