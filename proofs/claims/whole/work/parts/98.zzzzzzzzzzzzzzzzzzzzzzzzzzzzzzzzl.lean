/-! run(), the class: a let goes on -/
section HRL
variable {κ : oKv} {T n : Nat} {σ : oSt} {ma ha hl top : Nat} {fm : List Value} {hp : Nat → Int64} {m a wc wn ws wa y : Nat} {WN : Nat → Option Nat} {WS WA : Nat → Int32} {fs : List Value} {x : Int64}
/-- **resume() (100)**: a let -/
theorem h_resL (M : hMa ma fm ha hl hp top σ) (Wt : hWt ma fm wn ws wa WN WS WA σ) (h9 : fm[9]? = some (.int (nI (wc + 1)))) (hwc : wc < 1683) (hN : WN wc = some m) (hS : WS wc = nI a) (h15 : fm[15]? = some (.long x)) (hn : σ.1 m = some (.inr (7, fs))) (h13 : fs[13]? = some (.ref y)) (hk : top + 2 ≤ 332100) (hne : ma ≠ ha) (hml : ma < σ.2.1) (hhl : ha < σ.2.1) (hfr : ∀ q, σ.2.1 ≤ q → σ.1 q = none) : ∃ σ' ha' hl2 hp' gm, oF κ T (n + 4) 100 [va_rf (some ma)] σ = some (some (va_rf (some y)), σ') ∧ hMa ma gm ha' hl2 hp' (top + 2) σ' ∧ hFx [4, 5, 9, 10] fm gm ∧ (gm[9]? = some (.int (nI wc)) ∧ gm[10]? = some (.int (nI top))) ∧ ((∀ i, i < top → hp' i = hp i) ∧ hp' top = x ∧ hp' (top + 1) = xmNi a) ∧ hKe (fun _ => False) ma ha σ σ' ha' ∧ (σ'.2.2.2 + 2 * hl ≤ σ.2.2.2 + 2 * hl2 ∧ 64 * σ'.2.2.1 + hl ≤ 64 * σ.2.2.1 + hl2 ∧ (hl2 = hl ∨ hl2 ≤ 664200)) := by
  obtain ⟨⟨m1, m2⟩, ⟨m3, m4⟩, m5, m6, m7, m8⟩ := id M
  obtain ⟨⟨w1, w2, w3⟩, ⟨c1, c2, c3⟩, d1, d2, d3, d4, d5, d6⟩ := id Wt
  have e9 : ovi (ofd σ (some ma) 5 9) = some (nI (wc + 1)) := by rw [ofd_at m1, h9]; rfl
  have es : nI (wc + 1) - 1 = nI wc := by rw [← nI_p1, nI_pm]
  have M1 : hMa ma (fm.set 9 (.int (nI wc))) ha hl hp top (oput σ ma (.inr (5, fm.set 9 (.int (nI wc))))) := ⟨⟨oput_eq _ _ _, by rw [List.length_set]; exact m2⟩, ⟨by rw [List.getElem?_set_ne (by decide)]; exact m3, by rw [List.getElem?_set_ne (by decide)]; exact m4⟩, (oput_ne hne.symm).trans m5, m6, m7, m8⟩
  have K1 := (hKe.rf (W := fun _ => False) hfr hhl hne.symm).pt (c := .inr (5, fm.set 9 (.int (nI wc)))) (x := ma) (Or.inl rfl) hml
  have g : ∀ k, k ≠ 9 → ofd (oput σ ma (.inr (5, fm.set 9 (.int (nI wc))))) (some ma) 5 k = fm[k]? := fun k q => by
    rw [ofd_at M1.1.1, List.getElem?_set_ne (fun e => q e.symm)]
  have g9 : ovi (ofd (oput σ ma (.inr (5, fm.set 9 (.int (nI wc))))) (some ma) 5 9) = some (nI wc) := by
    rw [ofd_at M1.1.1, List.getElem?_set_self (by rw [m2]; decide)]; rfl
  have zi : zin (nI wc) 1683 = true := zin_n hwc (by decide)
  have cl : (nI wc).toNatClampNeg = wc := nI_clamp (by omega)
  have c1' : (oput σ ma (.inr (5, fm.set 9 (.int (nI wc))))).1 wn = some (.inl (.object "LiquidTongue$Node", 1683, .inr (.inr (.inr (.inr WN))))) := (oput_ne d1.symm).trans c1
  have c2' : (oput σ ma (.inr (5, fm.set 9 (.int (nI wc))))).1 ws = some (.inl (.int, 1683, .inl WS)) := (oput_ne d2.symm).trans c2
  have r1 : oar (oput σ ma (.inr (5, fm.set 9 (.int (nI wc))))) (some wn) (nI wc) = some (some m) := by
    simp only [oar, c1', zi, if_true, cl, hN]
  have r2 : oai (oput σ ma (.inr (5, fm.set 9 (.int (nI wc))))) (some ws) .int (nI wc) = some (nI a) := by
    rw [oai_at c2' zi, cl, hS]
  obtain ⟨σ1, σ2, ha1, hl1, hp1, A1, A2, A3, A4, A7, A8, A9⟩ := h_push (κ := κ) (T := T) (n := n) (x := x) (a := a) M1 hk hne hml hhl K1.2.1
  have K2 := K1.gr A7 A8 A9
  have le := A7.le.2
  have n2 : σ2.1 m = some (.inr (7, fs)) := K2.at hfr ⟨fm, m1⟩ ⟨_, _, m5⟩ hn (fun _ w => by cases w) (fun _ _ w => by cases w) (fun w => w)
  have e13 : ovr (ofd σ2 (some m) 7 13) = some (some y) := by rw [ofd_at n2, h13]; rfl
  rw [oE_X3_resume]
  unfold ob_X3_resume
  rw [e9, obn_at, es, opf_at m1 (by rw [m2]; decide), obn_at, g 6 (by decide), w1, ovr_rf, obn_at, g9, obn_at, r1, obn_at, if_neg (show ¬ some m = none from fun e => by cases e), g 15 (by decide), h15, ovl_lg, obn_at, g 7 (by decide), w2, ovr_rf, obn_at, obn_at, r2, obn_at, oob_at M1.1.1, obn_at, A1, oin_at, A2, obn_at, e13, obn_at]
  refine ⟨σ2, ha1, hl1, hp1, _, rfl, A3, ((((hFx.rf [4, 5, 9, 10] fm).st (by decide)).st (by decide)).st (by decide)).st (by decide), ⟨?_, ?_⟩, A4, K2, le⟩
  · rw [List.getElem?_set_ne (by decide), List.getElem?_set_ne (by decide), List.getElem?_set_ne (by decide), List.getElem?_set_self (by rw [m2]; decide)]
  · rw [List.getElem?_set_self (by simp only [List.length_set]; rw [m2]; decide)]
end HRL
