/-! a letter that begins no word: both say 1, at the same place -/
theorem wLex_bad (T len : Nat) (g : Nat → Int32) : ∀ (m i : Nat) (kk pp ee : Nat → Int32) (cnt : Nat), (wLex T len g m i kk pp ee cnt).2.2.2.2 = -1 ∨ ∃ q, q < len ∧ (wLex T len g m i kk pp ee cnt).2.2.2.2 = nI q
  | 0, i, kk, pp, ee, cnt => Or.inl (by rw [wLex])
  | m + 1, i, kk, pp, ee, cnt => by
    rw [wLex]
    split
    next h =>
      split
      · exact wLex_bad T len g m _ _ _ _ _
      · split
        · exact wLex_bad T len g m _ _ _ _ _
        · split
          · exact Or.inr ⟨i, h, rfl⟩
          · exact wLex_bad T len g m _ _ _ _ _
    next => exact Or.inl rfl
section OBD
variable {κ : oKv} {ks : Nat → Nat} {qs : List Nat} {T n n' len sz : Nat} {σ : oSt} {τ : zSt} {x y ma : Nat} {fs fm : List Value} {a : Nat → Int32}
theorem c_bad {w q : Nat} {s : oSt} {ws : List Value} (hw : s.1 w = some (.inr (13, ws))) (h5 : ws[5]? = some (.int (nI q))) (hq : q < 2 ^ 31) (hx : s.1 x = some (.inr (14, fs))) (hl : 5 < fs.length) : cD (oF κ T (n + 1)) (some x) w s = some (some (.int 1), oput s x (.inr (14, fs.set 5 (.int (nI q))))) := by
  unfold cD
  rw [ofd_at hw, h5]
  simp only [ovi, obn]
  rw [if_neg (nI_pos hq)]
  simp only [oob_at hx]
  have hfa : oF κ T (n + 1) 177 [va_rf (some x), .int 1, .int (nI q)] s = some (some (.int 1), oput s x (.inr (14, fs.set 5 (.int (nI q))))) := by
    rw [oE_X12_fault]
    unfold ob_X12_fault
    rw [opf_at hx hl]
    simp only [obn]
  simp only [va_rf] at hfa ⊢
  rw [hfa]
  simp only [oin]
theorem and_8 (b : Int32) : (b &&& 255).toInt8 = b.toInt8 := by
  rw [Int32.toInt8_and]
  exact Int8.and_neg_one
theorem and_le (b : Int32) : b &&& 255 ≤ 255 := by
  obtain ⟨k, hk, ek⟩ := pk_andE b (m := 255) 8 (by decide)
  rw [ek]
  exact nI_le (b := 255) (by omega) (by decide)
/-- no cell of the class below sz, none from the next address on -/
def oRm (sz : Nat) (σ : oSt) : Prop := (∀ a, a < sz → σ.1 a = none) ∧ (∀ a, σ.2.1 ≤ a → σ.1 a = none) ∧ sz ≤ σ.2.1
set_option maxHeartbeats 2000000 in
theorem lr_bad (hf : lFacts κ ks sz) (hR : oRm sz σ) (hT : 2010 ≤ T) (h : lRel x σ τ) (h3 : τ.1 3 = nI len) (hlen : len ≤ 2000) (hbad : (wLex T len (fun j => (rT τ len).2.2.1 1 j &&& 255) T 0 (fun _ => 0) (fun _ => 0) (fun _ => 0) 0).2.2.2.2 ≠ -1) : ∃ (u : oSt) (v : zSt), lst (oF κ T (n + 10)) (zF y qs ks T (n' + 3)) x y a σ τ 2 = some (u, v) ∧ lRel x u v ∧ oRm sz u := by
  obtain ⟨hlow, hfr, hsz⟩ := hR
  obtain ⟨fs, fm, ta, oa, ma, No, ft, go, ⟨h1, hfl⟩, ⟨f0, f1, f5, f6, f8, f12⟩, ⟨t1, t2, t3, t4⟩, ⟨o1, o2, o3, o4, o5, o6⟩, ⟨m1, m2, m3, m4⟩⟩ := h
  have lt : ∀ q k, σ.1 q = some k → q < σ.2.1 := fun q k h => by
    by_cases c : q < σ.2.1
    · exact c
    · rw [hfr q (by omega)] at h
      cases h
  have hxl := lt _ _ h1
  have htl := lt _ _ t1
  have hol := lt _ _ o1
  have hml := lt _ _ m1
  have hxt : ta ≠ x := fun e => by rw [e, h1] at t1; cases t1
  have hxo : oa ≠ x := fun e => by rw [e, h1] at o1; cases o1
  have hmt : ta ≠ ma := fun e => by rw [e, m1] at t1; cases t1
  have hmo : oa ≠ ma := fun e => by rw [e, m1] at o1; cases o1
  have hm17 : 17 < fm.length := by
    by_cases c : 17 < fm.length
    · exact c
    · rw [List.getElem?_eq_none (by omega)] at m3
      cases m3
  rw [h3] at f1
  obtain ⟨q, hq, eq⟩ : ∃ q, q < len ∧ (wLex T len (fun j => (rT τ len).2.2.1 1 j &&& 255) T 0 (fun _ => 0) (fun _ => 0) (fun _ => 0) 0).2.2.2.2 = nI q := (wLex_bad T len _ T 0 _ _ _ 0).resolve_left hbad
  have hC := c_compile (κ := κ) (T := T) (n := n + 9) hlen hT h1 f0 f1 t1 (hfr _ (Nat.le_refl _))
  generalize eσ : onew σ (.inl (.char, len, .inl (cCp ft (fun _ => 0) len 0))) len = σ1 at hC
  have n1 : σ1.2.1 = σ.2.1 + 1 := by rw [← eσ]; rfl
  have k1 : ∀ p, p ≠ σ.2.1 → σ1.1 p = σ.1 p := fun p hp => by rw [← eσ]; exact onew_ne hp
  have kc : σ1.1 σ.2.1 = some (.inl (.char, len, .inl (cCp ft (fun _ => 0) len 0))) := by rw [← eσ]; exact onew_eq _ _ _
  have hg : ∀ j, j < len → cCp ft (fun _ => 0) len 0 j = ft j &&& 255 := fun j hj => by
    unfold cCp
    rw [if_pos ⟨Nat.zero_le _, hj⟩]
  have hW := c_words (κ := κ) (T := T) (n := n) (x := x) (ma := ma) (fs := fs) (fm := fm) (F := (rT τ len).2.2.1 1) hf (fun p hp => (k1 p (by omega)).trans (hlow p hp)) (fun p hp => (k1 p (by omega)).trans (hfr p (by omega))) (by omega) ((k1 x (by omega)).trans h1) hfl f12 ((k1 ma (by omega)).trans m1) hm17 kc (fun j hj => by rw [hg j hj]; exact and_le _) (fun j hj => by
    rw [hg j hj, and_8, t4 j (by rw [h3, nI_toInt (by omega)]; omega)]
    show sCp (τ.2.2.1 0) (τ.2.2.1 1) len 0 j = _
    unfold sCp
    rw [if_pos ⟨Nat.zero_le _, hj⟩]) hlen hT
  rw [hW] at hC
  generalize eR : wLex T len (fun j => (rT τ len).2.2.1 1 j &&& 255) T 0 (fun _ => 0) (fun _ => 0) (fun _ => 0) 0 = R at hC eq hbad
  have nS := sNew_n (κ := κ) (σ := cN (cF σ1 x ma fs fm)) (r := σ1.2.1 + 1) (len := len) (g := cCp ft (fun _ => 0) len 0)
  have nN : (cN (cF σ1 x ma fs fm)).2.1 = σ1.2.1 + 1 + 1 := rfl
  generalize eS : sNew κ (cN (cF σ1 x ma fs fm)) (σ1.2.1 + 1) len (cCp ft (fun _ => 0) len 0) = S at hC nS
  have nS2 : σ1.2.1 + 2 ≤ S.2.1 := by rw [nS, nN]; split <;> omega
  have oS : ∀ p, p ≠ σ1.2.1 → p ≠ σ1.2.1 + 1 → p ≠ σ1.2.1 + 1 + 1 → S.1 p = (cF σ1 x ma fs fm).1 p := fun p h1 h2 h3 => by
    rw [← eS, sNew_o h2 (by rw [nN]; exact h3)]
    exact (onew_ne h2).trans (onew_ne h1)
  have oS2 : ∀ p, S.2.1 ≤ p → S.1 p = none := fun p hp => by
    have hp2 : p ≠ (cN (cF σ1 x ma fs fm)).2.1 ∨ len = 0 := by
      rw [nN]
      rw [nS, nN] at hp
      by_cases c : len = 0
      · exact Or.inr c
      · rw [if_neg c] at hp
        exact Or.inl (by omega)
    have e0 : S.1 p = (cN (cF σ1 x ma fs fm)).1 p := by
      rw [← eS]
      rcases hp2 with hp2 | hp2
      · exact sNew_o (by omega) hp2
      · unfold sNew
        rw [if_pos hp2]
        exact oput_ne (by omega)
    rw [e0]
    have e1 : (cN (cF σ1 x ma fs fm)).1 p = (cF σ1 x ma fs fm).1 p := (onew_ne (show p ≠ σ1.2.1 + 1 by omega)).trans (onew_ne (show p ≠ σ1.2.1 by omega))
    have e2 : (cF σ1 x ma fs fm).1 p = σ1.1 p := (oput_ne (by omega)).trans (oput_ne (by omega))
    rw [e1, e2, k1 p (by omega)]
    exact hfr p (by omega)
  -- the class's state behind it
  generalize eU : wFin (w3 S (len + 1)) σ1.2.1 S.2.1 (S.2.1 + 1) (S.2.1 + 1 + 1) (σ1.2.1 + 1) len R = U at hC
  have oU : ∀ p, p ≠ σ1.2.1 → p ≠ S.2.1 → p ≠ S.2.1 + 1 → p ≠ S.2.1 + 1 + 1 → U.1 p = S.1 p := fun p a1 a2 a3 a4 => by
    rw [← eU]
    exact wSt_o a1 a2 a3 a4
  have nU : U.2.1 = S.2.1 + 1 + 1 + 1 := by rw [← eU]; rfl
  have wU : U.1 σ1.2.1 = some (.inr (13, [.ref (σ1.2.1 + 1), .ref S.2.1, .ref (S.2.1 + 1), .ref (S.2.1 + 1 + 1), .int (nI R.2.2.2.1), .int R.2.2.2.2])) := by
    rw [← eU]
    exact wSt_w
  have lowU : ∀ p, p < σ.2.1 → U.1 p = (cF σ1 x ma fs fm).1 p := fun p hp => (oU p (by omega) (by omega) (by omega) (by omega)).trans (oS p (by omega) (by omega) (by omega))
  have xU : U.1 x = some (.inr (14, ((((fs.set 1 (.int 0)).set 2 .null).set 3 .null).set 4 .null).set 5 (.int (-1)))) := (lowU x hxl).trans ((oput_ne (Ne.symm m4)).trans (oput_eq _ _ _))
  have mU : U.1 ma = some (.inr (5, (fm.set 0 .null).set 16 (.long 0))) := (lowU ma hml).trans (oput_eq _ _ _)
  have rU : ∀ p, p < σ.2.1 → p ≠ x → p ≠ ma → U.1 p = σ.1 p := fun p hp a1 a2 => (lowU p hp).trans (((oput_ne a2).trans (oput_ne a1)).trans (k1 p (by omega)))
  have hB := c_bad (κ := κ) (T := T) (n := n + 8) (x := x) (w := σ1.2.1) (q := q) (s := U) wU (by rw [← eq]; rfl) (by omega) xU (by simp only [List.length_set]; omega)
  rw [hB] at hC
  -- the reference's
  obtain ⟨σr, hZ, hfin⟩ := r_bad (h0 := y) (qs := qs) (ks := ks) (n := n') (kk := fun _ => 0) (pp := fun _ => 0) (ee := fun _ => 0) h3 hlen hT (by rw [eR]; exact hbad)
  rw [eR] at hZ hfin
  obtain ⟨K, P, E, c, rfl, -⟩ := hfin
  refine ⟨_, _, lcpI_ok (r := 1) hC hZ, ?_, ?_⟩
  · refine ⟨_, _, ta, oa, ma, No, ft, go, ⟨oput_eq _ _ _, by simp only [List.length_set]; exact hfl⟩, ⟨?_, ?_, ?_, ?_, ?_, ?_⟩, ⟨?_, ?_, ?_, ?_⟩, ⟨?_, o2, o3, o4, o5, o6⟩, ⟨(oput_ne m4).trans mU, ?_, ?_, m4⟩⟩
    · simpa [List.getElem?_set] using f0
    · show _ = some (Value.int 0)
      simp [List.getElem?_set, hfl]
    · show _ = some (Value.int R.2.2.2.2)
      rw [eq]
      simp [List.getElem?_set, hfl]
    · simpa [List.getElem?_set] using f6
    · show _ = some (Value.int (τ.1 5))
      simpa [List.getElem?_set] using f8
    · simpa [List.getElem?_set] using f12
    · exact (oput_ne hxt).trans ((rU ta htl hxt hmt).trans t1)
    · show 0 ≤ (0 : Int32).toInt
      decide
    · show (0 : Int32).toInt ≤ 2000
      decide
    · intro j hj
      have : (j : Int) < (0 : Int32).toInt := hj
      exact absurd this (by rw [show (0 : Int32).toInt = 0 from rfl]; omega)
    · exact (oput_ne hxo).trans ((rU oa hol hxo hmo).trans o1)
    · show _ = some (Value.long (if (0 : Int32) = 1 then _ else 0))
      rw [if_neg (by decide)]
      rw [List.getElem?_set_self (by simp only [List.length_set]; omega)]
    · show _ = some (Value.int (τ.1 165))
      rw [List.getElem?_set_ne (by decide), List.getElem?_set_ne (by decide)]
      exact m3
  · have mz : sz ≤ ma := by
      by_cases c : ma < sz
      · rw [hlow ma c] at m1; cases m1
      · omega
    have xz : sz ≤ x := by
      by_cases c : x < sz
      · rw [hlow x c] at h1; cases h1
      · omega
    refine ⟨fun p hp => ?_, fun p hp => ?_, ?_⟩
    · rw [oput_ne (by omega), rU p (by omega) (by omega) (by omega)]
      exact hlow p hp
    · have hp' : U.2.1 ≤ p := hp
      rw [nU] at hp'
      rw [oput_ne (by omega), oU p (by omega) (by omega) (by omega) (by omega)]
      exact oS2 p (by omega)
    · show sz ≤ U.2.1
      rw [nU]
      omega
end OBD
