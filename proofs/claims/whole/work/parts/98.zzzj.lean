/-! compile() of both where the grammar is broken -/
section LGR
variable {κ : oKv} {ks : Nat → Nat} {qs : List Nat} {T n n' x y sz len : Nat} {a : Nat → Int32} {σ : oSt} {τ : zSt}
set_option maxHeartbeats 2000000 in
/-- compile() of the class up to its words, none of them wrong -/
theorem lr_pre (hf : lFacts κ ks sz) (hκ : κ.2.2.1 < sz) (hR : oRm sz σ) (hT : 2010 ≤ T) (h : lRel x σ τ) (h3 : τ.1 3 = nI len) (hlen : len ≤ 2000) {R : wRes} (eR : wLex T len (fun j => (rT τ len).2.2.1 1 j &&& 255) T 0 (fun _ => 0) (fun _ => 0) (fun _ => 0) 0 = R) (hok : R.2.2.2.2 = -1) : ∃ (U : oSt) (fs fm : List Value) (ma w r v ka pa ea : Nat) (fc : Nat → Int32), oF κ T (n + 10) 178 [va_rf (some x)] σ = cD (oF κ T (n + 9)) (some x) w U ∧ cWs κ sz len R.2.2.2.1 R.1 (upd R.2.1 R.2.2.2.1 (nI len)) (upd R.2.2.1 R.2.2.2.1 (nI len)) fc w r v ka pa ea U ∧ (∀ j, j < len → fc j = (rT τ len).2.2.1 1 j) ∧ (σ.1 x = some (.inr (14, fs)) ∧ σ.1 ma = some (.inr (5, fm)) ∧ fs.length = 13 ∧ fs[12]? = some (.ref ma) ∧ ma ≠ x ∧ 17 < fm.length) ∧ (U.1 x = some (.inr (14, ((((fs.set 1 (.int 0)).set 2 .null).set 3 .null).set 4 .null).set 5 (.int (-1)))) ∧ U.1 ma = some (.inr (5, (fm.set 0 .null).set 16 (.long 0))) ∧ (∀ p, p < σ.2.1 → p ≠ x → p ≠ ma → U.1 p = σ.1 p) ∧ σ.2.1 ≤ U.2.1) ∧ (U.2.2.1 ≤ σ.2.2.1 + 7 ∧ U.2.2.2 ≤ σ.2.2.2 + 13 + 5 * len) := by
  obtain ⟨hlow, hfr, hsz⟩ := hR
  obtain ⟨fs, fm, ta, oa, ma, No, ft, go, ⟨h1, hfl⟩, ⟨f0, f1, f5, f6, f8, f12⟩, ⟨t1, t2, t3, t4⟩, ⟨o1, o2, o3, o4, o5, o6⟩, ⟨m1, m2, m3, m4⟩⟩ := h
  have hxl := alt hfr h1
  have hml := alt hfr m1
  have hm17 : 17 < fm.length := by
    by_cases c : 17 < fm.length
    · exact c
    · rw [List.getElem?_eq_none (by omega)] at m3
      cases m3
  rw [h3] at f1
  have hC := c_compile (κ := κ) (T := T) (n := n + 9) hlen hT h1 f0 f1 t1 (hfr _ (Nat.le_refl _))
  generalize eσ : onew σ (.inl (.char, len, .inl (cCp ft (fun _ => 0) len 0))) len = σ1 at hC
  have n1 : σ1.2.1 = σ.2.1 + 1 := by rw [← eσ]; rfl
  have z1 : σ1.2.2 = (σ.2.2.1 + 1, σ.2.2.2 + len) := by rw [← eσ]; rfl
  have k1 : ∀ p, p ≠ σ.2.1 → σ1.1 p = σ.1 p := fun p hp => by rw [← eσ]; exact onew_ne hp
  have kc : σ1.1 σ.2.1 = some (.inl (.char, len, .inl (cCp ft (fun _ => 0) len 0))) := by rw [← eσ]; exact onew_eq _ _ _
  have hg : ∀ j, j < len → cCp ft (fun _ => 0) len 0 j = ft j &&& 255 := fun j hj => by
    unfold cCp
    rw [if_pos ⟨Nat.zero_le _, hj⟩]
  have hF : ∀ j, j < len → (rT τ len).2.2.1 1 j = (cCp ft (fun _ => 0) len 0 j).toInt8.toInt32 := fun j hj => by
    rw [hg j hj, and_8, t4 j (by rw [h3, nI_toInt (by omega)]; omega)]
    show sCp (τ.2.2.1 0) (τ.2.2.1 1) len 0 j = _
    unfold sCp
    rw [if_pos ⟨Nat.zero_le _, hj⟩]
  have hW := c_words (κ := κ) (T := T) (n := n) (x := x) (ma := ma) (fs := fs) (fm := fm) (F := (rT τ len).2.2.1 1) hf (fun p hp => (k1 p (by omega)).trans (hlow p hp)) (fun p hp => (k1 p (by omega)).trans (hfr p (by omega))) (by omega) ((k1 x (by omega)).trans h1) hfl f12 ((k1 ma (by omega)).trans m1) hm17 kc (fun j hj => by rw [hg j hj]; exact and_le _) hF hlen hT
  rw [hW, eR] at hC
  have nS := sNew_n (κ := κ) (σ := cN (cF σ1 x ma fs fm)) (r := σ1.2.1 + 1) (len := len) (g := cCp ft (fun _ => 0) len 0)
  have rS := sNew_r (κ := κ) (σ := cN (cF σ1 x ma fs fm)) (r := σ1.2.1 + 1) (len := len) (g := cCp ft (fun _ => 0) len 0)
  have nN : (cN (cF σ1 x ma fs fm)).2.1 = σ1.2.1 + 1 + 1 := rfl
  have zN : (cN (cF σ1 x ma fs fm)).2.2 = (σ1.2.2.1 + 1 + 1, σ1.2.2.2 + 6 + 4) := rfl
  have vS : len ≠ 0 → (sNew κ (cN (cF σ1 x ma fs fm)) (σ1.2.1 + 1) len (cCp ft (fun _ => 0) len 0)).1 (σ1.2.1 + 1 + 1) = some (.inl (.byte, len, .inl (sCp (cCp ft (fun _ => 0) len 0) (fun _ => 0) len 0))) := fun hl => by
    unfold sNew
    rw [if_neg hl, oput_ne (by omega), ← nN]
    exact onew_eq _ _ _
  have zS : (sNew κ (cN (cF σ1 x ma fs fm)) (σ1.2.1 + 1) len (cCp ft (fun _ => 0) len 0)).2.2.1 ≤ σ1.2.2.1 + 3 ∧ (sNew κ (cN (cF σ1 x ma fs fm)) (σ1.2.1 + 1) len (cCp ft (fun _ => 0) len 0)).2.2.2 ≤ σ1.2.2.2 + 10 + len := by
    unfold sNew
    split
    · show (cN (cF σ1 x ma fs fm)).2.2.1 ≤ _ ∧ (cN (cF σ1 x ma fs fm)).2.2.2 ≤ _
      rw [zN]; exact ⟨by show σ1.2.2.1 + 1 + 1 ≤ _; omega, by show σ1.2.2.2 + 6 + 4 ≤ _; omega⟩
    · show (cN (cF σ1 x ma fs fm)).2.2.1 + 1 ≤ _ ∧ (cN (cF σ1 x ma fs fm)).2.2.2 + len ≤ _
      rw [zN]; exact ⟨by show σ1.2.2.1 + 1 + 1 + 1 ≤ _; omega, by show σ1.2.2.2 + 6 + 4 + len ≤ _; omega⟩
  generalize eS : sNew κ (cN (cF σ1 x ma fs fm)) (σ1.2.1 + 1) len (cCp ft (fun _ => 0) len 0) = S at hC nS rS vS zS
  have nS2 : σ1.2.1 + 2 ≤ S.2.1 := by rw [nS, nN]; split <;> omega
  have oS : ∀ p, p ≠ σ1.2.1 → p ≠ σ1.2.1 + 1 → p ≠ σ1.2.1 + 1 + 1 → S.1 p = (cF σ1 x ma fs fm).1 p := fun p h1 h2 h3 => by
    rw [← eS, sNew_o h2 (by rw [nN]; exact h3)]
    exact (onew_ne h2).trans (onew_ne h1)
  have oS2 : ∀ p, S.2.1 ≤ p → S.1 p = none := fun p hp => by
    have hp2 : p ≠ (cN (cF σ1 x ma fs fm)).2.1 ∨ len = 0 := by
      rw [nN]
      rw [nS, nN] at hp
      by_cases c : len = 0
      · exact Or.inr c
      · rw [if_neg c] at hp
        exact Or.inl (by omega)
    have e0 : S.1 p = (cN (cF σ1 x ma fs fm)).1 p := by
      rw [← eS]
      rcases hp2 with hp2 | hp2
      · exact sNew_o (by omega) hp2
      · unfold sNew
        rw [if_pos hp2]
        exact oput_ne (by omega)
    rw [e0]
    have e1 : (cN (cF σ1 x ma fs fm)).1 p = (cF σ1 x ma fs fm).1 p := (onew_ne (show p ≠ σ1.2.1 + 1 by omega)).trans (onew_ne (show p ≠ σ1.2.1 by omega))
    have e2 : (cF σ1 x ma fs fm).1 p = σ1.1 p := (oput_ne (by omega)).trans (oput_ne (by omega))
    rw [e1, e2, k1 p (by omega)]
    exact hfr p (by omega)
  generalize eU : wFin (w3 S (len + 1)) σ1.2.1 S.2.1 (S.2.1 + 1) (S.2.1 + 1 + 1) (σ1.2.1 + 1) len R = U at hC
  have oU : ∀ p, p ≠ σ1.2.1 → p ≠ S.2.1 → p ≠ S.2.1 + 1 → p ≠ S.2.1 + 1 + 1 → U.1 p = S.1 p := fun p a1 a2 a3 a4 => by
    rw [← eU]
    exact wSt_o a1 a2 a3 a4
  have nU : U.2.1 = S.2.1 + 1 + 1 + 1 := by rw [← eU]; rfl
  have zU : U.2.2 = (S.2.2.1 + 1 + 1 + 1, S.2.2.2 + (len + 1) + (len + 1) + (len + 1)) := by rw [← eU]; rfl
  have wU : U.1 σ1.2.1 = some (.inr (13, [.ref (σ1.2.1 + 1), .ref S.2.1, .ref (S.2.1 + 1), .ref (S.2.1 + 1 + 1), .int (nI R.2.2.2.1), .int R.2.2.2.2])) := by
    rw [← eU]
    exact wSt_w
  rw [hok] at wU
  have hap : wAp σ1.2.1 S.2.1 (S.2.1 + 1) (S.2.1 + 1 + 1) (σ1.2.1 + 1) (σ1.2.1 + 1) := ⟨by omega, by omega, by omega, by omega, by omega, by omega, by omega, by omega, by omega, by omega, by omega, by omega, by omega, by omega⟩
  have kU : U.1 S.2.1 = some (.inl (.int, len + 1, .inl R.1)) := by rw [← eU]; exact wSt_k hap
  have pU : U.1 (S.2.1 + 1) = some (.inl (.int, len + 1, .inl (upd R.2.1 R.2.2.2.1 (nI len)))) := by rw [← eU]; exact wSt_p hap
  have eeU : U.1 (S.2.1 + 1 + 1) = some (.inl (.int, len + 1, .inl (upd R.2.2.1 R.2.2.2.1 (nI len)))) := by rw [← eU]; exact wSt_e hap
  have lowU : ∀ p, p < σ.2.1 → U.1 p = (cF σ1 x ma fs fm).1 p := fun p hp => (oU p (by omega) (by omega) (by omega) (by omega)).trans (oS p (by omega) (by omega) (by omega))
  have xU : U.1 x = some (.inr (14, ((((fs.set 1 (.int 0)).set 2 .null).set 3 .null).set 4 .null).set 5 (.int (-1)))) := (lowU x hxl).trans ((oput_ne (Ne.symm m4)).trans (oput_eq _ _ _))
  have mU : U.1 ma = some (.inr (5, (fm.set 0 .null).set 16 (.long 0))) := (lowU ma hml).trans (oput_eq _ _ _)
  have rU : ∀ p, p < σ.2.1 → p ≠ x → p ≠ ma → U.1 p = σ.1 p := fun p hp a1 a2 => (lowU p hp).trans (((oput_ne a2).trans (oput_ne a1)).trans (k1 p (by omega)))
  have mz : sz ≤ ma := by
    by_cases c : ma < sz
    · rw [hlow ma c] at m1; cases m1
    · omega
  have xz : sz ≤ x := by
    by_cases c : x < sz
    · rw [hlow x c] at h1; cases h1
    · omega
  obtain ⟨L1, L2, L3, L4⟩ := lex_facts hT hlen eR
  have hfc : ∀ j, j < len → sCp (cCp ft (fun _ => 0) len 0) (fun _ => 0) len 0 j = (rT τ len).2.2.1 1 j := fun j hj => by
    unfold sCp
    rw [if_pos ⟨Nat.zero_le _, hj⟩]
    exact (hF j hj).symm
  have rU' : U.1 (σ1.2.1 + 1) = some (.inr (0, [.ref (if len = 0 then κ.2.1 0 else (cN (cF σ1 x ma fs fm)).2.1), .int 0, .int 0, .int 0])) := (oU _ (by omega) (by omega) (by omega) (by omega)).trans rS
  have TZ : cTz U (σ1.2.1 + 1) (if len = 0 then σ1.2.1 + 1 else σ1.2.1 + 1 + 1) len (sCp (cCp ft (fun _ => 0) len 0) (fun _ => 0) len 0) := by
    by_cases c : len = 0
    · rw [if_pos c]; exact Or.inr ⟨c, rfl, _, rU'⟩
    · rw [if_neg c]
      have nS3 : S.2.1 = σ1.2.1 + 1 + 1 + 1 := by rw [nS, nN, if_neg c]
      refine Or.inl ⟨?_, ?_, fun j hj => ?_, by omega⟩
      · rw [rU', if_neg c, nN]
      · rw [oU _ (by omega) (by omega) (by omega) (by omega)]; exact vS c
      · rw [hfc j hj]; exact rT_sB j hj
  have c1 : U.2.2.1 = S.2.2.1 + 1 + 1 + 1 := by rw [zU]
  have c2 : U.2.2.2 = S.2.2.2 + (len + 1) + (len + 1) + (len + 1) := by rw [zU]
  have c3 : σ1.2.2.1 = σ.2.2.1 + 1 := by rw [z1]
  have c4 : σ1.2.2.2 = σ.2.2.2 + len := by rw [z1]
  refine ⟨U, fs, fm, ma, σ1.2.1, σ1.2.1 + 1, (if len = 0 then σ1.2.1 + 1 else σ1.2.1 + 1 + 1), S.2.1, S.2.1 + 1, S.2.1 + 1 + 1, _, hC, ⟨⟨fun p hp => ?_, fun p hp => ?_, by omega, hκ⟩, ⟨wU, TZ, kU, pU, eeU⟩, ⟨L1, hlen⟩, L2, L3, L4⟩, hfc, ⟨h1, m1, hfl, f12, m4, hm17⟩, ⟨xU, mU, rU, by omega⟩, ⟨by omega, by omega⟩⟩
  · rw [oU p (by omega) (by omega) (by omega) (by omega)]; exact oS2 p (by omega)
  · rw [rU p (by omega) (by omega) (by omega)]; exact hlow p hp
set_option maxHeartbeats 1000000 in
/-- behind a fault of compile(): both stand alike -/
theorem lr_flt {V : oSt} {v : zSt} {fs fm : List Value} {ma : Nat} {pl : Int32} (hR : oRm sz σ) (h : lRel x σ τ) (h1 : σ.1 x = some (.inr (14, fs)) ∧ σ.1 ma = some (.inr (5, fm)) ∧ fs.length = 13 ∧ fs[12]? = some (.ref ma) ∧ ma ≠ x ∧ 17 < fm.length) (hx : V.1 x = some (.inr (14, ((((fs.set 1 (.int 0)).set 2 .null).set 3 .null).set 4 .null).set 5 (.int (-1))))) (hma : V.1 ma = some (.inr (5, (fm.set 0 .null).set 16 (.long 0)))) (hk : ∀ p, p < σ.2.1 → p ≠ x → p ≠ ma → V.1 p = σ.1 p) (hfr : ∀ q, V.2.1 ≤ q → V.1 q = none) (hn : σ.2.1 ≤ V.2.1) (hv : v.1 3 = 0 ∧ v.1 5 = τ.1 5 ∧ v.1 163 = 0 ∧ v.1 165 = τ.1 165 ∧ v.1 69 = pl) (hv2 : ∀ j, v.2.2.1 2 j = τ.2.2.1 2 j) : lRel x (oput V x (.inr (14, (((((fs.set 1 (.int 0)).set 2 .null).set 3 .null).set 4 .null).set 5 (.int (-1))).set 5 (.int pl)))) v ∧ oRm sz (oput V x (.inr (14, (((((fs.set 1 (.int 0)).set 2 .null).set 3 .null).set 4 .null).set 5 (.int (-1))).set 5 (.int pl)))) := by
  obtain ⟨hlow, hfr0, hsz⟩ := hR
  obtain ⟨fs', fm', ta, oa, ma', No, ft, go, ⟨g1, hfl⟩, ⟨f0, f1, f5, f6, f8, f12⟩, ⟨t1, t2, t3, t4⟩, ⟨o1, o2, o3, o4, o5, o6⟩, ⟨m1, m2, m3, m4⟩⟩ := h
  obtain ⟨h1a, h1b, h1c, h1d, h1e, h1f⟩ := h1
  rw [h1a] at g1
  injection g1 with g1; injection g1 with g1; injection g1 with _ g1
  subst g1
  rw [h1d] at f12
  injection f12 with f12; injection f12 with f12
  subst f12
  rw [h1b] at m1
  injection m1 with m1; injection m1 with m1; injection m1 with _ m1
  subst m1
  have hxl := alt hfr0 h1a
  have htl := alt hfr0 t1
  have hol := alt hfr0 o1
  have hml := alt hfr0 h1b
  have hxt : ta ≠ x := fun e => by rw [e, h1a] at t1; cases t1
  have hxo : oa ≠ x := fun e => by rw [e, h1a] at o1; cases o1
  have hmt : ta ≠ ma := fun e => by rw [e, h1b] at t1; cases t1
  have hmo : oa ≠ ma := fun e => by rw [e, h1b] at o1; cases o1
  obtain ⟨v3, v5, v163, v165, v69⟩ := hv
  refine ⟨⟨_, _, ta, oa, ma, No, ft, go, ⟨oput_eq _ _ _, by simp only [List.length_set]; exact hfl⟩, ⟨?_, ?_, ?_, ?_, ?_, ?_⟩, ⟨?_, ?_, ?_, ?_⟩, ⟨?_, ?_, ?_, o4, ?_, o6⟩, ⟨(oput_ne m4).trans hma, ?_, ?_, m4⟩⟩, ?_⟩
  · simpa [List.getElem?_set] using f0
  · rw [v3]; simp [List.getElem?_set, hfl]
  · rw [v69]; simp [List.getElem?_set, hfl]
  · simpa [List.getElem?_set] using f6
  · rw [v5]; simpa [List.getElem?_set] using f8
  · simpa [List.getElem?_set] using h1d
  · exact (oput_ne hxt).trans ((hk ta htl hxt hmt).trans t1)
  · rw [v3]; decide
  · rw [v3]; decide
  · intro j hj
    rw [v3] at hj
    have : (j : Int) < (0 : Int32).toInt := hj
    exact absurd this (by rw [show (0 : Int32).toInt = 0 from rfl]; omega)
  · exact (oput_ne hxo).trans ((hk oa hol hxo hmo).trans o1)
  · rw [v5]; exact o2
  · rw [v5]; exact o3
  · intro j hj
    rw [v5] at hj
    rw [hv2]; exact o5 j hj
  · rw [v163, if_neg (by decide)]
    rw [List.getElem?_set_self (by simp only [List.length_set]; omega)]
  · rw [v165, List.getElem?_set_ne (by decide), List.getElem?_set_ne (by decide)]
    exact m3
  · have mz : sz ≤ ma := by
      by_cases c : ma < sz
      · rw [hlow ma c] at h1b; cases h1b
      · omega
    have xz : sz ≤ x := by
      by_cases c : x < sz
      · rw [hlow x c] at h1a; cases h1a
      · omega
    refine ⟨fun p hp => ?_, fun p hp => ?_, ?_⟩
    · rw [oput_ne (by omega), hk p (by omega) (by omega) (by omega)]
      exact hlow p hp
    · have hp' : V.2.1 ≤ p := hp
      rw [oput_ne (by omega)]
      exact hfr p hp'
    · show sz ≤ V.2.1
      omega
/-- **compile() where the grammar is broken: both answer 2, at the same place** -/
theorem lr_gram (hf : lFacts κ ks sz) (hκ : κ.2.2.1 < sz) (hR : oRm sz σ) (hT : 2010 ≤ T) (h : lRel x σ τ) (h45 : τ.1 45 = 0) (h3 : τ.1 3 = nI len) (hlen : len ≤ 2000) {R : wRes} (eR : wLex T len (fun j => (rT τ len).2.2.1 1 j &&& 255) T 0 (fun _ => 0) (fun _ => 0) (fun _ => 0) 0 = R) (hok : R.2.2.2.2 = -1) {j : Nat} (hP : aPr R.1 T R.2.2.2.1 = .inl j) : ∃ (u : oSt) (v : zSt), lst (oF κ T (n + 241)) (zF y qs ks T (n' + 135)) x y a σ τ 2 = some (u, v) ∧ lRel x u v ∧ oRm sz u ∧ v.1 45 = 0 ∧ (u.2.2.1 ≤ σ.2.2.1 + 69 + 30 * len ∧ u.2.2.2 ≤ σ.2.2.2 + 635 + 261 * len) := by
  obtain ⟨U, fs, fm, ma, w, r, v, ka, pa, ea, fc, hC, hW, hfc, hx1, ⟨xU, mU, rU, nU⟩, ⟨c1, c2⟩⟩ := lr_pre (n := n + 231) hf hκ hR hT h h3 hlen eR hok
  obtain ⟨V, b1, b2, b3, b4, ⟨b5, b6⟩⟩ := c_gram (κ := κ) (T := T) (m := n + 231 + 9) (x := x) hW xU (by simp only [List.length_set]; omega) hP (by omega) hT
  rw [b1] at hC
  obtain ⟨τ', d1, ⟨⟨d2, d3, d4, d5, d6, d7, d8⟩, d9, d10, d11⟩, d12, -⟩ := r_pre (h0 := y) (qs := qs) (n := n') hf hT h3 hlen h45 eR hok
  obtain ⟨e1, e2, e3⟩ := d12 j hP
  rw [r_gram e1 e2] at d1
  have hc := (lex_facts hT hlen eR).1
  have hxl : x < U.2.1 := alt hW.1.1 xU
  have hml : ma < U.2.1 := alt hW.1.1 mU
  obtain ⟨r1, r2⟩ := lr_flt (v := zI τ' 69 (upd R.2.1 R.2.2.2.1 (nI len) j)) (pl := upd R.2.1 R.2.2.2.1 (nI len) j) hR h hx1 ((b2 x hxl).trans xU) ((b2 ma hml).trans mU) (fun p hp a1 a2 => (b2 p (by omega)).trans (rU p hp a1 a2)) b3 (by omega) ⟨by rw [zIn _ _ (by decide)]; exact d2, by rw [zIn _ _ (by decide)]; exact d3, by rw [zIn _ _ (by decide)]; exact d4, by rw [zIn _ _ (by decide)]; exact d5, zIe _ _ _⟩ (fun j => d10 j)
  refine ⟨_, _, lcpI_ok (r := 2) hC d1, r1, r2, by rw [zIn _ _ (by decide)]; exact e3, ?_, ?_⟩
  · show V.2.2.1 ≤ _
    have := Nat.mul_le_mul_left 30 hc
    omega
  · show V.2.2.2 ≤ _
    have := Nat.mul_le_mul_left 346 hc
    omega
end LGR
