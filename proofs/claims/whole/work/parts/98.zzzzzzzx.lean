/-! compile() of both where it finds a fault: all that it leaves -/
section LFX
variable {κ : oKv} {ks : Nat → Nat} {qs : List Nat} {T n n' x y sz len k0 : Nat} {a : Nat → Int32} {σ : oSt} {τ : zSt}
set_option maxHeartbeats 2000000 in
theorem lr_bad2 (hf : lFacts κ ks sz) (hR : oRm sz σ) (hT : 2010 ≤ T) (h : lRel x σ τ) (h45 : τ.1 45 = 0) (h60 : τ.1 60 = nI k0) (h3 : τ.1 3 = nI len) (hlen : len ≤ 2000) (hbad : (wLex T len (fun j => (rT τ len).2.2.1 1 j &&& 255) T 0 (fun _ => 0) (fun _ => 0) (fun _ => 0) 0).2.2.2.2 ≠ -1) : ∃ (u : oSt) (v : zSt), lst (oF κ T (n + 10)) (zF y qs ks T (n' + 3)) x y a σ τ 2 = some (u, v) ∧ lRel x u v ∧ oRm sz u ∧ v.1 45 = 0 ∧ v.1 60 = nI k0 ∧ lNo x u v ∧ lKc x σ u ∧ (u.2.2.1 ≤ σ.2.2.1 + 7 ∧ u.2.2.2 ≤ σ.2.2.2 + 13 + 5 * len) := by
  obtain ⟨hlow, hfr, hsz⟩ := hR
  obtain ⟨fs, fm, ta, oa, ma, No, ft, go, ⟨h1, hfl⟩, ⟨f0, f1, f5, f6, f8, f12⟩, ⟨t1, t2, t3, t4⟩, ⟨o1, o2, o3, o4, o5, o6⟩, ⟨m1, m2, m3, m4⟩⟩ := h
  have lt : ∀ q k, σ.1 q = some k → q < σ.2.1 := fun q k h => by
    by_cases c : q < σ.2.1
    · exact c
    · rw [hfr q (by omega)] at h
      cases h
  have hxl := lt _ _ h1
  have htl := lt _ _ t1
  have hol := lt _ _ o1
  have hml := lt _ _ m1
  have hxt : ta ≠ x := fun e => by rw [e, h1] at t1; cases t1
  have hxo : oa ≠ x := fun e => by rw [e, h1] at o1; cases o1
  have hmt : ta ≠ ma := fun e => by rw [e, m1] at t1; cases t1
  have hmo : oa ≠ ma := fun e => by rw [e, m1] at o1; cases o1
  have hm17 : 17 < fm.length := by
    by_cases c : 17 < fm.length
    · exact c
    · rw [List.getElem?_eq_none (by omega)] at m3
      cases m3
  rw [h3] at f1
  obtain ⟨q, hq, eq⟩ : ∃ q, q < len ∧ (wLex T len (fun j => (rT τ len).2.2.1 1 j &&& 255) T 0 (fun _ => 0) (fun _ => 0) (fun _ => 0) 0).2.2.2.2 = nI q := (wLex_bad T len _ T 0 _ _ _ 0).resolve_left hbad
  have hC := c_compile (κ := κ) (T := T) (n := n + 9) hlen hT h1 f0 f1 t1 (hfr _ (Nat.le_refl _))
  generalize eσ : onew σ (.inl (.char, len, .inl (cCp ft (fun _ => 0) len 0))) len = σ1 at hC
  have n1 : σ1.2.1 = σ.2.1 + 1 := by rw [← eσ]; rfl
  have z1 : σ1.2.2 = (σ.2.2.1 + 1, σ.2.2.2 + len) := by rw [← eσ]; rfl
  have k1 : ∀ p, p ≠ σ.2.1 → σ1.1 p = σ.1 p := fun p hp => by rw [← eσ]; exact onew_ne hp
  have kc : σ1.1 σ.2.1 = some (.inl (.char, len, .inl (cCp ft (fun _ => 0) len 0))) := by rw [← eσ]; exact onew_eq _ _ _
  have hg : ∀ j, j < len → cCp ft (fun _ => 0) len 0 j = ft j &&& 255 := fun j hj => by
    unfold cCp
    rw [if_pos ⟨Nat.zero_le _, hj⟩]
  have hW := c_words (κ := κ) (T := T) (n := n) (x := x) (ma := ma) (fs := fs) (fm := fm) (F := (rT τ len).2.2.1 1) hf (fun p hp => (k1 p (by omega)).trans (hlow p hp)) (fun p hp => (k1 p (by omega)).trans (hfr p (by omega))) (by omega) ((k1 x (by omega)).trans h1) hfl f12 ((k1 ma (by omega)).trans m1) hm17 kc (fun j hj => by rw [hg j hj]; exact and_le _) (fun j hj => by
    rw [hg j hj, and_8, t4 j (by rw [h3, nI_toInt (by omega)]; omega)]
    show sCp (τ.2.2.1 0) (τ.2.2.1 1) len 0 j = _
    unfold sCp
    rw [if_pos ⟨Nat.zero_le _, hj⟩]) hlen hT
  rw [hW] at hC
  generalize eR : wLex T len (fun j => (rT τ len).2.2.1 1 j &&& 255) T 0 (fun _ => 0) (fun _ => 0) (fun _ => 0) 0 = R at hC eq hbad
  have nS := sNew_n (κ := κ) (σ := cN (cF σ1 x ma fs fm)) (r := σ1.2.1 + 1) (len := len) (g := cCp ft (fun _ => 0) len 0)
  have nN : (cN (cF σ1 x ma fs fm)).2.1 = σ1.2.1 + 1 + 1 := rfl
  have zN : (cN (cF σ1 x ma fs fm)).2.2 = (σ1.2.2.1 + 1 + 1, σ1.2.2.2 + 6 + 4) := rfl
  have zS : (sNew κ (cN (cF σ1 x ma fs fm)) (σ1.2.1 + 1) len (cCp ft (fun _ => 0) len 0)).2.2.1 ≤ σ1.2.2.1 + 3 ∧ (sNew κ (cN (cF σ1 x ma fs fm)) (σ1.2.1 + 1) len (cCp ft (fun _ => 0) len 0)).2.2.2 ≤ σ1.2.2.2 + 10 + len := by
    unfold sNew
    split
    · show (cN (cF σ1 x ma fs fm)).2.2.1 ≤ _ ∧ (cN (cF σ1 x ma fs fm)).2.2.2 ≤ _
      rw [zN]; exact ⟨by show σ1.2.2.1 + 1 + 1 ≤ _; omega, by show σ1.2.2.2 + 6 + 4 ≤ _; omega⟩
    · show (cN (cF σ1 x ma fs fm)).2.2.1 + 1 ≤ _ ∧ (cN (cF σ1 x ma fs fm)).2.2.2 + len ≤ _
      rw [zN]; exact ⟨by show σ1.2.2.1 + 1 + 1 + 1 ≤ _; omega, by show σ1.2.2.2 + 6 + 4 + len ≤ _; omega⟩
  generalize eS : sNew κ (cN (cF σ1 x ma fs fm)) (σ1.2.1 + 1) len (cCp ft (fun _ => 0) len 0) = S at hC nS zS
  have nS2 : σ1.2.1 + 2 ≤ S.2.1 := by rw [nS, nN]; split <;> omega
  have oS : ∀ p, p ≠ σ1.2.1 → p ≠ σ1.2.1 + 1 → p ≠ σ1.2.1 + 1 + 1 → S.1 p = (cF σ1 x ma fs fm).1 p := fun p h1 h2 h3 => by
    rw [← eS, sNew_o h2 (by rw [nN]; exact h3)]
    exact (onew_ne h2).trans (onew_ne h1)
  have oS2 : ∀ p, S.2.1 ≤ p → S.1 p = none := fun p hp => by
    have hp2 : p ≠ (cN (cF σ1 x ma fs fm)).2.1 ∨ len = 0 := by
      rw [nN]
      rw [nS, nN] at hp
      by_cases c : len = 0
      · exact Or.inr c
      · rw [if_neg c] at hp
        exact Or.inl (by omega)
    have e0 : S.1 p = (cN (cF σ1 x ma fs fm)).1 p := by
      rw [← eS]
      rcases hp2 with hp2 | hp2
      · exact sNew_o (by omega) hp2
      · unfold sNew
        rw [if_pos hp2]
        exact oput_ne (by omega)
    rw [e0]
    have e1 : (cN (cF σ1 x ma fs fm)).1 p = (cF σ1 x ma fs fm).1 p := (onew_ne (show p ≠ σ1.2.1 + 1 by omega)).trans (onew_ne (show p ≠ σ1.2.1 by omega))
    have e2 : (cF σ1 x ma fs fm).1 p = σ1.1 p := (oput_ne (by omega)).trans (oput_ne (by omega))
    rw [e1, e2, k1 p (by omega)]
    exact hfr p (by omega)
  -- the class's state behind it
  generalize eU : wFin (w3 S (len + 1)) σ1.2.1 S.2.1 (S.2.1 + 1) (S.2.1 + 1 + 1) (σ1.2.1 + 1) len R = U at hC
  have oU : ∀ p, p ≠ σ1.2.1 → p ≠ S.2.1 → p ≠ S.2.1 + 1 → p ≠ S.2.1 + 1 + 1 → U.1 p = S.1 p := fun p a1 a2 a3 a4 => by
    rw [← eU]
    exact wSt_o a1 a2 a3 a4
  have nU : U.2.1 = S.2.1 + 1 + 1 + 1 := by rw [← eU]; rfl
  have zU : U.2.2 = (S.2.2.1 + 1 + 1 + 1, S.2.2.2 + (len + 1) + (len + 1) + (len + 1)) := by rw [← eU]; rfl
  have wU : U.1 σ1.2.1 = some (.inr (13, [.ref (σ1.2.1 + 1), .ref S.2.1, .ref (S.2.1 + 1), .ref (S.2.1 + 1 + 1), .int (nI R.2.2.2.1), .int R.2.2.2.2])) := by
    rw [← eU]
    exact wSt_w
  have lowU : ∀ p, p < σ.2.1 → U.1 p = (cF σ1 x ma fs fm).1 p := fun p hp => (oU p (by omega) (by omega) (by omega) (by omega)).trans (oS p (by omega) (by omega) (by omega))
  have xU : U.1 x = some (.inr (14, ((((fs.set 1 (.int 0)).set 2 .null).set 3 .null).set 4 .null).set 5 (.int (-1)))) := (lowU x hxl).trans ((oput_ne (Ne.symm m4)).trans (oput_eq _ _ _))
  have mU : U.1 ma = some (.inr (5, (fm.set 0 .null).set 16 (.long 0))) := (lowU ma hml).trans (oput_eq _ _ _)
  have rU : ∀ p, p < σ.2.1 → p ≠ x → p ≠ ma → U.1 p = σ.1 p := fun p hp a1 a2 => (lowU p hp).trans (((oput_ne a2).trans (oput_ne a1)).trans (k1 p (by omega)))
  have hB := c_bad (κ := κ) (T := T) (n := n + 8) (x := x) (w := σ1.2.1) (q := q) (s := U) wU (by rw [← eq]; rfl) (by omega) xU (by simp only [List.length_set]; omega)
  rw [hB] at hC
  -- the reference's
  obtain ⟨σr, hZ, hfin⟩ := r_bad (h0 := y) (qs := qs) (ks := ks) (n := n') (kk := fun _ => 0) (pp := fun _ => 0) (ee := fun _ => 0) h3 hlen hT (by rw [eR]; exact hbad)
  rw [eR] at hZ hfin
  obtain ⟨K, P, E, c, rfl, -⟩ := hfin
  refine ⟨_, _, lcpI_ok (r := 1) hC hZ, ?_, ?_, h45, h60, lNo.of hfl rfl, lKc.of ⟨h1, m1, hfl, f12, m4, hm17⟩ mU (fun p hp a1 a2 _ _ => rU p hp a1 a2) (by rw [nU]; omega), ?_⟩
  · refine ⟨_, _, ta, oa, ma, No, ft, go, ⟨oput_eq _ _ _, by simp only [List.length_set]; exact hfl⟩, ⟨?_, ?_, ?_, ?_, ?_, ?_⟩, ⟨?_, ?_, ?_, ?_⟩, ⟨?_, o2, o3, o4, o5, o6⟩, ⟨(oput_ne m4).trans mU, ?_, ?_, m4⟩⟩
    · simpa [List.getElem?_set] using f0
    · show _ = some (Value.int 0)
      simp [List.getElem?_set, hfl]
    · show _ = some (Value.int R.2.2.2.2)
      rw [eq]
      simp [List.getElem?_set, hfl]
    · simpa [List.getElem?_set] using f6
    · show _ = some (Value.int (τ.1 5))
      simpa [List.getElem?_set] using f8
    · simpa [List.getElem?_set] using f12
    · exact (oput_ne hxt).trans ((rU ta htl hxt hmt).trans t1)
    · show 0 ≤ (0 : Int32).toInt
      decide
    · show (0 : Int32).toInt ≤ 2000
      decide
    · intro j hj
      have : (j : Int) < (0 : Int32).toInt := hj
      exact absurd this (by rw [show (0 : Int32).toInt = 0 from rfl]; omega)
    · exact (oput_ne hxo).trans ((rU oa hol hxo hmo).trans o1)
    · show _ = some (Value.long (if (0 : Int32) = 1 then _ else 0))
      rw [if_neg (by decide)]
      rw [List.getElem?_set_self (by simp only [List.length_set]; omega)]
    · show _ = some (Value.int (τ.1 165))
      rw [List.getElem?_set_ne (by decide), List.getElem?_set_ne (by decide)]
      exact m3
  · have mz : sz ≤ ma := by
      by_cases c : ma < sz
      · rw [hlow ma c] at m1; cases m1
      · omega
    have xz : sz ≤ x := by
      by_cases c : x < sz
      · rw [hlow x c] at h1; cases h1
      · omega
    refine ⟨fun p hp => ?_, fun p hp => ?_, ?_⟩
    · rw [oput_ne (by omega), rU p (by omega) (by omega) (by omega)]
      exact hlow p hp
    · have hp' : U.2.1 ≤ p := hp
      rw [nU] at hp'
      rw [oput_ne (by omega), oU p (by omega) (by omega) (by omega) (by omega)]
      exact oS2 p (by omega)
    · show sz ≤ U.2.1
      rw [nU]
      omega
  · have c1 : U.2.2.1 = S.2.2.1 + 1 + 1 + 1 := by rw [zU]
    have c2 : U.2.2.2 = S.2.2.2 + (len + 1) + (len + 1) + (len + 1) := by rw [zU]
    have c3 : σ1.2.2.1 = σ.2.2.1 + 1 := by rw [z1]
    have c4 : σ1.2.2.2 = σ.2.2.2 + len := by rw [z1]
    refine ⟨?_, ?_⟩
    · show U.2.2.1 ≤ _
      omega
    · show U.2.2.2 ≤ _
      omega
set_option maxHeartbeats 2000000 in
theorem lr_gram2 (hf : lFacts κ ks sz) (hκ : κ.2.2.1 < sz) (hR : oRm sz σ) (hT : 2010 ≤ T) (h : lRel x σ τ) (h45 : τ.1 45 = 0) (h60 : τ.1 60 = nI k0) (h3 : τ.1 3 = nI len) (hlen : len ≤ 2000) {R : wRes} (eR : wLex T len (fun j => (rT τ len).2.2.1 1 j &&& 255) T 0 (fun _ => 0) (fun _ => 0) (fun _ => 0) 0 = R) (hok : R.2.2.2.2 = -1) {j : Nat} (hP : aPr R.1 T R.2.2.2.1 = .inl j) : ∃ (u : oSt) (v : zSt), lst (oF κ T (n + 241)) (zF y qs ks T (n' + 135)) x y a σ τ 2 = some (u, v) ∧ lRel x u v ∧ oRm sz u ∧ v.1 45 = 0 ∧ v.1 60 = nI k0 ∧ lNo x u v ∧ lKc x σ u ∧ (u.2.2.1 ≤ σ.2.2.1 + 69 + 30 * len ∧ u.2.2.2 ≤ σ.2.2.2 + 635 + 261 * len) := by
  obtain ⟨U, fs, fm, ma, w, r, v, ka, pa, ea, fc, hC, hW, hfc, hx1, ⟨xU, mU, rU, nU⟩, ⟨c1, c2⟩⟩ := lr_pre (n := n + 231) hf hκ hR hT h h3 hlen eR hok
  obtain ⟨V, b1, b2, b3, b4, ⟨b5, b6⟩⟩ := c_gram (κ := κ) (T := T) (m := n + 231 + 9) (x := x) hW xU (by simp only [List.length_set]; omega) hP (by omega) hT
  rw [b1] at hC
  obtain ⟨τ', d1, ⟨⟨d2, d3, d4, d5, d6, d7, d8⟩, d60, d9, d10, d11⟩, d12, -⟩ := r_pre2 (h0 := y) (qs := qs) (n := n') hf hT h3 hlen h45 eR hok
  obtain ⟨e1, e2, e3⟩ := d12 j hP
  rw [r_gram e1 e2] at d1
  have hc := (lex_facts hT hlen eR).1
  have hxl : x < U.2.1 := alt hW.1.1 xU
  have hml : ma < U.2.1 := alt hW.1.1 mU
  obtain ⟨r1, r2⟩ := lr_flt (v := zI τ' 69 (upd R.2.1 R.2.2.2.1 (nI len) j)) (pl := upd R.2.1 R.2.2.2.1 (nI len) j) hR h hx1 ((b2 x hxl).trans xU) ((b2 ma hml).trans mU) (fun p hp a1 a2 => (b2 p (by omega)).trans (rU p hp a1 a2)) b3 (by omega) ⟨by rw [zIn _ _ (by decide)]; exact d2, by rw [zIn _ _ (by decide)]; exact d3, by rw [zIn _ _ (by decide)]; exact d4, by rw [zIn _ _ (by decide)]; exact d5, zIe _ _ _⟩ (fun j => d10 j)
  refine ⟨_, _, lcpI_ok (r := 2) hC d1, r1, r2, by rw [zIn _ _ (by decide)]; exact e3, by rw [zIn _ _ (by decide)]; exact d60.trans h60, lNo.of hx1.2.2.1 (by rw [zIn _ _ (by decide)]; exact d6), lKc.of hx1 ((b2 ma hml).trans mU) (fun p hp a1 a2 _ _ => (b2 p (by omega)).trans (rU p hp a1 a2)) (by omega), ?_, ?_⟩
  · show V.2.2.1 ≤ _
    have := Nat.mul_le_mul_left 30 hc
    omega
  · show V.2.2.2 ≤ _
    have := Nat.mul_le_mul_left 346 hc
    omega
set_option maxHeartbeats 2000000 in
theorem lr_names2 (hf : lFacts κ ks sz) (hκ : κ.2.2.1 < sz) (hR : oRm sz σ) (hT : 2110 ≤ T) (h : lRel x σ τ) (h45 : τ.1 45 = 0) (h60 : τ.1 60 = nI k0) (h3 : τ.1 3 = nI len) (hlen : len ≤ 2000) (hn : 1100 ≤ n') {R : wRes} (eR : wLex T len (fun j => (rT τ len).2.2.1 1 j &&& 255) T 0 (fun _ => 0) (fun _ => 0) (fun _ => 0) 0 = R) (hok : R.2.2.2.2 = -1) {xs : List tQ} {is : List (Nat × Nat)} {e : tT} {j w : Nat} (hP : aPr R.1 T R.2.2.2.1 = .inr ((xs, is, e), j)) (hN : (nT ((rT τ len).2.2.1 1) (upd R.2.1 R.2.2.2.1 (nI len)) (upd R.2.2.1 R.2.2.2.1 (nI len)) e (nIn ((rT τ len).2.2.1 1) (upd R.2.1 R.2.2.2.1 (nI len)) (upd R.2.2.1 R.2.2.2.1 (nI len)) is ([], [], none))).2.2 = some w) : ∃ (u : oSt) (v : zSt), lst (oF κ T (n + 241)) (zF y qs ks T (n' + 135)) x y a σ τ 2 = some (u, v) ∧ lRel x u v ∧ oRm sz u ∧ v.1 45 = 0 ∧ v.1 60 = nI k0 ∧ lNo x u v ∧ lKc x σ u ∧ (u.2.2.1 ≤ σ.2.2.1 + 69 + 30 * len ∧ u.2.2.2 ≤ σ.2.2.2 + 635 + 261 * len) := by
  obtain ⟨U, fs, fm, ma, w0, r, v, ka, pa, ea, fc, hC, hW, hfc, hx1, ⟨xU, mU, rU, nU⟩, ⟨c1, c2⟩⟩ := lr_pre (n := n + 231) hf hκ hR (by omega) h h3 hlen eR hok
  obtain ⟨τ', d1, ⟨⟨d2, d3, d4, d5, d6, d7, d8⟩, d60, d9, d10, d11⟩, -, d12⟩ := r_pre2 (h0 := y) (qs := qs) (n := n') hf (by omega) h3 hlen h45 eR hok
  obtain ⟨d13, d14, d15, d16, N, S, P, A, x0, d17, ⟨d18, d19, d20, d21⟩, d22, d23⟩ := d12 xs is e j hP
  obtain ⟨o1, hz⟩ := lex_ord hlen eR
  have hc := (lex_facts (by omega) hlen eR).1
  have hw := d17.1
  have hee : ∀ w, (upd R.2.2.1 R.2.2.2.1 (nI len) w).toNatClampNeg ≤ len := fun w => by
    by_cases c3 : w = R.2.2.2.1
    · rw [c3, upd_at, nI_clamp (by omega)]
      exact Nat.le_refl _
    · rw [upd_ne _ _ c3, ← eR]
      exact wLex_ee T len _ hlen T 0 _ _ _ 0 (fun w => Nat.zero_le _) w
  obtain ⟨p1, p2, ⟨p3, p4⟩, p5, p6, p7, p8⟩ := aPr_rd hz (gW_of (by omega) hw o1 hz) hP
  have p7' := p7 1000 (by omega)
  have p8' : 3 * (tW e).length + 1 ≤ len := by
    have e : gL (upd R.2.1 R.2.2.2.1 (nI len)) R.2.2.2.1 len R.2.2.2.1 = len := if_neg (by omega)
    rw [e] at p8
    exact p8
  obtain ⟨υ, k1, k2, k3, k4⟩ := r_chk (h0 := y) (qs := qs) (ks := ks) (n := n' + 128) (lo := 0) (N := N) (S := S) (P := P) (A := A) hT (by omega) (by omega) (by omega) (by omega) hw d14 d22 p3 d16 p4 p5 p6 (by omega) (by omega) d23
  have sf := (nm_same (fc := (rT τ len).2.2.1 1) (r := τ'.2.2.1 32) (by omega) hw o1 hz hee (fun _ _ => rfl) hP).2 w hN
  have hpw : 0 ≤ upd R.2.1 R.2.2.2.1 (nI len) w := o1.2 w
  have h52 : υ.1 52 = upd R.2.1 R.2.2.2.1 (nI len) w := k2.2.2.2.trans sf
  have hng : ¬ upd R.2.1 R.2.2.2.1 (nI len) w < 0 := fun z => by
    rw [Int32.lt_iff_toInt_lt] at z
    rw [Int32.le_iff_toInt_le] at hpw
    omega
  have e11 : υ.1 11 = 0 := (k4.1 11 (by decide) (by decide) (by decide)).trans d17.2.2.1
  have fk : ∀ k, k ≠ 50 → k ≠ 51 → k ≠ 52 → k ≠ 59 → υ.1 k = τ'.1 k := fun k a b c d => (k4.1 k a b c).trans (zIn _ _ d)
  have R3 : zF y qs ks T (n' + 135) 65 [.ref y] τ = some (some (.int 3), zI (zI (zI υ 11 3) 12 (upd R.2.1 R.2.2.2.1 (nI len) w)) 69 (upd R.2.1 R.2.2.2.1 (nI len) w)) := by
    rw [d1]
    unfold j_compile_81
    rw [if_pos d17.2.2.1, show n' + 134 = n' + 128 + 6 from rfl, k1]
    unfold rK
    rw [h52, if_neg hng, r_flt (n := n' + 128 + 4), zcv_at, zcv_at]
    unfold rFl
    rw [if_pos e11]
    unfold j_compile_92
    rw [if_neg (show ¬ (zI (zI υ 11 3) 12 (upd R.2.1 R.2.2.2.1 (nI len) w)).1 11 = 0 by rw [zIn _ _ (by decide), zIe]; decide)]
    simp only [zlet]
    rw [show (zI (zI υ 11 3) 12 (upd R.2.1 R.2.2.2.1 (nI len) w)).1 12 = upd R.2.1 R.2.2.2.1 (nI len) w from zIe _ _ _, zIn _ _ (by decide), zIn _ _ (by decide), zIe]
  obtain ⟨P1, V, D', at2, am2, bd2, nf2, ff2, nm', q', n2, cd', e0, fb', fr', fz', fn', b1, b2, b3, v1, o2, ⟨j1, j2⟩, -, ⟨g1, g2⟩, j3⟩ := c_par' (κ := κ) (T := T) (m := n + 231 + 9) hW (by omega) (by omega)
  rw [hP] at o2
  obtain ⟨j4, -, -, -, ⟨j5, -⟩, -, -⟩ := j3 xs is e j hP
  have ns := nm_same (fc := fc) (r := τ'.2.2.1 32) (by omega) hw o1 hz hee hfc hP
  have hnf : nf2 = upd R.2.1 R.2.2.2.1 (nI len) w := by
    have j6 := j5.2.2.2.1
    cases eν : (nT fc (upd R.2.1 R.2.2.2.1 (nI len)) (upd R.2.2.1 R.2.2.2.1 (nI len)) e (nIn fc (upd R.2.1 R.2.2.2.1 (nI len)) (upd R.2.2.1 R.2.2.2.1 (nI len)) is ([], [], none))).2.2 with
    | none =>
      have := ns.1 eν
      rw [sf] at this
      exact absurd (by rw [this]; decide) hng
    | some w' =>
      rw [eν] at j6
      have := ns.2 w' eν
      rw [sf] at this
      rw [this]
      exact j6.1
  have hbd : bd2 = -1 := o2.1
  have hw0 := hW.2.1.1
  have fw : ofd U (some w0) 13 5 = some (.int (-1)) := by rw [ofd_at hw0]; rfl
  have vp : V.1 U.2.1 = some (.inr (9, cPs (pA w0 r v ka pa ea U.2.1) (nI q') (nI n2) (.ref e0) at2 cd' 0 am2 bd2 nf2 ff2)) := v1.2.1
  have f15 : ofd V (some U.2.1) 9 15 = some (.int (-1)) := by rw [ofd_at vp, hbd]; rfl
  have f16 : ofd V (some U.2.1) 9 16 = some (.int (upd R.2.1 R.2.2.2.1 (nI len) w)) := by rw [ofd_at vp, hnf]; rfl
  have hxl : x < U.2.1 := alt hW.1.1 xU
  have hml : ma < U.2.1 := alt hW.1.1 mU
  have hxV := (j1 x hxl).trans xU
  have hfa : oF κ T (n + 231 + 9) 177 [va_rf (some x), .int 3, .int (upd R.2.1 R.2.2.2.1 (nI len) w)] V = some (some (.int 3), oput V x (.inr (14, (((((fs.set 1 (.int 0)).set 2 .null).set 3 .null).set 4 .null).set 5 (.int (-1))).set 5 (.int (upd R.2.1 R.2.2.2.1 (nI len) w))))) := by
    rw [show n + 231 + 9 = (n + 231 + 8) + 1 from rfl, oE_X12_fault]
    unfold ob_X12_fault
    rw [opf_at hxV (by simp only [List.length_set]; omega)]
    simp only [obn]
  have C3 : cD (oF κ T (n + 231 + 9)) (some x) w0 U = some (some (.int 3), oput V x (.inr (14, (((((fs.set 1 (.int 0)).set 2 .null).set 3 .null).set 4 .null).set 5 (.int (-1))).set 5 (.int (upd R.2.1 R.2.2.2.1 (nI len) w))))) := by
    unfold cD
    rw [fw, ovi_i, obn_at, if_pos (show (-1 : Int32) < 0 by decide), olet_at, obn_at, b1, ocv_at, b2, obn_at, b3, ocv_at, f15, ovi_i, obn_at, if_pos (show (-1 : Int32) < 0 by decide), f16, ovi_i, obn_at, if_neg hng, obn_at, oob_at hxV, obn_at, hfa, oin_at]
  rw [C3] at hC
  obtain ⟨r1, r2⟩ := lr_flt (v := zI (zI (zI υ 11 3) 12 (upd R.2.1 R.2.2.2.1 (nI len) w)) 69 (upd R.2.1 R.2.2.2.1 (nI len) w)) (pl := upd R.2.1 R.2.2.2.1 (nI len) w) hR h hx1 hxV ((j1 ma hml).trans mU) (fun p hp a1 a2 => (j1 p (by omega)).trans (rU p hp a1 a2)) v1.1.1.1 (by omega) ⟨by rw [zIn _ _ (by decide), zIn _ _ (by decide), zIn _ _ (by decide), fk 3 (by decide) (by decide) (by decide) (by decide)]; exact d2, by rw [zIn _ _ (by decide), zIn _ _ (by decide), zIn _ _ (by decide), fk 5 (by decide) (by decide) (by decide) (by decide)]; exact d3, by rw [zIn _ _ (by decide), zIn _ _ (by decide), zIn _ _ (by decide), fk 163 (by decide) (by decide) (by decide) (by decide)]; exact d4, by rw [zIn _ _ (by decide), zIn _ _ (by decide), zIn _ _ (by decide), fk 165 (by decide) (by decide) (by decide) (by decide)]; exact d5, zIe _ _ _⟩ (fun j => (congrFun (k4.2.2.1 2 (by decide) (by decide) (by decide)) j).trans (d10 j))
  refine ⟨_, _, lcpI_ok (r := 3) hC R3, r1, r2, by rw [zIn _ _ (by decide), zIn _ _ (by decide), zIn _ _ (by decide), fk 45 (by decide) (by decide) (by decide) (by decide)]; exact d17.2.1.2.2.2.2.2, by rw [zIn _ _ (by decide), zIn _ _ (by decide), zIn _ _ (by decide), fk 60 (by decide) (by decide) (by decide) (by decide)]; exact d60.trans h60, lNo.of hx1.2.2.1 (by rw [zIn _ _ (by decide), zIn _ _ (by decide), zIn _ _ (by decide), fk 66 (by decide) (by decide) (by decide) (by decide)]; exact d6), lKc.of hx1 ((j1 ma hml).trans mU) (fun p hp a1 a2 _ _ => (j1 p (by omega)).trans (rU p hp a1 a2)) (by omega), ?_, ?_⟩
  · show V.2.2.1 ≤ _
    have := Nat.mul_le_mul_left 30 hc
    omega
  · show V.2.2.2 ≤ _
    have := Nat.mul_le_mul_left 346 hc
    omega
set_option maxHeartbeats 2000000 in
theorem lr_types2 (hf : lFacts κ ks sz) (hκ : κ.2.2.1 < sz) (hR : oRm sz σ) (hT : 25000 ≤ T) (h : lRel x σ τ) (h45 : τ.1 45 = 0) (h60 : τ.1 60 = nI k0) (hk0 : k0 + 9002 < 2 ^ 30) (h3 : τ.1 3 = nI len) (hlen : len ≤ 2000) (hn : 1640 ≤ n') {R : wRes} (eR : wLex T len (fun j => (rT τ len).2.2.1 1 j &&& 255) T 0 (fun _ => 0) (fun _ => 0) (fun _ => 0) 0 = R) (hok : R.2.2.2.2 = -1) {xs : List tQ} {is : List (Nat × Nat)} {e : tT} {j : Nat} (hP : aPr R.1 T R.2.2.2.1 = .inr ((xs, is, e), j)) (hN : (nT ((rT τ len).2.2.1 1) (upd R.2.1 R.2.2.2.1 (nI len)) (upd R.2.2.1 R.2.2.2.1 (nI len)) e (nIn ((rT τ len).2.2.1 1) (upd R.2.1 R.2.2.2.1 (nI len)) (upd R.2.2.1 R.2.2.2.1 (nI len)) is ([], [], none))).2.2 = none) (hY : ¬ mSat (mEnd ((rT τ len).2.2.1 1) (upd R.2.1 R.2.2.2.1 (nI len)) (upd R.2.2.1 R.2.2.2.1 (nI len)) is e).1) : ∃ (u : oSt) (v : zSt), lst (oF κ T (n + 331)) (zF y qs ks T (n' + 135)) x y a σ τ 2 = some (u, v) ∧ lRel x u v ∧ oRm sz u ∧ lNo x u v ∧ lKc x σ u ∧ v.1 45 = 0 ∧ (∃ k, v.1 60 = nI k ∧ k ≤ k0 + 9001) ∧ (u.2.2.1 ≤ σ.2.2.1 + 76 + 30 * len ∧ u.2.2.2 ≤ σ.2.2.2 + 709 + 293 * len) := by
  obtain ⟨U, fs, fm, ma, w0, r, v, ka, pa, ea, fc, hC, hW, hfc, hx1, ⟨xU, mU, rU, nU⟩, ⟨c1, c2⟩⟩ := lr_pre (n := n + 321) hf hκ hR (by omega) h h3 hlen eR hok
  obtain ⟨τ', N, S, P, A, x0, d1, ⟨⟨d2, d3, d4, d5, d6, d7, d8, d9⟩, d10, d11, d12⟩, W, G, Po, d13, d14⟩ := r_upT (h0 := y) (qs := qs) (n := n') hf (by omega) h3 hlen h45 h60 hk0 eR hok hn hP hN
  have hN' := (nT_cg (len := len) W.2.2.2.1 hfc is e).trans hN
  obtain ⟨P1, V, D, at2, am2, cd', nm, e0, fb, fr, fz, fn, σ1, σ2, g, Tt, b1, b2, b3, v1, ⟨j1, j2⟩, -, ⟨g1, g2⟩, -, t1, t2, old, s2, -, cx, -, -, -, fl, hfl, fa⟩ := c_upT (κ := κ) (m := n + 321 + 9) hW (by omega) (by omega) hP G W.inj W.2.1.2 hN'
  have em : mEnd fc (upd R.2.1 R.2.2.2.1 (nI len)) (upd R.2.2.1 R.2.2.2.1 (nI len)) is e = mEnd ((rT τ len).2.2.1 1) (upd R.2.1 R.2.2.2.1 (nI len)) (upd R.2.2.1 R.2.2.2.1 (nI len)) is e := by
    unfold mEnd
    rw [mE_cg (nFind_cg W.2.2.2.1 hfc)]
  rw [em] at cx
  have hc := W.1
  rcases d14 with ⟨z, -⟩ | ⟨pl, f1, f2, f3⟩
  · exact absurd z hY
  rcases cx.1.2 with ⟨z, -⟩ | ⟨pl', cc, F', q1, q2, q3, q4⟩
  · exact absurd z hY
  have epl := q1.uq f1
  subst epl
  have efl : fl = pl' := by
    rw [ofd_at q4.1] at hfl
    have hfl : some (Value.int pl') = some (.int fl) := hfl
    injection hfl with hfl
    injection hfl with hfl
    exact hfl.symm
  subst efl
  have hng : ¬ fl < 0 := fun z => by
    rw [Int32.lt_iff_toInt_lt] at z
    rw [Int32.le_iff_toInt_le] at q2
    omega
  rw [if_neg hng] at fa
  have R4 : zF y qs ks T (n' + 135) 65 [.ref y] τ = some (some (.int 4), zI τ' 69 fl) := by
    rw [d1, if_neg (by rw [f2]; decide), zcv_at]
    unfold j_compile_92
    rw [if_neg (by rw [f2]; decide), f3]
    simp only [zlet]
    rw [zIn _ _ (by decide), f2]
  have hw0 := hW.2.1.1
  have hw0V : V.1 w0 = some (.inr (13, [.ref r, .ref ka, .ref pa, .ref ea, .int (nI R.2.2.2.1), .int (-1)])) := (j1 w0 (alt hW.1.1 hw0)).trans hw0
  have fw : ofd U (some w0) 13 5 = some (.int (-1)) := by rw [ofd_at hw0]; rfl
  have vp : V.1 U.2.1 = some (.inr (9, cPs (pA w0 r v ka pa ea U.2.1) (nI xs.length) (nI is.length) (.ref e0) at2 cd' 0 am2 (-1) (-1) (fE fc (upd R.2.1 R.2.2.2.1 (nI len)) (upd R.2.2.1 R.2.2.2.1 (nI len)) e (is.map Prod.fst) 0 (-1)))) := v1.2.1
  have f15 : ofd V (some U.2.1) 9 15 = some (.int (-1)) := by rw [ofd_at vp]; rfl
  have f16 : ofd V (some U.2.1) 9 16 = some (.int (-1)) := by rw [ofd_at vp]; rfl
  have hxl : x < U.2.1 := alt hW.1.1 xU
  have hml : ma < U.2.1 := alt hW.1.1 mU
  have hxV := (j1 x hxl).trans xU
  have hmV := (j1 ma hml).trans mU
  have lowσ : ∀ p c, p < U.2.1 → V.1 p = some c → (∀ fs, c ≠ .inr (7, fs)) → (∀ fs, c ≠ .inr (6, fs)) → σ2.1 p = V.1 p := fun p c hp e a b => cx.1.1.2.2.1 p (by omega) (fun fs z => a fs (by rw [e] at z; injection z)) (fun fs z => b fs (by rw [e] at z; injection z))
  have hx2 : σ2.1 x = _ := (lowσ x _ hxl hxV (fun _ z => by cases z) (fun _ z => by cases z)).trans hxV
  have hm2 : σ2.1 ma = _ := (lowσ ma _ hml hmV (fun _ z => by cases z) (fun _ z => by cases z)).trans hmV
  have hfa : oF κ T (n + 321 + 9) 177 [va_rf (some x), .int 4, .int fl] σ2 = some (some (.int 4), oput σ2 x (.inr (14, (((((fs.set 1 (.int 0)).set 2 .null).set 3 .null).set 4 .null).set 5 (.int (-1))).set 5 (.int fl)))) := by
    rw [show n + 321 + 9 = (n + 321 + 8) + 1 from rfl, oE_X12_fault]
    unfold ob_X12_fault
    rw [opf_at hx2 (by simp only [List.length_set]; omega)]
    simp only [obn]
  have h134 : ofd (onew V (.inr (12, odef 12)) (oq 12).2.2) (some w0) 13 4 = some (.int (nI R.2.2.2.1)) := by
    rw [ofd_at ((onew_ne (fun z => by rw [z] at hw0V; rw [v1.1.1.1 V.2.1 (Nat.le_refl _)] at hw0V; cases hw0V)).trans hw0V)]
    rfl
  have C4 : cD (oF κ T (n + 321 + 9)) (some x) w0 U = some (some (.int 4), oput σ2 x (.inr (14, (((((fs.set 1 (.int 0)).set 2 .null).set 3 .null).set 4 .null).set 5 (.int (-1))).set 5 (.int fl)))) := by
    unfold cD
    rw [fw, ovi_i, obn_at, if_pos (show (-1 : Int32) < 0 by decide), olet_at, obn_at, b1, ocv_at, b2, obn_at, b3, ocv_at, f15, ovi_i, obn_at, if_pos (show (-1 : Int32) < 0 by decide), f16, ovi_i, obn_at, if_pos (show (-1 : Int32) < 0 by decide), olet_at, h134, ovi_i, obn_at, obn_at, t1, ocv_at, t2, obn_at, fa, ocv_at, hfl, ovi_i, obn_at, if_neg hng, obn_at, oob_at hx2, obn_at, hfa, oin_at]
  rw [C4] at hC
  have hk7 : ∀ p, p < σ.2.1 → p ≠ x → p ≠ ma → (∀ fs, σ.1 p ≠ some (.inr (7, fs))) → (∀ fs, σ.1 p ≠ some (.inr (6, fs))) → σ2.1 p = σ.1 p := fun p hp a1 a2 n7 n6 => by
    have e1 : V.1 p = σ.1 p := (j1 p (by omega)).trans (rU p hp a1 a2)
    rw [cx.1.1.2.2.1 p (by omega) (fun fs z => n7 fs (by rw [← e1]; exact z)) (fun fs z => n6 fs (by rw [← e1]; exact z))]
    exact e1
  obtain ⟨r1, r2⟩ := lr_flt2 (v := zI τ' 69 fl) (pl := fl) hR h hx1 hx2 hm2 (fun p hp a1 a2 n7 n6 => by
    have e1 : V.1 p = σ.1 p := (j1 p (by omega)).trans (rU p hp a1 a2)
    rw [cx.1.1.2.2.1 p (by omega) (fun fs z => n7 fs (by rw [← e1]; exact z)) (fun fs z => n6 fs (by rw [← e1]; exact z))]
    exact e1) (fun q hq => old q (by rw [s2] at hq; exact hq)) (by rw [s2]; show σ.2.1 ≤ V.2.1 + 7; omega) ⟨by rw [zIn _ _ (by decide)]; exact d2, by rw [zIn _ _ (by decide)]; exact d3, by rw [zIn _ _ (by decide)]; exact d4, by rw [zIn _ _ (by decide)]; exact d5, zIe _ _ _⟩ d11
  obtain ⟨kk, k1, k2⟩ := d13
  refine ⟨_, _, lcpI_ok (r := 4) hC R4, r1, r2, lNo.of hx1.2.2.1 (by rw [zIn _ _ (by decide)]; exact d6), lKc.of hx1 hm2 hk7 (by rw [s2]; show σ.2.1 ≤ V.2.1 + 7; omega), by rw [zIn _ _ (by decide)]; exact Po.2.1.2.2.2.1, ⟨kk, by rw [zIn _ _ (by decide)]; exact k1, k2⟩, ?_, ?_⟩
  · show σ2.2.2.1 ≤ _
    rw [s2]
    show V.2.2.1 + 7 ≤ _
    have := Nat.mul_le_mul_left 30 hc
    omega
  · show σ2.2.2.2 ≤ _
    rw [s2]
    show V.2.2.2 + 74 + 32 * R.2.2.2.1 ≤ _
    have := Nat.mul_le_mul_left 346 hc
    have := Nat.mul_le_mul_left 32 hc
    omega
end LFX
