/-! the class's compile(): a String, its words -/
theorem oktx_0 : (oktx 0).toList.length = 0 := by decide +kernel
theorem sNew_o {κ : oKv} {σ : oSt} {r len q : Nat} {g : Nat → Int32} (h1 : q ≠ r) (h2 : q ≠ σ.2.1) : (sNew κ σ r len g).1 q = σ.1 q := by
  unfold sNew
  split
  · exact oput_ne h1
  · rw [oput_ne h1, onew_ne h2]
theorem sNew_r {κ : oKv} {σ : oSt} {r len : Nat} {g : Nat → Int32} : (sNew κ σ r len g).1 r = some (.inr (0, [.ref (if len = 0 then κ.2.1 0 else σ.2.1), .int 0, .int 0, .int 0])) := by
  unfold sNew
  split
  · exact oput_eq _ _ _
  · exact oput_eq _ _ _
theorem sNew_n {κ : oKv} {σ : oSt} {r len : Nat} {g : Nat → Int32} : (sNew κ σ r len g).2.1 = if len = 0 then σ.2.1 else σ.2.1 + 1 := by
  unfold sNew
  split <;> rfl
/-- the String that is made holds the letters -/
theorem sNew_tv {κ : oKv} {ks : Nat → Nat} {sz : Nat} {σ : oSt} {r len : Nat} {g : Nat → Int32} (hf : lFacts κ ks sz) (hlow : ∀ a, a < sz → σ.1 a = none) (hrs : sz ≤ r) (hrn : r ≠ σ.2.1) (hlen : len ≤ 2000) : oTv κ (sNew κ σ r len g) r (if len = 0 then κ.2.1 0 else σ.2.1) len (sCp g (fun _ => 0) len 0) := by
  have hr := sNew_r (κ := κ) (σ := σ) (r := r) (len := len) (g := g)
  have e1 : oSt' κ (sNew κ σ r len g) (some r) = some r := by simp only [oSt', oob_at hr]
  have e2 : ofk κ (sNew κ σ r len g) (some r) 0 = some (.ref (if len = 0 then κ.2.1 0 else σ.2.1)) := by
    simp only [ofk, ofd_at hr, List.getElem?_cons_zero]
  have e3 : ofk κ (sNew κ σ r len g) (some r) 1 = some (.int 0) := by
    simp only [ofk, ofd_at hr, List.getElem?_cons_zero, List.getElem?_cons_succ]
  refine ⟨e1, e2, e3, ?_, by omega, fun j hj => ?_⟩
  · by_cases c : len = 0
    · subst c
      rw [if_pos rfl]
      unfold sNew
      rw [if_pos rfl]
      have hne : ∀ a, a < sz → a ≠ r := fun a ha => by omega
      have hl2 : ∀ a, a < sz → (oput σ r (.inr (0, [.ref (κ.2.1 0), .int 0, .int 0, .int 0]))).1 a = none := fun a ha => (oput_ne (hne a ha)).trans (hlow a ha)
      obtain ⟨a, v, -, h2, -, h4, -, -⟩ := oTx_const (i := 0) hf hl2 (by decide)
      obtain ⟨j, hj, hj2, hj3⟩ := okA_some (κ := κ) (i := 0) (by decide)
      have k1 : ofk κ (oput σ r (.inr (0, [.ref (κ.2.1 0), .int 0, .int 0, .int 0]))) (some (κ.1 0)) 0 = some (.ref (κ.2.1 0)) := by
        simp only [ofk, ofd, hl2 _ (hf.1 0 (by decide)).1, hj, if_true]
        rw [hf.2.2.1 j 0 hj2 (by decide) hj3]
      rw [k1] at h2
      cases h2
      rw [h4, oktx_0]
    · rw [if_neg c]
      unfold sNew
      rw [if_neg c]
      simp only [oln2, oput_ne (Ne.symm hrn), onew_eq]
      rfl
  · have c : ¬ len = 0 := by omega
    rw [if_neg c]
    unfold sNew
    rw [if_neg c]
    have z1 : zin (nI j) len = true := decide_eq_true ⟨by rw [nI_toInt (by omega)]; omega, by rw [nI_toInt (by omega)]; omega⟩
    have hv : (oput (onew σ (.inl (.byte, len, .inl (sCp g (fun _ => 0) len 0))) len) r (.inr (0, [.ref σ.2.1, .int 0, .int 0, .int 0]))).1 σ.2.1 = some (.inl (.byte, len, .inl (sCp g (fun _ => 0) len 0))) := (oput_ne (Ne.symm hrn)).trans (onew_eq _ _ _)
    simp only [oai8, oai_at hv z1, nI_clamp (show j < 2 ^ 31 by omega)]
theorem oq_13 : (oq 13).2.2 = 6 := by decide +kernel
theorem oq_0 : (oq 0).2.2 = 4 := by decide +kernel
/-- compile() forgets what was compiled -/
def cF (σ : oSt) (x ma : Nat) (fs fm : List Value) : oSt := oput (oput σ x (.inr (14, ((((fs.set 1 (.int 0)).set 2 .null).set 3 .null).set 4 .null).set 5 (.int (-1))))) ma (.inr (5, (fm.set 0 .null).set 16 (.long 0)))
/-- new objects: words and a String -/
def cN (σ : oSt) : oSt := onew (onew σ (.inr (13, odef 13)) 6) (.inr (0, odef 0)) 4
section OCW
variable {κ : oKv} {ks : Nat → Nat} {T n len sz : Nat} {σ : oSt} {x ma c : Nat} {fs fm : List Value} {g F : Nat → Int32}
set_option maxHeartbeats 2000000 in
theorem c_words (hf : lFacts κ ks sz) (hlow : ∀ a, a < sz → σ.1 a = none) (hfr : ∀ a, σ.2.1 ≤ a → σ.1 a = none) (hsz : sz ≤ σ.2.1) (hx : σ.1 x = some (.inr (14, fs))) (hfl : fs.length = 13) (f12 : fs[12]? = some (.ref ma)) (hm : σ.1 ma = some (.inr (5, fm))) (hml : 17 < fm.length) (hc : σ.1 c = some (.inl (.char, len, .inl g))) (hg : ∀ j, j < len → g j ≤ 255) (hF : ∀ j, j < len → F j = (g j).toInt8.toInt32) (hlen : len ≤ 2000) (hT : 2010 ≤ T) : cC (oF κ T (n + 9)) (some x) (some c) σ = cD (oF κ T (n + 9)) (some x) σ.2.1 (wFin (w3 (sNew κ (cN (cF σ x ma fs fm)) (σ.2.1 + 1) len g) (len + 1)) σ.2.1 (sNew κ (cN (cF σ x ma fs fm)) (σ.2.1 + 1) len g).2.1 ((sNew κ (cN (cF σ x ma fs fm)) (σ.2.1 + 1) len g).2.1 + 1) ((sNew κ (cN (cF σ x ma fs fm)) (σ.2.1 + 1) len g).2.1 + 1 + 1) (σ.2.1 + 1) len (wLex T len (fun j => F j &&& 255) T 0 (fun _ => 0) (fun _ => 0) (fun _ => 0) 0)) := by
  have hmx : ma ≠ x := fun e => by rw [e, hx] at hm; cases hm
  have hcx : c ≠ x := fun e => by rw [e, hx] at hc; cases hc
  have hcm : c ≠ ma := fun e => by rw [e, hm] at hc; cases hc
  have lt : ∀ q k, σ.1 q = some k → q < σ.2.1 := fun q k h => by
    by_cases c : q < σ.2.1
    · exact c
    · rw [hfr q (by omega)] at h
      cases h
  have lt2 : ∀ q k, σ.1 q = some k → sz ≤ q := fun q k h => by
    by_cases c : q < sz
    · rw [hlow q c] at h
      cases h
    · omega
  have hxl := lt _ _ hx
  have hml' := lt _ _ hm
  have hcl := lt _ _ hc
  have hxz := lt2 _ _ hx
  have hmz := lt2 _ _ hm
  unfold cC
  rw [opf_at hx (by omega)]
  simp only [obn]
  rw [opf_at (oput_eq _ _ _) (by simp only [List.length_set]; omega)]
  simp only [obn, oput_oput]
  rw [opf_at (oput_eq _ _ _) (by simp only [List.length_set]; omega)]
  simp only [obn, oput_oput]
  rw [opf_at (oput_eq _ _ _) (by simp only [List.length_set]; omega)]
  simp only [obn, oput_oput]
  rw [opf_at (oput_eq _ _ _) (by simp only [List.length_set]; omega)]
  simp only [obn, oput_oput, va_rf]
  rw [ofd_at (oput_eq _ _ _)]
  have g12 : (((((fs.set 1 (.int 0)).set 2 .null).set 3 .null).set 4 .null).set 5 (.int (-1)))[12]? = some (Value.ref ma) := by
    rw [List.getElem?_set_ne (by decide), List.getElem?_set_ne (by decide), List.getElem?_set_ne (by decide), List.getElem?_set_ne (by decide), List.getElem?_set_ne (by decide), f12]
  rw [g12]
  simp only [ovr, obn]
  have hm2 : (oput σ x (.inr (14, ((((fs.set 1 (.int 0)).set 2 .null).set 3 .null).set 4 .null).set 5 (.int (-1))))).1 ma = some (.inr (5, fm)) := (oput_ne hmx).trans hm
  rw [oob_at hm2]
  simp only [obn]
  have hfg := c_forget (κ := κ) (T := T) (n := n + 8) hm2 hml
  simp only [va_rf] at hfg
  rw [hfg]
  simp only [ocv, olet, oq_13, oq_0]
  have e1 : oput (oput σ x (.inr (14, ((((fs.set 1 (.int 0)).set 2 .null).set 3 .null).set 4 .null).set 5 (.int (-1))))) ma (.inr (5, (fm.set 0 .null).set 16 (.long 0))) = cF σ x ma fs fm := rfl
  rw [e1]
  have n1 : (cF σ x ma fs fm).2 = σ.2 := rfl
  have o1 : ∀ q, q ≠ x → q ≠ ma → (cF σ x ma fs fm).1 q = σ.1 q := fun q h1 h2 => (oput_ne h2).trans (oput_ne h1)
  have e2 : onew (onew (cF σ x ma fs fm) (.inr (13, odef 13)) 6) (.inr (0, odef 0)) 4 = cN (cF σ x ma fs fm) := rfl
  rw [e2]
  have n21 : (onew (cF σ x ma fs fm) (.inr (13, odef 13)) 6).2.1 = σ.2.1 + 1 := rfl
  have n18 : (cF σ x ma fs fm).2.1 = σ.2.1 := rfl
  rw [n21, n18]
  have nN : (cN (cF σ x ma fs fm)).2.1 = σ.2.1 + 1 + 1 := rfl
  have rN : (cN (cF σ x ma fs fm)).1 (σ.2.1 + 1) = some (.inr (0, odef 0)) := onew_eq (onew (cF σ x ma fs fm) (.inr (13, odef 13)) 6) _ _
  have wN : (cN (cF σ x ma fs fm)).1 σ.2.1 = some (.inr (13, odef 13)) := (onew_ne (by rw [n21]; omega)).trans (onew_eq (cF σ x ma fs fm) _ _)
  have oN : ∀ q, q ≠ x → q ≠ ma → q ≠ σ.2.1 → q ≠ σ.2.1 + 1 → (cN (cF σ x ma fs fm)).1 q = σ.1 q := fun q h1 h2 h3 h4 => ((onew_ne (by rw [n21]; exact h4)).trans (onew_ne (by rw [n18]; exact h3))).trans (o1 q h1 h2)
  have lowN : ∀ a, a < sz → (cN (cF σ x ma fs fm)).1 a = none := fun a ha => (oN a (by omega) (by omega) (by omega) (by omega)).trans (hlow a ha)
  have frN : (cN (cF σ x ma fs fm)).1 (cN (cF σ x ma fs fm)).2.1 = none := by
    rw [nN, oN _ (by omega) (by omega) (by omega) (by omega)]
    exact hfr _ (by omega)
  have cNc := (oN c hcx hcm (by omega) (by omega)).trans hc
  have hs := s_new (κ := κ) (T := T) (n := n + 5) hf lowN frN rN cNc hg hlen hT
  simp only [va_rf] at hs
  rw [hs]
  simp only [ocv]
  have tv0 := sNew_tv (g := g) (len := len) (r := σ.2.1 + 1) hf lowN (by omega) (by rw [nN]; omega) hlen
  have tv : oTv κ (sNew κ (cN (cF σ x ma fs fm)) (σ.2.1 + 1) len g) (σ.2.1 + 1) (if len = 0 then κ.2.1 0 else (cN (cF σ x ma fs fm)).2.1) len F := ⟨tv0.1, tv0.2.1, tv0.2.2.1, tv0.2.2.2.1, tv0.2.2.2.2.1, fun j hj => by
    rw [tv0.2.2.2.2.2 j hj, hF j hj]
    unfold sCp
    rw [if_pos ⟨Nat.zero_le _, hj⟩]⟩
  have nS := sNew_n (κ := κ) (σ := cN (cF σ x ma fs fm)) (r := σ.2.1 + 1) (len := len) (g := g)
  have k0 : κ.2.1 0 < sz := (hf.1 0 (by decide)).2
  have wS : (sNew κ (cN (cF σ x ma fs fm)) (σ.2.1 + 1) len g).1 σ.2.1 = some (.inr (13, odef 13)) := (sNew_o (by omega) (by rw [nN]; omega)).trans wN
  have lowS : ∀ a, a < sz → (sNew κ (cN (cF σ x ma fs fm)) (σ.2.1 + 1) len g).1 a = none := fun a ha => (sNew_o (by omega) (by rw [nN]; omega)).trans (lowN a ha)
  rw [nN] at tv nS
  have hw := w_init (κ := κ) (T := T) (n := n) hf lowS wS (by rw [nS]; split <;> omega) hsz tv (by omega) (by split <;> omega) (by rw [nS]; split <;> omega) (by rw [nS]; split <;> omega) hlen hT
  simp only [va_rf] at hw
  rw [hw]
end OCW
