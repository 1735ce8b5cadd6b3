/-! feed on both sides -/
theorem nI1980 : nI 1980 = (1980 : Int32) := by decide
theorem nI2000 : nI 2000 = (2000 : Int32) := by decide
theorem nI20 : nI 20 = (20 : Int32) := by decide
def updN : (Nat → Int32) → Nat → List Int32 → Nat → Int32
  | f, _, [] => f
  | f, k, b :: bs => updN (upd f k b) (k + 1) bs
theorem updN_same : ∀ (bs : List Int32) (f g : Nat → Int32) (k : Nat), (∀ j, j < k → f j = g j) → ∀ j, j < k + bs.length → updN f k bs j = updN g k bs j
  | [], f, g, k, h, j, hj => h j hj
  | b :: bs, f, g, k, h, j, hj => by
    refine updN_same bs (upd f k b) (upd g k b) (k + 1) (fun i hi => ?_) j (by simp only [List.length_cons] at hj; omega)
    by_cases e : i = k
    · subst e; simp [upd]
    · have h9 : i < k := by omega
      simp [upd, e, h i h9]
theorem updN_app : ∀ (as bs : List Int32) (f : Nat → Int32) (k : Nat), updN f k (as ++ bs) = updN (updN f k as) (k + as.length) bs
  | [], _, _, _ => rfl
  | a :: as, bs, f, k => by
    rw [List.cons_append]
    show updN (upd f k a) (k + 1) (as ++ bs) = updN (updN (upd f k a) (k + 1) as) (k + (as.length + 1)) bs
    rw [updN_app as bs, show k + 1 + as.length = k + (as.length + 1) by omega]
def bsOf (v s : Int32) : Int32 := vp_nar .byte ((v >>> (s &&& 31)).toInt8.toInt32)
def lTape (σ : oSt) (x ta : Nat) (fs : List Value) (ft : Nat → Int32) (len : Nat) : oSt := oput (oput σ ta (.inl (.byte, 2000, .inl ft))) x (.inr (14, fs.set 1 (.int (nI len))))
def zTape (τ : zSt) (g : Nat → Int32) (len : Nat) : zSt := zI (zA τ 0 g) 3 (nI len)
theorem oSt_ext {a b : oSt} (h1 : ∀ q, a.1 q = b.1 q) (h2 : a.2 = b.2) : a = b := Prod.ext (funext h1) h2
theorem lTape_x {σ : oSt} {x ta : Nat} {fs : List Value} {ft : Nat → Int32} {len : Nat} : (lTape σ x ta fs ft len).1 x = some (.inr (14, fs.set 1 (.int (nI len)))) := oput_eq _ _ _
theorem lTape_ta {σ : oSt} {x ta : Nat} {fs : List Value} {ft : Nat → Int32} {len : Nat} (h : ta ≠ x) : (lTape σ x ta fs ft len).1 ta = some (.inl (.byte, 2000, .inl ft)) := by
  unfold lTape
  rw [oput_ne h, oput_eq]
theorem lTape_oth {σ : oSt} {x ta q : Nat} {fs : List Value} {ft : Nat → Int32} {len : Nat} (h : q ≠ x) (h2 : q ≠ ta) : (lTape σ x ta fs ft len).1 q = σ.1 q := by
  unfold lTape
  rw [oput_ne h, oput_ne h2]
theorem lTape_next {σ : oSt} {x ta : Nat} {fs : List Value} {ft gt : Nat → Int32} {len len2 : Nat} : oput (oput (lTape σ x ta fs ft len) ta (.inl (.byte, 2000, .inl gt))) x (.inr (14, (fs.set 1 (.int (nI len))).set 1 (.int (nI len2)))) = lTape σ x ta fs gt len2 := by
  refine oSt_ext (fun q => ?_) rfl
  unfold lTape
  rw [List.set_set]
  by_cases e1 : q = x
  · rw [e1, oput_eq, oput_eq]
  · rw [oput_ne e1, oput_ne e1]
    by_cases e2 : q = ta
    · rw [e2, oput_eq, oput_eq]
    · rw [oput_ne e2, oput_ne e1, oput_ne e2, oput_ne e2]
theorem lTape_self {σ : oSt} {x ta : Nat} {fs : List Value} {ft : Nat → Int32} {len : Nat} (h1 : σ.1 x = some (.inr (14, fs))) (h2 : σ.1 ta = some (.inl (.byte, 2000, .inl ft))) (h3 : fs[1]? = some (.int (nI len))) : lTape σ x ta fs ft len = σ := by
  refine oSt_ext (fun q => ?_) rfl
  have e9 : fs.set 1 (.int (nI len)) = fs := by
    apply List.ext_getElem?
    intro k
    by_cases e : 1 = k
    · subst e
      rw [List.getElem?_set_self (List.getElem?_eq_some_iff.mp h3).1, h3]
    · rw [List.getElem?_set_ne e]
  unfold lTape
  rw [e9]
  by_cases e1 : q = x
  · rw [e1, oput_eq, h1]
  · rw [oput_ne e1]
    by_cases e2 : q = ta
    · rw [e2, oput_eq, h2]
    · rw [oput_ne e2]
theorem lay_it {call : oCl} {κ : oKv} {T f x ta len : Nat} {v s : Int32} {σ : oSt} {fs : List Value} {ft : Nat → Int32} (hlen : fs.length = 13) (f0 : fs[0]? = some (.ref ta)) (hta : ta ≠ x) (hs : ¬ s < 0) (hl : len < 2000) : ol_X12_lay_3 T call κ (f + 1) (some x) v s (lTape σ x ta fs ft len) = ol_X12_lay_3 T call κ f (some x) v (s + (-8)) (lTape σ x ta fs (upd ft len (bsOf v s)) (len + 1)) := by
  have g1 := lTape_x (σ := σ) (x := x) (ta := ta) (fs := fs) (ft := ft) (len := len)
  have g2 := lTape_ta (σ := σ) (fs := fs) (ft := ft) (len := len) hta
  have e1 : (fs.set 1 (.int (nI len)))[1]? = some (.int (nI len)) := List.getElem?_set_self (by omega)
  have e0 : (fs.set 1 (.int (nI len)))[0]? = some (.ref ta) := by rw [List.getElem?_set_ne (by decide)]; exact f0
  have c1 : ¬ (2000 : Int32) ≤ nI len := fun h => nI_ge (a := len) (b := 2000) hl (by decide) (by rw [nI2000]; exact h)
  have z1 : zin (nI len) 2000 = true := decide_eq_true ⟨by rw [nI_toInt (by omega)]; omega, by rw [nI_toInt (by omega)]; omega⟩
  have hx2 : (oput (lTape σ x ta fs ft len) ta (.inl (.byte, 2000, .inl (upd ft len (bsOf v s))))).1 x = some (.inr (14, fs.set 1 (.int (nI len)))) := by rw [oput_ne (Ne.symm hta)]; exact g1
  rw [ol_X12_lay_3, if_neg hs]
  simp only [ofd_at g1, e1, e0, ovi, ovr, obn, if_neg c1, osi_at g2 z1, nI_clamp (show len < 2 ^ 31 by omega)]
  simp only [show vp_nar .byte ((v >>> (s &&& 31)).toInt8.toInt32) = bsOf v s from rfl, ofd_at hx2, e1, opf_at hx2 (show 1 < (fs.set 1 (.int (nI len))).length by rw [List.length_set]; omega), nI_1, lTape_next]
def bs4 (v : Int32) : List Int32 := [bsOf v 24, bsOf v 16, bsOf v 8, bsOf v 0]
theorem bs4_len (v : Int32) : (bs4 v).length = 4 := rfl
theorem lay_ok {κ : oKv} {T n x ta len : Nat} {v : Int32} {σ : oSt} {fs : List Value} {ft : Nat → Int32} (hT : 5 ≤ T) (hlen : fs.length = 13) (f0 : fs[0]? = some (.ref ta)) (hta : ta ≠ x) (hl : len + 4 ≤ 2000) : oF κ T (n + 1) 174 [va_rf (some x), .int v] (lTape σ x ta fs ft len) = some (none, lTape σ x ta fs (updN ft len (bs4 v)) (len + 4)) := by
  rw [oE_X12_lay]
  unfold ob_X12_lay
  obtain ⟨t, rfl⟩ : ∃ t, T = t + 5 := ⟨T - 5, by omega⟩
  rw [lay_it (f := t + 4) hlen f0 hta (by decide) (by omega), lay_it (f := t + 3) hlen f0 hta (by decide) (by omega), lay_it (f := t + 2) hlen f0 hta (by decide) (by omega), lay_it (f := t + 1) hlen f0 hta (by decide) (by omega)]
  rw [ol_X12_lay_3, if_pos (by decide)]
  rfl
theorem zf_it {call : zCl} {y T f len : Nat} {qs : List Nat} {ks : Nat → Nat} {x1 x2 x3 x4 x5 x6 t : Int32} {τ : zSt} {g : Nat → Int32} (h20 : ¬ 20 ≤ x6) (hsel : (if 4 ≤ x6 then (if 8 ≤ x6 then (if 12 ≤ x6 then (if 16 ≤ x6 then x5 else x4) else x3) else x2) else x1) = t) (hl : len < 2000) : l_feed_18 T call y qs ks (f + 1) x1 x2 x3 x4 x5 x6 (zTape τ g len) = l_feed_18 T call y qs ks f x1 x2 x3 x4 x5 (x6 + 1) (zTape τ (upd g len (bsOf t (24 - (8 * (x6 - x6 / 4 * 4))))) (len + 1)) := by
  have e3 : (zTape τ g len).1 3 = nI len := zI_eq _ _ _
  have ea : (zTape τ g len).2.2.1 0 = g := zA_eq τ 0 g
  have z1 : zin (nI len) 2000 = true := decide_eq_true ⟨by rw [nI_toInt (by omega)]; omega, by rw [nI_toInt (by omega)]; omega⟩
  have key : ∀ t0 : Int32, j_feed_71 T call y qs ks (l_feed_18 T call y qs ks f) x1 x2 x3 x4 x5 x6 t0 (zTape τ g len) = l_feed_18 T call y qs ks f x1 x2 x3 x4 x5 (x6 + 1) (zTape τ (upd g len (bsOf t0 (24 - (8 * (x6 - x6 / 4 * 4))))) (len + 1)) := fun t0 => by
    have d4 : decide (¬ (4 : Int32) = 0) = true := by decide
    unfold j_feed_71
    simp only [zgd, d4, e3, ea, z1, if_true, zlet, nI_clamp (show len < 2 ^ 31 by omega)]
    have hst : ∀ w : Nat → Int32, zI (zA (zTape τ g len) 0 w) 3 (nI len + 1) = zTape τ w (len + 1) := fun w => by
      rw [nI_1]
      unfold zTape zI zA
      refine Prod.ext (funext fun j => ?_) (Prod.ext rfl (Prod.ext (funext fun j => ?_) rfl))
      · by_cases e : j = 3
        · simp [e]
        · simp [e]
      · by_cases e : j = 0
        · simp [e]
        · simp [e]
    have e5 : (zA (zTape τ g len) 0 (upd g len (bsOf t0 (24 - (8 * (x6 - x6 / 4 * 4)))))).1 3 = nI len := e3
    simp only [show vp_nar .byte ((t0 >>> ((24 - (8 * (x6 - x6 / 4 * 4))) &&& 31)).toInt8.toInt32) = bsOf t0 (24 - (8 * (x6 - x6 / 4 * 4))) from rfl, e5, hst]
    exact if_pos (by decide)
  rw [l_feed_18, if_neg h20]
  subst hsel
  split
  · split
    · split
      · split
        · exact key x5
        · exact key x4
      · exact key x3
    · exact key x2
  · exact key x1
theorem zfeed_ok {call : zCl} {y T len : Nat} {qs : List Nat} {ks : Nat → Nat} {x1 x2 x3 x4 x5 : Int32} {τ : zSt} {g : Nat → Int32} (hT : 21 ≤ T) (hl : len + 20 ≤ 2000) : l_feed_18 T call y qs ks T x1 x2 x3 x4 x5 0 (zTape τ g len) = some (some (.int 1), zTape τ (updN g len (bs4 x1 ++ (bs4 x2 ++ (bs4 x3 ++ (bs4 x4 ++ bs4 x5))))) (len + 20)) := by
  have hgen : ∀ T0, T0 = T → l_feed_18 T0 call y qs ks T x1 x2 x3 x4 x5 0 (zTape τ g len) = some (some (.int 1), zTape τ (updN g len (bs4 x1 ++ (bs4 x2 ++ (bs4 x3 ++ (bs4 x4 ++ bs4 x5))))) (len + 20)) := by
    intro T0 _
    obtain ⟨t, rfl⟩ : ∃ t, T = t + 21 := ⟨T - 21, by omega⟩
    rw [zf_it (t := x1) (f := t + 20) (by decide) (if_neg (by decide)) (by omega)]
    rw [zf_it (t := x1) (f := t + 19) (by decide) (if_neg (by decide)) (by omega)]
    rw [zf_it (t := x1) (f := t + 18) (by decide) (if_neg (by decide)) (by omega)]
    rw [zf_it (t := x1) (f := t + 17) (by decide) (if_neg (by decide)) (by omega)]
    rw [zf_it (t := x2) (f := t + 16) (by decide) ((if_pos (by decide)).trans (if_neg (by decide))) (by omega)]
    rw [zf_it (t := x2) (f := t + 15) (by decide) ((if_pos (by decide)).trans (if_neg (by decide))) (by omega)]
    rw [zf_it (t := x2) (f := t + 14) (by decide) ((if_pos (by decide)).trans (if_neg (by decide))) (by omega)]
    rw [zf_it (t := x2) (f := t + 13) (by decide) ((if_pos (by decide)).trans (if_neg (by decide))) (by omega)]
    rw [zf_it (t := x3) (f := t + 12) (by decide) ((if_pos (by decide)).trans ((if_pos (by decide)).trans (if_neg (by decide)))) (by omega)]
    rw [zf_it (t := x3) (f := t + 11) (by decide) ((if_pos (by decide)).trans ((if_pos (by decide)).trans (if_neg (by decide)))) (by omega)]
    rw [zf_it (t := x3) (f := t + 10) (by decide) ((if_pos (by decide)).trans ((if_pos (by decide)).trans (if_neg (by decide)))) (by omega)]
    rw [zf_it (t := x3) (f := t + 9) (by decide) ((if_pos (by decide)).trans ((if_pos (by decide)).trans (if_neg (by decide)))) (by omega)]
    rw [zf_it (t := x4) (f := t + 8) (by decide) ((if_pos (by decide)).trans ((if_pos (by decide)).trans ((if_pos (by decide)).trans (if_neg (by decide))))) (by omega)]
    rw [zf_it (t := x4) (f := t + 7) (by decide) ((if_pos (by decide)).trans ((if_pos (by decide)).trans ((if_pos (by decide)).trans (if_neg (by decide))))) (by omega)]
    rw [zf_it (t := x4) (f := t + 6) (by decide) ((if_pos (by decide)).trans ((if_pos (by decide)).trans ((if_pos (by decide)).trans (if_neg (by decide))))) (by omega)]
    rw [zf_it (t := x4) (f := t + 5) (by decide) ((if_pos (by decide)).trans ((if_pos (by decide)).trans ((if_pos (by decide)).trans (if_neg (by decide))))) (by omega)]
    rw [zf_it (t := x5) (f := t + 4) (by decide) ((if_pos (by decide)).trans ((if_pos (by decide)).trans ((if_pos (by decide)).trans (if_pos (by decide))))) (by omega)]
    rw [zf_it (t := x5) (f := t + 3) (by decide) ((if_pos (by decide)).trans ((if_pos (by decide)).trans ((if_pos (by decide)).trans (if_pos (by decide))))) (by omega)]
    rw [zf_it (t := x5) (f := t + 2) (by decide) ((if_pos (by decide)).trans ((if_pos (by decide)).trans ((if_pos (by decide)).trans (if_pos (by decide))))) (by omega)]
    rw [zf_it (t := x5) (f := t + 1) (by decide) ((if_pos (by decide)).trans ((if_pos (by decide)).trans ((if_pos (by decide)).trans (if_pos (by decide))))) (by omega)]
    rw [l_feed_18, if_pos (by decide)]
    rfl
  exact hgen T rfl
section LRF
variable {κ : oKv} {ks : Nat → Nat} {qs : List Nat} {T n n' x y : Nat} {a : Nat → Int32} {σ : oSt} {τ : zSt}
theorem lr_feed (hT : 21 ≤ T) (h : lRel x σ τ) : ∃ (u : oSt) (v : zSt), lst (oF κ T (n + 2)) (zF y qs ks T (n' + 1)) x y a σ τ 0 = some (u, v) ∧ lRel x u v ∧ lKeep x σ τ u v := by
  have h0 := h
  obtain ⟨fs, fm, ta, oa, ma, No, ft, go, ⟨h1, hlen⟩, ⟨f0, f1, f5, f6, f8, f12⟩, ⟨t1, t2, t3, t4⟩, ⟨o1, o2, o3, o4, o5, o6⟩, ⟨m1, m2, m3, m4⟩⟩ := h
  have hO := oE_X12_feed κ T (n + 1) (some x) (a 1) (a 2) (a 3) (a 4) (a 5) σ
  have hZ := zE_feed y qs ks T n' (a 1) (a 2) (a 3) (a 4) (a 5) τ
  obtain ⟨len, hl1, hl2⟩ : ∃ len : Nat, len ≤ 2000 ∧ τ.1 3 = nI len := by
    refine ⟨(τ.1 3).toNatClampNeg, ?_, ?_⟩
    · have := i32_cl t2
      omega
    · refine Int32.toInt_inj.mp ?_
      rw [nI_toInt (by have := i32_cl t2; omega), i32_cl t2]
  have nta : ta ≠ x := fun e => by
    rw [e, h1] at t1; cases t1
  have noa : oa ≠ x := fun e => by
    rw [e, h1] at o1; cases o1
  have nma : ma ≠ ta := fun e => by
    rw [e, t1] at m1; cases m1
  by_cases c : len ≤ 1980
  · have c1 : nI len ≤ (1980 : Int32) := by rw [← nI1980]; exact nI_le c (by decide)
    have c2 : nI len + 20 ≤ (2000 : Int32) := by
      have h9 := nI_le (a := len + 20) (b := 2000) (by omega) (by decide)
      rw [← nI_add, nI2000, nI20] at h9
      exact h9
    have f1' : fs[1]? = some (.int (nI len)) := by rw [← hl2]; exact f1
    have eσ := lTape_self h1 t1 f1'
    have eτ : zTape τ (τ.2.2.1 0) len = τ := by
      unfold zTape zI zA
      refine Prod.ext (funext fun j => ?_) (Prod.ext rfl (Prod.ext (funext fun j => ?_) rfl))
      · by_cases e : j = 3
        · simp [e, hl2]
        · simp [e]
      · by_cases e : j = 0
        · simp [e]
        · simp [e]
    refine ⟨lTape σ x ta fs (updN ft len (bs4 (a 1) ++ (bs4 (a 2) ++ (bs4 (a 3) ++ (bs4 (a 4) ++ bs4 (a 5)))))) (len + 20), zTape τ (updN (τ.2.2.1 0) len (bs4 (a 1) ++ (bs4 (a 2) ++ (bs4 (a 3) ++ (bs4 (a 4) ++ bs4 (a 5)))))) (len + 20), lcpI_ok (r := 1) (hO.trans ?_) (hZ.trans ?_), ?_, ?_⟩
    · have hob : ∀ f k, oob (lTape σ x ta fs f k) (some x) 14 = some x := fun f k => oob_at lTape_x
      have L : ∀ (f : Nat → Int32) (k : Nat) (v : Int32), k + 4 ≤ 2000 → oF κ T (n + 1) 174 [va_rf (some x), .int v] (lTape σ x ta fs f k) = some (none, lTape σ x ta fs (updN f k (bs4 v)) (k + 4)) := fun f k v hk => lay_ok (by omega) hlen f0 nta hk
      unfold ob_X12_feed
      rw [ofd_at h1, f1']
      simp only [ovi, obn, if_pos c1]
      rw [← eσ]
      simp only [hob, obn, L _ _ _ (show len + 4 ≤ 2000 by omega), ocv, L _ _ _ (show len + 4 + 4 ≤ 2000 by omega), L _ _ _ (show len + 4 + 4 + 4 ≤ 2000 by omega), L _ _ _ (show len + 4 + 4 + 4 + 4 ≤ 2000 by omega), L _ _ _ (show len + 4 + 4 + 4 + 4 + 4 ≤ 2000 by omega)]
      rw [eσ]
      simp only [updN_app, bs4_len, Nat.add_assoc, Nat.reduceAdd]
    · unfold b_feed
      rw [hl2, if_pos c2]
      have h9 := zfeed_ok (call := zF y qs ks T n') (y := y) (qs := qs) (ks := ks) (x1 := a 1) (x2 := a 2) (x3 := a 3) (x4 := a 4) (x5 := a 5) (τ := τ) (g := τ.2.2.1 0) hT (show len + 20 ≤ 2000 by omega)
      rw [eτ] at h9
      exact h9
    · have hlt : (nI (len + 20)).toInt = ((len + 20 : Nat) : Int) := nI_toInt (by omega)
      refine ⟨fs.set 1 (.int (nI (len + 20))), fm, ta, oa, ma, No, updN ft len (bs4 (a 1) ++ (bs4 (a 2) ++ (bs4 (a 3) ++ (bs4 (a 4) ++ bs4 (a 5))))), go, ⟨lTape_x, by rw [List.length_set]; exact hlen⟩, ⟨?_, ?_, ?_, ?_, ?_, ?_⟩, ⟨lTape_ta nta, ?_, ?_, ?_⟩, ⟨by rw [lTape_oth noa o6]; exact o1, o2, o3, o4, o5, o6⟩, ⟨by rw [lTape_oth m4 nma]; exact m1, m2, m3, m4⟩⟩
      · rw [List.getElem?_set_ne (by decide)]; exact f0
      · rw [List.getElem?_set_self (by omega)]; rfl
      · rw [List.getElem?_set_ne (by decide)]; exact f5
      · rw [List.getElem?_set_ne (by decide)]; exact f6
      · rw [List.getElem?_set_ne (by decide)]; exact f8
      · rw [List.getElem?_set_ne (by decide)]; exact f12
      · show 0 ≤ (nI (len + 20)).toInt
        rw [hlt]; omega
      · show (nI (len + 20)).toInt ≤ 2000
        rw [hlt]; omega
      · intro j hj
        have hj2 : (j : Int) < (nI (len + 20)).toInt := hj
        rw [hlt] at hj2
        refine updN_same _ _ _ len (fun i hi => t4 i ?_) j (by simp [bs4]; omega)
        rw [hl2, nI_toInt (by omega)]
        omega
    · refine ⟨fun k hk => ?_, fun q hq hq2 => lTape_oth hq (fun e => hq2 ?_), rfl, fun k hk => ?_, rfl, fun i hi => ?_, rfl⟩
      · rw [ofd_at lTape_x, ofd_at h1, List.getElem?_set_ne (Ne.symm hk)]
      · rw [ofd_at h1, f0, e]
      · unfold zTape
        rw [zI_ne hk]; rfl
      · show (zA τ 0 _).2.2.1 i = _
        rw [zA_ne hi]
  · have c1 : ¬ nI len ≤ (1980 : Int32) := by rw [← nI1980]; exact nI_ge (a := 1980) (b := len) (by omega) (by omega)
    have c2 : ¬ nI len + 20 ≤ (2000 : Int32) := by
      have h9 := nI_ge (a := 2000) (b := len + 20) (by omega) (by omega)
      rw [← nI_add, nI2000, nI20] at h9
      exact h9
    refine ⟨σ, τ, lcpI_ok (r := 0) (hO.trans ?_) (hZ.trans ?_), h0, lKeep.rf _ _ _⟩
    · unfold ob_X12_feed
      rw [ofd_at h1, f1, hl2]
      simp only [ovi, obn, if_neg c1]
    · unfold b_feed
      rw [hl2, if_neg c2]
end LRF
