/-! the reference's typeOfCall: its first loop -/
section ROL
variable {ks : Nat → Nat} {qs : List Nat} {Tt h0 k0 len cnt lo N S P A c0 am n m B q d1 : Nat} {Z : List (Nat × Nat)} {L env W : List Nat} {V τ0 τ : zSt} {s s' : mS} {g0 : gG} {T0 : Nat → mF} {kk pp ee f : Nat → Int32} {Q Q' : List (Int32 × mF)} {v x3 : Int32} {t : mF}
theorem rS.sub (G : rS k0 Z L env W Q τ0 g0 T0 c0 am B s τ) (h : ∀ x, x ∈ Q' → x ∈ Q) : rS k0 Z L env W Q' τ0 g0 T0 c0 am B s τ := by
  obtain ⟨g', T', c', h1, h2, h3, h4, h5, h6⟩ := G
  exact ⟨g', T', c', h1, h2, h3, h4, fun q hq => h5 q (h q hq), h6⟩
theorem rS.bad (G : rS k0 Z L env W Q τ0 g0 T0 c0 am B s τ) : mSat s.1 ↔ τ.1 11 = 0 := by
  obtain ⟨g', T', c', h1, -⟩ := G
  exact h1.1.bad
theorem rS.no (G : rS k0 Z L env W Q τ0 g0 T0 c0 am B s τ) (hs : ¬ mSat s.1) (hl : mLe [] s s') : rS k0 Z L env W Q τ0 g0 T0 c0 am B s' τ := by
  obtain ⟨g', T', c', h1, h2, h3, h4, h5, h6, h7, h8⟩ := G
  exact ⟨g', T', c', ⟨h1.1.no hs hl, fun _ _ => dY.no (hl.ns hs)⟩, h2, h3, h4, fun q hq z => absurd z (hl.ns hs), fun _ _ => dY.no (hl.ns hs), h7, h8.ns (hl.ns hs)⟩
/-- one turn -/
theorem r_op1 {k fu : Nat} (H : rH Tt len cnt lo N S P A L V kk pp ee f) (fm : tFm V τ0) (hm : m < 2100) (h11 : V.2.2.1 11 m = nI q) (h9 : V.2.2.1 9 m = nI d1) (hd : d1 < cnt) (hkq : k < q) (hq : q < 2100) (hs : mSat s.1) (hc : c0 + B + 3 ≤ 9000) (hv : (v, t) ∈ Q) (G : rS k0 Z L env W Q τ0 g0 T0 c0 am B s τ) : ∃ τ2 v2, l_typeOfCall_22 Tt (zF h0 qs ks Tt (n + 2)) h0 qs ks (fu + 1) (nI m) v x3 (nI k) τ = l_typeOfCall_22 Tt (zF h0 qs ks Tt (n + 2)) h0 qs ks fu (nI m) v2 x3 (nI (k + 1)) τ2 ∧ rS k0 Z L env W ((v2, fun α => yR (t α)) :: Q) τ0 g0 T0 c0 (am + 1) (B + 3) (mAdd (fun α => yIs (t α)) (pp d1) s) τ2 := by
  have fm' := fm.tr G.fm
  have bd := G.bad.mp hs
  refine G.val (R := fun τ2 v2 => l_typeOfCall_22 Tt (zF h0 qs ks Tt (n + 2)) h0 qs ks (fu + 1) (nI m) v x3 (nI k) τ = l_typeOfCall_22 Tt (zF h0 qs ks Tt (n + 2)) h0 qs ks fu (nI m) v2 x3 (nI (k + 1)) τ2) (mLe.add _ _ s) rfl (fun g T c hc' hx hQ => ?_)
  obtain ⟨x, rfl, y1⟩ := hQ _ hv hs
  obtain ⟨τ1, r, g1, T1, c1, e1, r9, f1, f31, b1, xe, hc1, cs⟩ := hx.1.opn (h0 := h0) (qs := qs) (ks := ks) (n := n) (pl := pp d1) H.1.1 hs (by omega) y1 (fun r6 s4 => j_typeOfCall_93 Tt (zF h0 qs ks Tt (n + 2)) h0 qs ks (l_typeOfCall_22 Tt (zF h0 qs ks Tt (n + 2)) h0 qs ks fu) (nI m) x3 (nI k) r6 s4)
  have hl : cnt ≤ 2000 := by have := H.2.1.2.2.2.2.2.2; omega
  have e11 : τ.2.2.1 11 m = nI q := (fm'.r (by omega) m).trans h11
  have e9 : τ1.2.2.1 9 m = nI d1 := ((fm'.tr f1).r (by omega) m).trans h9
  have e4 : τ1.2.2.1 4 d1 = pp d1 := ((fm'.tr f1).r (by omega) d1).trans (H.2.1.pl (by omega))
  have go : l_typeOfCall_22 Tt (zF h0 qs ks Tt (n + 2)) h0 qs ks (fu + 1) (nI m) (nI x) x3 (nI k) τ = j_typeOfCall_93 Tt (zF h0 qs ks Tt (n + 2)) h0 qs ks (l_typeOfCall_22 Tt (zF h0 qs ks Tt (n + 2)) h0 qs ks fu) (nI m) x3 (nI k) (nI r) τ1 := by
    rw [← e1, l_typeOfCall_22]
    simp only [zgd, zin_n hm (by decide), if_true, nI_clamp (show m < 2 ^ 31 by omega), e11]
    rw [if_neg (nI_ge hkq (by omega)), if_pos bd]
  rcases cs with ⟨k4, X, sat, l, r', w1, w2, w3, w4⟩ | ⟨k4, X⟩
  · refine ⟨τ1, nI r', g1, T1, c1, ?_, X, hc1, f1, xe, f31, fun _ => ⟨r', rfl, w4⟩⟩
    rw [go, j_typeOfCall_93]
    simp only [zgd, zin_n r9 (by decide), if_true, nI_clamp (show r < 2 ^ 31 by omega), k4]
    rw [j_typeOfCall_120]
    simp only [zgd, zin_n r9 (by decide), if_true, nI_clamp (show r < 2 ^ 31 by omega), w2, nI_p1]
  · have ns : ¬ mSat (mAdd (fun α => yIs (t α)) (pp d1) s).1 := fun z => by
      have := X.bad.mp z
      rw [zIn _ _ (by decide), zIe] at this
      cases this
    refine ⟨zI (zI τ1 11 4) 12 (pp d1), τ1.2.2.1 36 r, g1, T1, c1, ?_, X.mo (Nat.le_succ _), hc1, f1.tr ⟨fun k a b _ _ => by rw [zIn _ _ b, zIn _ _ a], rfl, fun _ _ => rfl, rfl, fnK.sm (by rw [zIn _ _ (by decide), zIn _ _ (by decide)]) rfl rfl rfl⟩, xe, f31, fun z => absurd z ns⟩
    rw [go, j_typeOfCall_93]
    simp only [zgd, zin_n r9 (by decide), if_true, nI_clamp (show r < 2 ^ 31 by omega)]
    rw [if_neg k4]
    simp only [zin_n hm (by decide), if_true, nI_clamp (show m < 2 ^ 31 by omega), e9, zin_n (show d1 < 2010 by omega) (by decide), nI_clamp (show d1 < 2 ^ 31 by omega), e4]
    rw [r_flt (n := n + 1), zcv_at]
    unfold rFl
    rw [if_pos b1, j_typeOfCall_120]
    simp only [zgd, zin_n r9 (by decide), if_true, nI_clamp (show r < 2 ^ 31 by omega), nI_p1]
    rfl
/-- the first loop -/
theorem r_opL (H : rH Tt len cnt lo N S P A L V kk pp ee f) (fm : tFm V τ0) (hm : m < 2100) (h11 : V.2.2.1 11 m = nI q) (h9 : V.2.2.1 9 m = nI d1) (hd : d1 < cnt) (hq : q < 2100) : ∀ (i k fu am B : Nat) (τ : zSt) (s : mS) (v : Int32) (t : mF) (Q : List (Int32 × mF)), k + i = q → i < fu → c0 + B + 3 * i ≤ 9000 → rS k0 Z L env W ((v, t) :: Q) τ0 g0 T0 c0 am B s τ → ∃ τ', l_typeOfCall_22 Tt (zF h0 qs ks Tt (n + 2)) h0 qs ks fu (nI m) v x3 (nI k) τ = j_typeOfCall_134 Tt (zF h0 qs ks Tt (n + 2)) h0 qs ks (nI m) x3 τ' ∧ rS k0 Z L env W Q τ0 g0 T0 c0 (am + i) (B + 3 * i) (mOp (pp d1) i t s) τ'
  | 0, k, fu, am, B, τ, s, v, t, Q, e, hf, hc, G => by
    obtain ⟨fu, rfl⟩ : ∃ f', fu = f' + 1 := ⟨fu - 1, by omega⟩
    have e11 : τ.2.2.1 11 m = nI q := G.row fm (by omega) h11
    refine ⟨τ, ?_, G.sub (fun x hx => List.mem_cons_of_mem _ hx)⟩
    rw [l_typeOfCall_22]
    simp only [zgd, zin_n hm (by decide), if_true, nI_clamp (show m < 2 ^ 31 by omega), e11]
    rw [if_pos (nI_le (by omega) (by omega))]
  | i + 1, k, fu, am, B, τ, s, v, t, Q, e, hf, hc, G => by
    obtain ⟨fu, rfl⟩ : ∃ f', fu = f' + 1 := ⟨fu - 1, by omega⟩
    by_cases hs : mSat s.1
    · obtain ⟨τ2, v2, e2, G2⟩ := r_op1 (h0 := h0) (qs := qs) (ks := ks) (n := n) (fu := fu) (x3 := x3) H fm hm h11 h9 hd (show k < q by omega) hq hs (by omega) (List.mem_cons_self ..) G
      obtain ⟨τ3, e3, G3⟩ := r_opL H fm hm h11 h9 hd hq i (k + 1) fu (am + 1) (B + 3) τ2 _ v2 _ Q (by omega) (by omega) (by omega) (G2.sub (fun x hx => by
        rcases List.mem_cons.mp hx with z | z
        · rw [z]; exact List.mem_cons_self ..
        · exact List.mem_cons_of_mem _ (List.mem_cons_of_mem _ z)))
      exact ⟨τ3, e2.trans e3, G3.mo (by omega) (by omega)⟩
    · have e11 : τ.2.2.1 11 m = nI q := G.row fm (by omega) h11
      refine ⟨τ, ?_, ((G.no hs (mLe.op (pp d1) (i + 1) t s)).sub (fun x hx => List.mem_cons_of_mem _ hx)).mo (by omega) (by omega)⟩
      rw [l_typeOfCall_22]
      simp only [zgd, zin_n hm (by decide), if_true, nI_clamp (show m < 2 ^ 31 by omega), e11]
      rw [if_neg (nI_ge (show k < q by omega) (by omega)), if_neg (fun z => hs (G.bad.mpr z))]
end ROL
