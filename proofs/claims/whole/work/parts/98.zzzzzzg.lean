/-! the reference's typeOfCall: ARGS that are S's -/
section RA3
variable {ks : Nat → Nat} {qs : List Nat} {Tt h0 k0 len cnt lo N S P A aM c0 am n m B : Nat} {Z : List (Nat × Nat)} {L env W W' : List Nat} {V τ0 τ : zSt} {s s' : mS} {g0 : gG} {T0 : Nat → mF} {kk pp ee f : Nat → Int32} {Q Q' : List (Int32 × mF)} {d : Nat × Nat × Nat × tS × tS} {z : Unit} {a b : tT}
theorem rS.nmq {w : Nat} (H : rH Tt len cnt lo N S P A L V kk pp ee f) (G : rS k0 Z L env W Q τ0 g0 T0 c0 am B s τ) (hu : rUs f pp ee (V.2.2.1 32) L env w) : ∃ y, (V.2.2.1 32 w = nI y ∧ y < 700) ∧ rS k0 Z L env W ((τ.2.2.1 31 y, mNm f pp ee env w s) :: Q) τ0 g0 T0 c0 am B s τ := by
  obtain ⟨y, u, y1, y2, y3⟩ := hu
  have hy : y < 700 := by
    have := H.2.2.1
    by_cases z : y < L.length
    · omega
    · rw [List.getElem?_eq_none (by omega)] at y2; cases y2
  obtain ⟨j, -, ej⟩ := nFind_mem y3
  obtain ⟨g', T', c', h1, h2, h3, h4, h5, h6⟩ := G
  refine ⟨y, ⟨y1, hy⟩, g', T', c', h1, h2, h3, h4, fun q hq z => ?_, h6⟩
  rcases List.mem_cons.mp hq with e | e
  · rw [e]
    have em : mNm f pp ee env w s = s.2.2.1 u := by unfold mNm; rw [y3]; rfl
    show ∃ x, τ.2.2.1 31 y = nI x ∧ gY g' T' s x (mNm f pp ee env w s)
    rw [em]
    exact h1.2 u (List.mem_of_getElem? ej) y y2 z
  · exact h5 q e z
theorem r_ar33 (H : rH Tt len cnt lo N S P A L V kk pp ee f) (h3 : isN d.2.2.2.1.2 = true → (pp d.1 = pp (d.2.2.2.1.2.headD (0, false, 0)).2.2 ↔ d.2.1 ≠ 1)) (Ib : rArg ks qs Tt h0 k0 cnt lo N S P A aM L V kk pp ee f b) : rArg ks qs Tt h0 k0 cnt lo N S P A aM L V kk pp ee f (.inner 33 d z a b) := fun env τ0 τ s g0 T0 c0 am B Z W Q v m x q k n fu ht wf o3 wo dj nd pw fm hm h10 h11 hq G hv hi hW hZ hc ha hn hf => by
  obtain ⟨fu, rfl⟩ : ∃ f', fu = f' + 1 := ⟨fu - 1, by omega⟩
  obtain ⟨n, rfl⟩ : ∃ n', n = n' + 1 := ⟨n - 1, by omega⟩
  have hqn := rTr_qn _ _ _ wf ht
  have hqn : x + q = x + k + (tQn b + 1) := hqn
  have wf' : tWf kk cnt b 2 ∧ pOk cnt d.2.2.2.1.2 ∧ d.2.2.2.2.2 = [] ∧ a = .leaf := by
    rcases wf with ⟨h, _⟩ | ⟨_, h1, wb, hg⟩ | ⟨h, _⟩
    · cases h
    · rcases hg with ⟨_, h2, h3⟩ | ⟨h, _⟩ | ⟨h, _⟩
      · exact ⟨wb, h2, h1, h3⟩
      · omega
      · omega
    · cases h
  obtain ⟨wb, wp, s2, rfl⟩ := wf'
  obtain ⟨⟨t0, t1, t2, xs, t3, ts⟩, tb⟩ := ht
  have hc : c0 + B + ((sEv d.2.2.2.1.2).length + 1 + tC b) ≤ 9000 := hc
  have ha : am + (0 + 0 + tA b) ≤ aM := ha
  have hn : aM + 8 + (max 0 (tDr b)) ≤ n + 1 := hn
  have hf : tQn b + 1 < fu + 1 := hf
  have wo : rWs f pp ee (V.2.2.1 32) L env (sEv d.2.2.2.1.2) ∧ rWs f pp ee (V.2.2.1 32) L env (sEv d.2.2.2.2.2) ∧ True ∧ rWo f pp ee (V.2.2.1 32) L b env := wo
  have dj : ∀ u, u ∈ env → u ∉ sEv d.2.2.2.1.2 ++ (sEv d.2.2.2.2.2 ++ ([] ++ tEv b)) := dj
  have nd : (sEv d.2.2.2.1.2 ++ (sEv d.2.2.2.2.2 ++ ([] ++ tEv b))).Nodup := nd
  have se : sEv ([] : List tP) = [] := rfl
  rw [s2, se, List.nil_append, List.nil_append] at dj nd
  have nb := (List.nodup_append.mp nd).2.1
  have hW : ∀ u, u ∈ W → u ∉ [] ++ tW b := hW
  have pw : nPw (nE V b (x + (k + 1)) 0) := pw
  have hZ : ∀ p, p ∈ Z → ∀ r, r ∈ nE V b (x + (k + 1)) 0 → p.1 ≠ r.1 ∧ p.2 ≠ r.2 := hZ
  have xA : x + k < 2100 := by have := H.1.2.2.2.2; omega
  have e11 : τ.2.2.1 11 m = nI q := G.row fm (by omega) h11
  have e10 : τ.2.2.1 10 m = nI x := G.row fm (by omega) h10
  have e19 : τ.2.2.1 19 (x + k) = 0 := G.row fm (by omega) t1
  have e20 : τ.2.2.1 20 (x + k) = nI xs := G.row fm (by omega) t3
  have e21 : τ.2.2.1 21 (x + k) = pp d.1 := G.row fm (by omega) t2
  by_cases hs : mSat s.1
  · have bd := G.bad.mp hs
    obtain ⟨r, l, r', e42, hr, ro, G1⟩ := G.rl (h0 := h0) (qs := qs) (ks := ks) (n := n) H.1.1 hs hv (fun α hα => hi 0 (Nat.succ_pos _) α hα)
    have fmτ := fm.tr G.fm
    have e48 := r_isN (h0 := h0) (qs := qs) (ks := ks) (Tt := Tt) (n := n) H.1.2.2.1 H.1.2.2.2.1 o3.1 ((fmτ.at lo N S P A).sm ts (Nat.le_refl _) (Nat.le_refl _))
    -- an S that is no NAME
    have gen : ∀ (R : mS × mF) τ2 v2 B', rS k0 Z L env W ((v2, R.2) :: (nI l, fun α => yL (s.2.2.2.2 α)) :: (nI r', fun α => yR (s.2.2.2.2 α)) :: Q) τ0 g0 T0 c0 am (B + B') R.1 τ2 → fnK τ τ2 → mLe [] s R.1 → B' ≤ (sEv d.2.2.2.1.2).length + 1 → l_typeOfCall_139 Tt (zF h0 qs ks Tt (n + 1)) h0 qs ks (fu + 1) (nI m) v (nI k) τ = j_typeOfCall_323 Tt (zF h0 qs ks Tt (n + 1)) h0 qs ks (l_typeOfCall_139 Tt (zF h0 qs ks Tt (n + 1)) h0 qs ks fu) (nI m) (nI k) (nI r) (nI (x + k)) v2 τ2 → ∃ τ' v', l_typeOfCall_139 Tt (zF h0 qs ks Tt (n + 1)) h0 qs ks (fu + 1) (nI m) v (nI k) τ = some (some (.int v'), τ') ∧ rS k0 (Z ++ nE V b (x + (k + 1)) 0) L env (W ++ tW b) [(v', mRs (tQn b + 1) s.2.2.2.2)] τ0 g0 T0 c0 (am + (0 + 0 + tA b)) (B + ((sEv d.2.2.2.1.2).length + 1 + tC b)) (mE f pp ee b env (mCu (fun α => yR (s.2.2.2.2 α)) (mMu R.2 (fun α => yL (s.2.2.2.2 α)) (pp d.1) R.1))).1 τ' := fun R τ2 v2 B' G2 fk hl hB e => by
      have fk2 := fk.2 r ro.1 ro.2.1
      obtain ⟨τ3, v3, e3, G3⟩ := r_323 (h0 := h0) (qs := qs) (ks := ks) (n := n) (m := m) (k := k) (r := r) (l := l) (r' := r') (x6 := x + k) (w := d.1) (K := l_typeOfCall_139 Tt (zF h0 qs ks Tt (n + 1)) h0 qs ks fu) H fm G2 (List.mem_cons_self ..) (List.mem_cons_of_mem _ (List.mem_cons_self ..)) (List.mem_cons_of_mem _ (List.mem_cons_of_mem _ (List.mem_cons_self ..))) hr (fun _ => ⟨by have := fk.1; omega, fk2.1, fk2.2.1.trans ro.2.2.1, fk2.2.2.trans ro.2.2.2⟩) xA t2 (by omega)
      have G4 := G3.cg (s' := mCu (fun α => yR (s.2.2.2.2 α)) (mMu R.2 (fun α => yL (s.2.2.2.2 α)) (pp d.1) R.1)) rfl (Nat.le_refl _) rfl (fun _ _ => rfl)
      obtain ⟨τ5, v5, e5, G5⟩ := Ib env τ0 τ3 _ g0 T0 c0 _ _ Z W _ v3 m x q (k + 1) (n + 1) fu tb wb o3.2.2.2 wo.2.2.2 (fun u hu y => dj u hu (List.mem_append_right _ y)) nb pw fm hm h10 h11 hq G4 (List.mem_cons_self ..) (mRs_up (t := b) (fun i h => hi i h) (hl.tr (mLe.mu _ _ _ _)) rfl) hW hZ (by omega) (by omega) (by omega) (by omega)
      refine ⟨τ5, v5, by rw [e, e3, e5], ?_⟩
      exact G5.mo (by omega) (by omega)
    have go303 : (∀ X : zRs, (if b01 (isN d.2.2.2.1.2) = 0 then j_typeOfCall_303 Tt (zF h0 qs ks Tt (n + 1)) h0 qs ks (l_typeOfCall_139 Tt (zF h0 qs ks Tt (n + 1)) h0 qs ks fu) (nI m) (nI k) (nI r) (nI (x + k)) τ else X) = j_typeOfCall_303 Tt (zF h0 qs ks Tt (n + 1)) h0 qs ks (l_typeOfCall_139 Tt (zF h0 qs ks Tt (n + 1)) h0 qs ks fu) (nI m) (nI k) (nI r) (nI (x + k)) τ) ∨ True := Or.inr trivial
    obtain ⟨τ1, e1, H1⟩ := G1.sum (h0 := h0) (qs := qs) (ks := ks) (n := n + 1) H fm wp o3.1 wo.1 ts (by omega) (by omega)
    obtain ⟨τ2, v2, e2, G2⟩ := H1.pla (h0 := h0) (qs := qs) (ks := ks) (Tt := Tt) (n := n) (k := 0) (by decide) (by omega)
    have e2 : zF h0 qs ks Tt (n + 1) 40 [.ref h0, .int 1, .int (-1), .int (-1)] τ1 = _ := e2
    obtain ⟨g', T', c', hc', R⟩ := G.re
    obtain ⟨τ1', e1', R1⟩ := R.sum (h0 := h0) (qs := qs) (ks := ks) (n := n + 1) H fmτ wp o3.1 wo.1 ts (by omega) (by omega)
    have e1e : τ1' = τ1 := by rw [e1] at e1'; exact ((Prod.mk.inj (Option.some.inj e1')).2).symm
    subst e1e
    obtain ⟨τ2', v2', e2', R2⟩ := R1.pla (h0 := h0) (qs := qs) (ks := ks) (Tt := Tt) (n := n) (k := 0) (by decide) (by omega)
    have e2' : zF h0 qs ks Tt (n + 1) 40 [.ref h0, .int 1, .int (-1), .int (-1)] τ1' = _ := e2'
    have e2e : τ2' = τ2 := by rw [e2] at e2'; exact ((Prod.mk.inj (Option.some.inj e2')).2).symm
    subst e2e
    have e303 : j_typeOfCall_303 Tt (zF h0 qs ks Tt (n + 1)) h0 qs ks (l_typeOfCall_139 Tt (zF h0 qs ks Tt (n + 1)) h0 qs ks fu) (nI m) (nI k) (nI r) (nI (x + k)) τ = j_typeOfCall_323 Tt (zF h0 qs ks Tt (n + 1)) h0 qs ks (l_typeOfCall_139 Tt (zF h0 qs ks Tt (n + 1)) h0 qs ks fu) (nI m) (nI k) (nI r) (nI (x + k)) v2 τ2' := by
      unfold j_typeOfCall_303
      simp only [zgd, zin_n xA (by decide), if_true, nI_clamp (show x + k < 2 ^ 31 by omega), e20]
      rw [e1, zcv_at, e2, zci_at]
    have no : (isN d.2.2.2.1.2 = false ∨ (isN d.2.2.2.1.2 = true ∧ d.2.1 = 1)) → ∃ τ' v', l_typeOfCall_139 Tt (zF h0 qs ks Tt (n + 1)) h0 qs ks (fu + 1) (nI m) v (nI k) τ = some (some (.int v'), τ') ∧ rS k0 (Z ++ nE V b (x + (k + 1)) 0) L env (W ++ tW b) [(v', mRs (tQn b + 1) s.2.2.2.2)] τ0 g0 T0 c0 (am + (0 + 0 + tA b)) (B + ((sEv d.2.2.2.1.2).length + 1 + tC b)) (mE f pp ee b env (mCu (fun α => yR (s.2.2.2.2 α)) (mMu (mB 0) (fun α => yL (s.2.2.2.2 α)) (pp d.1) (mPs f pp ee env d.2.2.2.1.2 s)))).1 τ' := fun hno => by
      refine gen (mPs f pp ee env d.2.2.2.1.2 s, mB 0) τ2' v2 ((sEv d.2.2.2.1.2).length + 1) (G2.mo (by omega) (Nat.le_refl _)) R2.fm.2.2.2.2 (mLe.ps env _ s) (Nat.le_refl _) ?_
      rw [← e303, l_typeOfCall_139]
      simp only [zgd, zin_n hm (by decide), if_true, nI_clamp (show m < 2 ^ 31 by omega), e11]
      rw [if_neg (nI_ge (show k < q by omega) (by omega)), if_pos bd, e42, zci_at]
      simp only [e10, nI_add, zin_n xA (by decide), if_true, nI_clamp (show x + k < 2 ^ 31 by omega), e19, e20]
      rw [if_neg (by decide), if_pos (by decide), e48, zci_at]
      rcases hno with hN | ⟨hN, hd⟩
      · rw [hN, if_pos (by decide)]
      · rw [if_neg (by rw [hN]; decide)]
        obtain ⟨q1, q2, q3⟩ := of_decide_eq_true hN
        have h3 := h3 hN
        obtain ⟨p, ep⟩ : ∃ p, d.2.2.2.1.2 = [p] := by
          match hh : d.2.2.2.1.2, q1 with
          | [p], _ => exact ⟨p, rfl⟩
        rw [ep] at q2 q3 wp h3
        have h3 : pp d.1 = pp p.2.2 ↔ d.2.1 ≠ 1 := h3
        have q2 : p.1 = 1 := q2
        obtain ⟨ts0, -, i0, i1, i2, i3, i4⟩ := ts
        obtain ⟨r1, r2, r3⟩ := i4 0 p (by rw [ep]; rfl)
        rw [Nat.add_zero] at r3
        rw [ep] at i3
        have i3 : i0 + 1 ≤ P := i3
        have hi0 : i0 < 2100 := by have := H.1.2.2.2.1; omega
        have hxs : xs < 2100 := by have := H.1.2.2.1; omega
        have hp : p.2.2 < cnt := (wp p (List.mem_singleton_self _)).2 (by omega)
        have hp' : p.2.2 < 2010 := by have := H.2.1.2.2.2.2.2.2; omega
        have f13 : τ.2.2.1 13 xs = nI i0 := G.row fm (by omega) i1
        have f18 : τ.2.2.1 18 i0 = nI p.2.2 := G.row fm (by omega) r3
        have f4 : τ.2.2.1 4 p.2.2 = pp p.2.2 := (fmτ.r (by omega) p.2.2).trans (H.2.1.pl (by omega))
        simp only [e20, zin_n hxs (by decide), if_true, nI_clamp (show xs < 2 ^ 31 by omega), f13, zin_n hi0 (by decide), nI_clamp (show i0 < 2 ^ 31 by omega), f18, zin_n hp' (by decide), nI_clamp (show p.2.2 < 2 ^ 31 by omega), f4, e21]
        rw [if_neg (fun y => h3.mp y hd)]
    show ∃ τ' v', _ ∧ rS k0 (Z ++ nE V b (x + (k + 1)) 0) L env (W ++ tW b) [(v', mRs (tQn b + 1) s.2.2.2.2)] τ0 g0 T0 c0 (am + (0 + 0 + tA b)) (B + ((sEv d.2.2.2.1.2).length + 1 + tC b)) (mE f pp ee b env (mCu (fun α => yR (s.2.2.2.2 α)) (mMu (if d.2.1 = 1 then (mPs f pp ee env d.2.2.2.1.2 s, mB 0) else mSu f pp ee env d.2.2.2.1.2 s).2 (fun α => yL (s.2.2.2.2 α)) (pp d.1) (if d.2.1 = 1 then (mPs f pp ee env d.2.2.2.1.2 s, mB 0) else mSu f pp ee env d.2.2.2.1.2 s).1))).1 τ'
    by_cases hd : d.2.1 = 1
    · rw [if_pos hd]
      cases hN : isN d.2.2.2.1.2 with
      | false => exact no (Or.inl hN)
      | true => exact no (Or.inr ⟨hN, hd⟩)
    · rw [if_neg hd]
      unfold mSu
      cases hN : isN d.2.2.2.1.2 with
      | false =>
        rw [if_neg (by decide)]
        exact no (Or.inl hN)
      | true =>
        rw [if_pos rfl]
        obtain ⟨q1, q2, q3⟩ := of_decide_eq_true hN
        have h3 := h3 hN
        obtain ⟨p, ep⟩ : ∃ p, d.2.2.2.1.2 = [p] := by
          match hh : d.2.2.2.1.2, q1 with
          | [p], _ => exact ⟨p, rfl⟩
        have ev : sEv [p] = [p.2.2] := by
          rw [ep] at q2
          have q2 : p.1 = 1 := q2
          unfold sEv sNm
          rw [List.filter_cons_of_pos (by simp; omega)]
          rfl
        obtain ⟨y, ⟨y1, hy⟩, G2⟩ := G1.nmq (w := p.2.2) H (wo.1 p.2.2 (by rw [ep, ev]; exact List.mem_singleton_self _))
        refine gen (s, mNm f pp ee env (d.2.2.2.1.2.headD (0, false, 0)).2.2 s) τ (τ.2.2.1 31 y) 0 (by rw [ep]; exact G2) (tFm.rf τ).2.2.2.2 (mLe.rf [] s) (Nat.zero_le _) ?_
        rw [l_typeOfCall_139]
        simp only [zgd, zin_n hm (by decide), if_true, nI_clamp (show m < 2 ^ 31 by omega), e11]
        rw [if_neg (nI_ge (show k < q by omega) (by omega)), if_pos bd, e42, zci_at]
        simp only [e10, nI_add, zin_n xA (by decide), if_true, nI_clamp (show x + k < 2 ^ 31 by omega), e19, e20]
        rw [if_neg (by decide), if_pos (by decide), e48, zci_at, if_neg (by rw [hN]; decide)]
        rw [ep] at q2 q3 wp h3
        have h3 : pp d.1 = pp p.2.2 ↔ d.2.1 ≠ 1 := h3
        have q2 : p.1 = 1 := q2
        obtain ⟨ts0, -, i0, i1, i2, i3, i4⟩ := ts
        obtain ⟨r1, r2, r3⟩ := i4 0 p (by rw [ep]; rfl)
        rw [Nat.add_zero] at r3
        rw [ep] at i3
        have i3 : i0 + 1 ≤ P := i3
        have hi0 : i0 < 2100 := by have := H.1.2.2.2.1; omega
        have hxs : xs < 2100 := by have := H.1.2.2.1; omega
        have hp : p.2.2 < cnt := (wp p (List.mem_singleton_self _)).2 (by omega)
        have hp' : p.2.2 < 2010 := by have := H.2.1.2.2.2.2.2.2; omega
        have f13 : τ.2.2.1 13 xs = nI i0 := G.row fm (by omega) i1
        have f18 : τ.2.2.1 18 i0 = nI p.2.2 := G.row fm (by omega) r3
        have f4 : τ.2.2.1 4 p.2.2 = pp p.2.2 := (fmτ.r (by omega) p.2.2).trans (H.2.1.pl (by omega))
        have f32 : τ.2.2.1 32 p.2.2 = nI y := G.row fm (by omega) y1
        simp only [e20, zin_n hxs (by decide), if_true, nI_clamp (show xs < 2 ^ 31 by omega), f13, zin_n hi0 (by decide), nI_clamp (show i0 < 2 ^ 31 by omega), f18, zin_n hp' (by decide), nI_clamp (show p.2.2 < 2 ^ 31 by omega), f4, e21, f32, zin_n hy (by decide), nI_clamp (show y < 2 ^ 31 by omega)]
        rw [if_pos (h3.mpr hd)]
  · refine ⟨τ, v, ?_, (G.nx hs ((mLe.e (.inner 33 d z .leaf b) env s).mo (fun u hu => List.mem_append_right W hu)) (fun u hu => List.mem_append_left _ hu) (fun p hp => List.mem_append_left _ hp)).mo (Nat.le_add_right _ _) (Nat.le_add_right _ _)⟩
    rw [l_typeOfCall_139]
    simp only [zgd, zin_n hm (by decide), if_true, nI_clamp (show m < 2 ^ 31 by omega), e11]
    rw [if_neg (nI_ge (show k < q by omega) (by omega)), if_neg (fun y => hs (G.bad.mpr y))]
/-- a call -/
theorem rt_15 (H : rH Tt len cnt lo N S P A L V kk pp ee f) (h15 : tQn a ≤ 4) (Ia : rArg ks qs Tt h0 k0 cnt lo N S P A aM L V kk pp ee f a) : rTyp ks qs Tt h0 k0 cnt lo N S P A aM L V kk pp ee f (.inner 15 d z a b) := fun env τ s g T c am m n ht fm hx hs hc ha hn => by
  obtain ⟨tr, wf, o3, wo, dj, nd, pw⟩ := ht
  obtain ⟨n, rfl⟩ : ∃ n', n = n' + 1 := ⟨n - 1, by omega⟩
  have G0 := rS.rf hx
  obtain ⟨t0, t1, x, q, ⟨t2, t3⟩, ta⟩ := tr
  have hm : m < 2100 := by have := t0.1.2; have := H.1.2.1; omega
  have h6 : τ.2.2.1 6 m = nI 15 := G0.row fm (by omega) t0.2.1
  have wf' : d.1 < cnt ∧ tWf kk cnt a 2 := by
    rcases wf with ⟨h, _⟩ | ⟨h, _⟩ | ⟨_, h⟩
    · cases h
    · cases h
    · rcases h with ⟨h, _⟩ | ⟨h, _⟩ | ⟨h, _⟩ | ⟨h, _⟩ | ⟨h, _⟩ | ⟨h, _⟩ | ⟨h, _⟩ | ⟨h, _⟩ | ⟨h, _⟩ | ⟨h, _⟩ | ⟨_, h⟩ | ⟨h, _⟩ | ⟨h, _⟩ | ⟨h, _⟩
      all_goals first | exact h | (exfalso; omega)
  obtain ⟨w1, wa⟩ := wf'
  have hc : c + (3 * tQn a + tC a) ≤ 9000 := hc
  have ha : am + (tQn a + tA a + tA b) ≤ aM := ha
  have hn : aM + 7 + (max (tDr a) (tDr b) + 3) ≤ n + 1 := hn
  have wo : rUs f pp ee (V.2.2.1 32) L env d.1 ∧ rWo f pp ee (V.2.2.1 32) L a env := wo
  have dj : ∀ u, u ∈ env → u ∉ [d.1] ++ tEv a := dj
  have nd : ([d.1] ++ tEv a).Nodup := nd
  have na := (List.nodup_append.mp nd).2.1
  have hqn := rTr_qn _ _ _ wa ta
  have hl : cnt ≤ 2000 := by have := H.2.1.2.2.2.2.2.2; omega
  have hq : q < 2100 := by omega
  obtain ⟨n, rfl⟩ : ∃ n', n = n' + 3 := ⟨n - 3, by omega⟩
  obtain ⟨y, ⟨y1, hy⟩, G1⟩ := G0.nmq (w := d.1) H wo.1
  have h9 : τ.2.2.1 9 m = nI d.1 := G0.row fm (by omega) t1
  have f32 : τ.2.2.1 32 d.1 = nI y := G0.row fm (by omega) y1
  have hTt := H.1.1
  have h11 : V.2.2.1 11 m = nI q := t3
  have h10 : V.2.2.1 10 m = nI x := t2
  have ez : (nE V (.inner 15 d z a b) 0 m).tail = nE V a (x + 0) 0 := by
    show nE V a (V.2.2.1 10 m).toNatClampNeg 0 = _
    cases a with
    | leaf => rfl
    | inner g' d' z' a' b' =>
      have : x < A := by
        rcases wa with ⟨h, _⟩ | ⟨_, _, _, hg⟩ | ⟨h, _⟩
        · cases h
        · rcases hg with ⟨rfl, _⟩ | ⟨rfl, _⟩ | ⟨rfl, _⟩
          all_goals exact ta.1.1
        · cases h
      have := H.1.2.2.2.2
      rw [show V.2.2.1 10 m = nI x from t2, nI_clamp (show x < 2 ^ 31 by omega)]
      rfl
  have pw : nPw ((m, d.1) :: (nE V (.inner 15 d z a b) 0 m).tail) := pw
  rw [ez] at pw ⊢
  obtain ⟨pa, pm⟩ := nPw1 pw
  obtain ⟨τ2, e2, G2⟩ := r_opL (h0 := h0) (qs := qs) (ks := ks) (n := n) (x3 := τ.2.2.1 31 y) H fm hm h11 t1 w1 hq q 0 Tt am 0 τ s (τ.2.2.1 31 y) (mNm f pp ee env d.1 s) [(τ.2.2.1 31 y, mNm f pp ee env d.1 s)] (by omega) (by omega) (by omega) (G1.sub (fun u hu => by
    rcases List.mem_cons.mp hu with e | e
    · rw [e]; exact List.mem_cons_self ..
    · rw [List.mem_singleton.mp e]; exact List.mem_cons_self ..))
  have hqa : q = tQn a := by omega
  have G3 := G2.cg (s' := mCu (mNm f pp ee env d.1 s) (mOp (pp d.1) q (mNm f pp ee env d.1 s) s)) rfl (Nat.le_refl _) rfl (fun _ _ => rfl)
  obtain ⟨τ4, v4, e4, G4⟩ := Ia env τ τ2 _ g T c _ _ [] [] _ (τ.2.2.1 31 y) m x q 0 (n + 2) Tt ta wa o3.2.2.1 wo.2 (fun u hu z => dj u hu (List.mem_append_right _ z)) na pa fm hm h10 h11 hq G3 (List.mem_cons_self ..) (fun i h α hα => mOp_is (pp d.1) q (mNm f pp ee env d.1 s) s i (by omega) α hα) (fun u hu => by cases hu) (fun p hp => by cases hp) (by omega) (by omega) (by omega) (by omega)
  rw [zE_typed]
  unfold b_typed
  simp only [zgd, zin_n hm (by decide), if_true, nI_clamp (show m < 2 ^ 31 by omega), h6]
  rw [if_neg (by decide), if_neg (by decide), if_neg (by decide), if_neg (by decide), if_neg (by decide), if_neg (by decide), if_neg (by decide), if_neg (by decide), if_neg (by decide), if_neg (by decide), if_neg (by decide), if_neg (by decide), if_neg (by decide), if_neg (by decide), if_pos (by decide)]
  rw [show n + 3 = (n + 2) + 1 from rfl, zE_typeOfCall]
  unfold b_typeOfCall
  simp only [zgd, zin_n hm (by decide), if_true, nI_clamp (show m < 2 ^ 31 by omega), h9, zin_n (show d.1 < 2010 by omega) (by decide), nI_clamp (show d.1 < 2 ^ 31 by omega), f32, zin_n hy (by decide), nI_clamp (show y < 2 ^ 31 by omega)]
  rw [show (0 : Int32) = nI 0 from rfl, e2, j_typeOfCall_134, show (0 : Int32) = nI 0 from rfl, e4, zci_at]
  have G5 := G4.fin (W' := tW a) (List.mem_singleton_self _) (fun u => by rw [List.nil_append]) d.1 (fun p hp => (pm p hp).2)
  subst hqa
  exact ⟨τ4, v4, rfl, G5.mo (show 0 + 3 * tQn a + tC a ≤ 3 * tQn a + tC a by omega) (show am + tQn a + tA a ≤ am + (tQn a + tA a + tA b) by omega)⟩
end RA3
