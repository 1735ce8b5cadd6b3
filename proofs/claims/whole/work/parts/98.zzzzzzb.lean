/-! the reference's typeOfCall: what is called takes one ARG more -/
section ROP
variable {ks : Nat → Nat} {qs : List Nat} {Tt h0 k0 c am n t0 : Nat} {τ : zSt} {s : mS} {g : gG} {T : Nat → mF} {t : mF} {pl : Int32}
theorem gY.lr {r : Nat} (h : gT g T s) (hK : gK g) (hy : gY g T s r t) (hk : g.K r = 1) : gY g T s (g.L r) (fun α => yL (t α)) ∧ gY g T s (g.R r) (fun α => yR (t α)) := by
  have hl := (hK.2 r hy.1).1 hk
  have e : ∀ α, mAll s.1 α → t α = yA (T (g.L r) α) (T (g.R r) α) := fun α hα => by
    rw [← hy.2 α hα]
    exact (h.1 α hα r hy.1).2.1 hk
  exact ⟨⟨hl.1, fun α hα => by show T (g.L r) α = yL (t α); rw [e α hα]; rfl⟩, ⟨hl.2, fun α hα => by show T (g.R r) α = yR (t α); rw [e α hα]; rfl⟩⟩
theorem r_fre {k : Nat} (h : rG τ g k) (hn : g.n < 9000) : ∃ τ', zF h0 qs ks Tt (n + 2) 41 [.ref h0] τ = some (some (.int (nI g.n)), τ') ∧ rG τ' (gNw g 0 0 0) k ∧ jFm τ τ' := by
  obtain ⟨τ', e1, e2, e3⟩ := r_new (h0 := h0) (qs := qs) (ks := ks) (T := Tt) (n := n) (c := 0) (l := 0) (r := 0) (x2 := -1) (x3 := -1) h hn (by decide) (fun z => by cases z)
  refine ⟨τ', ?_, e2, e3⟩
  rw [zE_openType]
  unfold b_openType
  rw [show (0 : Int32) = rKd 0 from rfl, e1]
  rfl
theorem rG.fk {k c l r : Nat} {τ' : zSt} (h : rG τ g k) (h' : rG τ' (gNw g c l r) k) : fnK τ τ' := by
  have n9 := h.1.2
  have n9' : g.n + 1 ≤ 9000 := h'.1.2
  have e' : τ'.1 59 = nI (g.n + 1) := h'.1.1
  refine ⟨by rw [h.1.1, e', nI_clamp (by omega), nI_clamp (by omega)]; omega, fun j hj e => ?_⟩
  rw [h.1.1, nI_clamp (by omega)] at hj
  obtain ⟨⟨a1, a2⟩, a3, -⟩ := h.2.2 j hj
  obtain ⟨⟨d1, d2⟩, d3, -⟩ := h'.2.2 j (show j < g.n + 1 by omega)
  have kj : g.K j = 1 := rKd_inj a1 (by decide) ((a2.symm.trans e).trans (show (4 : Int32) = rKd 1 from rfl))
  have k' : (gNw g c l r).K j = g.K j := un_ne _ _ (by omega)
  have l' : (gNw g c l r).L j = g.L j := un_ne _ _ (by omega)
  have r' : (gNw g c l r).R j = g.R j := un_ne _ _ (by omega)
  rw [k', kj] at d2
  have d3 := d3 (k'.trans kj)
  have a3 := a3 kj
  rw [l', r'] at d3
  exact ⟨d2.trans rfl, d3.1.trans a3.1.symm, d3.2.trans a3.2.symm⟩
set_option maxHeartbeats 1000000 in
theorem rX.opn (hT : 9010 ≤ Tt) (h : rX k0 τ s g T c am) (hs : mSat s.1) (hc : c + 3 ≤ 9000) (ht : gY g T s t0 t) (K : Int32 → zSt → zRs) : ∃ τ1 r g1 T1 c1, (zci (zF h0 qs ks Tt (n + 2) 42 [.ref h0, .int (nI t0)] τ) fun r6 s4 => zgd (zin r6 9000) (if (s4.2.2.1 34 (r6).toNatClampNeg) = 0 then zci (zF h0 qs ks Tt (n + 2) 41 [.ref h0] s4) fun r11 s9 => zci (zF h0 qs ks Tt (n + 2) 41 [.ref h0] s9) fun r14 s12 => zci (zF h0 qs ks Tt (n + 2) 40 [.ref h0, .int 4, .int r11, .int r14] s12) fun r17 s15 => zgd (zin r6 9000) (zlet (zA s15 37 (upd (s15.2.2.1 37) (r6).toNatClampNeg r17)) fun s19 => zci (zF h0 qs ks Tt (n + 2) 42 [.ref h0, .int r6] s19) fun r23 s21 => K r23 s21) else K r6 s4)) = K (nI r) τ1 ∧ r < 9000 ∧ tFm τ τ1 ∧ kR9 τ τ1 ∧ τ1.1 11 = 0 ∧ xE g T g1 T1 ∧ c1 ≤ c + 3 ∧ ((τ1.2.2.1 34 r = 4 ∧ rX k0 τ1 (mAdd (fun α => yIs (t α)) pl s) g1 T1 c1 (am + 1) ∧ mSat (mAdd (fun α => yIs (t α)) pl s).1 ∧ ∃ l r', τ1.2.2.1 35 r = nI l ∧ τ1.2.2.1 36 r = nI r' ∧ gY g1 T1 (mAdd (fun α => yIs (t α)) pl s) l (fun α => yL (t α)) ∧ gY g1 T1 (mAdd (fun α => yIs (t α)) pl s) r' (fun α => yR (t α))) ∨ (τ1.2.2.1 34 r ≠ 4 ∧ rX k0 (zI (zI τ1 11 4) 12 pl) (mAdd (fun α => yIs (t α)) pl s) g1 T1 c1 am)) := by
  obtain ⟨⟨h1, h2, h3⟩, h⟩ := h
  rcases h with ⟨q1, q2, q3, q4, k, b1, b2, b3, b4, b5⟩ | ⟨pl', q1, -⟩
  · have hr0 := gR_lt b2.1 ht.1
    have hrs := gR_root b2.1 ht.1
    have yr : gY g T s (gR g t0) t := ⟨hr0, fun α hα => (gR_eq b2.1 ht.1 (b4.1 α hα)).trans (ht.2 α hα)⟩
    have re := r_real (h0 := h0) (qs := qs) (ks := ks) (n := n + 1) hT b1 b2.1 ht.1
    generalize gR g t0 = r0 at hr0 hrs yr re
    have row := b1.2.2 r0 hr0
    rw [re, zci_at]
    simp only [zgd, zin_n (show r0 < 9000 by omega) (by decide), if_true, nI_clamp (show r0 < 2 ^ 31 by omega), row.1.2]
    by_cases c0 : g.K r0 = 0
    · rw [if_pos (by rw [c0]; rfl)]
      obtain ⟨τa, e1, a1, a2⟩ := r_fre (h0 := h0) (qs := qs) (ks := ks) (Tt := Tt) (n := n) b1 (by omega)
      obtain ⟨τb, e2, d1, d2⟩ := r_fre (h0 := h0) (qs := qs) (ks := ks) (Tt := Tt) (n := n) a1 (by show g.n + 1 < 9000; omega)
      obtain ⟨τc, e3, f1, f2⟩ := r_new (h0 := h0) (qs := qs) (ks := ks) (T := Tt) (n := n + 1) (c := 1) (l := g.n) (r := g.n + 1) (x2 := nI g.n) (x3 := nI (g.n + 1)) d1 (by show g.n + 1 + 1 < 9000; omega) (by decide) (fun _ => ⟨rfl, rfl⟩)
      have e3 : zF h0 qs ks Tt (n + 2) 40 [.ref h0, .int 4, .int (nI g.n), .int (nI (g.n + 1))] τb = some (some (.int (nI (g.n + 2))), τc) := e3
      have e2 : zF h0 qs ks Tt (n + 2) 41 [.ref h0] τa = some (some (.int (nI (g.n + 1))), τb) := e2
      obtain ⟨gk3, gc3, gk, gc, gn⟩ := gOp_K b2 b3 hr0 hrs c0
      have sr : (gNw (gNw (gNw g 0 0 0) 0 0 0) 1 g.n (g.n + 1)).S r0 = r0 := by
        show un (un (un g.S g.n g.n) (g.n + 1) (g.n + 1)) (g.n + 2) (g.n + 2) r0 = r0
        rw [un_ne _ _ (by omega), un_ne _ _ (by omega), un_ne _ _ (by omega)]
        exact hrs
      have n3 : (gNw (gNw (gNw g 0 0 0) 0 0 0) 1 g.n (g.n + 1)).n = g.n + 3 := rfl
      have G4 : rG (zA τc 37 (upd (τc.2.2.1 37) r0 (nI (g.n + 2)))) (gOp g r0) k := f1.lk (u := r0) (v := g.n + 2) (by rw [n3]; omega) (by rw [n3]; omega) (by omega)
      have rt : gR (gOp g r0) r0 = g.n + 2 := by
        have fx : (gOp g r0).S r0 = g.n + 2 := by show (if r0 = r0 then g.n + 2 else _) = _; rw [if_pos rfl]
        have ff : (gOp g r0).S (g.n + 2) = g.n + 2 := by
          show (if g.n + 2 = r0 then g.n + 2 else un (un (un g.S g.n g.n) (g.n + 1) (g.n + 1)) (g.n + 2) (g.n + 2) (g.n + 2)) = _
          rw [if_neg (by omega), un_at]
        rw [← gR_S gk.1 (show r0 < (gOp g r0).n by rw [gn]; omega), fx, gR_fix ff]
      have re2 := r_real (h0 := h0) (qs := qs) (ks := ks) (n := n + 1) hT G4 gk.1 (show r0 < (gOp g r0).n by rw [gn]; omega)
      rw [rt] at re2
      have q' := b4.opn (pl := pl) b2 yr hrs
      have sat' := q'.sat.mp (gOp_sat b2 b3 hr0 hrs c0 (b4.sat.mpr hs))
      have jm := (a2.tr d2).tr f2
      have xe : xE g T (gOp g r0) (tOp g T r0) := ⟨by rw [gn]; omega, fun c hc => by unfold tOp; rw [mUp_ne _ _ (by omega), mUp_ne _ _ (by omega), mUp_ne _ _ (by omega)]⟩
      have kk1 : (gOp g r0).K (g.n + 2) = 1 := un_at _ _ _
      have yn : gY (gOp g r0) (tOp g T r0) (mAdd (fun α => yIs (t α)) pl s) (g.n + 2) t := ⟨by rw [gn]; omega, fun α hα => by
        have hα : mAll (s.1 ++ [_]) α := hα
        rw [mAll_ap] at hα
        show tOp g T r0 (g.n + 2) α = t α
        unfold tOp
        rw [mUp_at]
        exact yr.2 α hα.1⟩
      have lr := gY.lr q' gk yn kk1
      have rw4 := G4.2.2 (g.n + 2) (by rw [gn]; omega)
      have tf : tFm τ (zA τc 37 (upd (τc.2.2.1 37) r0 (nI (g.n + 2)))) := (jm.t (((b1.fk a1).tr (a1.fk d1)).tr (d1.fk f1))).tr ⟨fun _ _ _ _ _ => rfl, rfl, fun k hk => zAn _ _ (by omega), rfl, fnK.sm rfl rfl rfl rfl⟩
      refine ⟨zA τc 37 (upd (τc.2.2.1 37) r0 (nI (g.n + 2))), g.n + 2, gOp g r0, tOp g T r0, c + 3, ?_, by omega, tf, ⟨jm.2.2.1 31 (by omega), jm.2.2.1 39 (by omega)⟩, (jm.1 11 (by decide) (by decide)).trans q2, xe, Nat.le_refl _, Or.inl ⟨?_, ⟨⟨?_, by omega, h3⟩, Or.inl ⟨sat', (jm.1 11 (by decide) (by decide)).trans q2, by rw [gn]; omega, ?_, k, G4, gk, gc, q', ?_⟩⟩, sat', _, _, (rw4.2.1 kk1).1, (rw4.2.1 kk1).2, lr.1, lr.2⟩⟩
      · rw [e1, zci_at, e2, zci_at, e3, zci_at]
        simp only [zlet]
        rw [re2, zci_at]
      · rw [rw4.1.2, kk1]; rfl
      · rw [G4.1.1, gn]
        congr 1
        omega
      · show xN (gNw (gNw (gNw g 0 0 0) 0 0 0) 1 g.n (g.n + 1)).n (fun y => decide ((gNw (gNw (gNw g 0 0 0) 0 0 0) 1 g.n (g.n + 1)).K y = 1)) ≤ am + 1
        rw [gNw_fun, gNw_fun, gNw_fun, if_pos rfl, if_neg (by decide)]
        omega
      · have lk : xN (gNw (gNw (gNw g 0 0 0) 0 0 0) 1 g.n (g.n + 1)).n (gRoot (gOp g r0)) + 1 = xN (gNw (gNw (gNw g 0 0 0) 0 0 0) 1 g.n (g.n + 1)).n (gRoot (gNw (gNw (gNw g 0 0 0) 0 0 0) 1 g.n (g.n + 1))) := gLk_roots sr (by rw [n3]; omega) (by omega)
        rw [gNw_roots, gNw_roots, gNw_roots] at lk
        rw [gn]
        have lk' : xN (g.n + 3) (gRoot (gOp g r0)) + 1 = xN g.n (gRoot g) + 1 + 1 + 1 := lk
        omega
    · rw [if_neg (fun z => c0 (rKd_inj row.1.1 (by decide) (z.trans (show (0 : Int32) = rKd 0 from rfl))))]
      by_cases c1 : g.K r0 = 1
      · have imp : ∀ α, mAll s.1 α → yIs (t α) := fun α hα => by
          have this : T r0 α = yA (T (g.L r0) α) (T (g.R r0) α) := (b4.1 α hα r0 hr0).2.1 c1
          rw [← yr.2 α hα, this]
          exact yIs_A _ _
        have q' := b4.imp (pl := pl) imp
        have sat' := q'.sat.mp (b4.sat.mpr hs)
        have lr := gY.lr q' b2 (yr.up (xE.rf g T) (mLe.add _ pl s)) c1
        exact ⟨τ, r0, g, T, c, rfl, by omega, tFm.rf τ, kR9.rf τ, q2, xE.rf g T, by omega, Or.inl ⟨by rw [row.1.2, c1]; rfl, ⟨⟨h1, h2, h3⟩, Or.inl ⟨sat', q2, q3, by omega, k, b1, b2, b3, q', b5⟩⟩, sat', _, _, (row.2.1 c1).1, (row.2.1 c1).2, lr.1, lr.2⟩⟩
      · have ns : ¬ mSat (mAdd (fun α => yIs (t α)) pl s).1 := fun ⟨α, hα⟩ => by
          have hα : mAll (s.1 ++ [_]) α := hα
          rw [mAll_ap, mAll_one] at hα
          have this : T r0 α = yB (g.K r0 - 2) := (b4.1 α hα.1 r0 hr0).2.2 (g.K r0 - 2) (by omega)
          have h2 : yIs (t α) := hα.2
          rw [← yr.2 α hα.1, this] at h2
          exact yA_ne h2.symm
        refine ⟨τ, r0, g, T, c, rfl, by omega, tFm.rf τ, kR9.rf τ, q2, xE.rf g T, by omega, Or.inr ⟨fun z => c1 (rKd_inj row.1.1 (by decide) ((row.1.2.symm.trans z).trans (show (4 : Int32) = rKd 1 from rfl))), ⟨by rw [zIn _ _ (by decide), zIn _ _ (by decide)]; exact h1, h2, h3⟩, Or.inr ⟨pl, mFt.new hs ns, by rw [zIn _ _ (by decide)]; exact zIe _ _ _, zIe _ _ _, k, by rw [zIn _ _ (by decide), zIn _ _ (by decide)]; exact b1.2.1.1, ?_⟩⟩⟩
        have := xN_n g.n (gRoot g)
        omega
  · exact absurd hs q1.no
end ROP
