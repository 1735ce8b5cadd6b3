/-! the class's infer: a call's first loop -/
section CCM
variable {κ : oKv} {Tt T0 mo y cnt : Nat} {A B : Nat → Nat} {D : cDt} {V : oSt} {nm : Nat → Option Nat} {env U : List Nat} {kk f pp ee : Nat → Int32} {n m i j : Nat}
theorem mLe.opN {pl : Int32} (q : Nat) (t : mF) (s : mS) (h : ¬ mSat s.1) : ¬ mSat (mOp pl q t s).1 := fun z => h ((mLe.op pl q t s).sat z)
set_option maxHeartbeats 1000000 in
theorem c_callL (hH : wH κ Tt mo y cnt A V nm pp U) {fs : List Value} {pa d0 cap q w0 : Nat} {mc : Int32} {gl : Nat → Option Nat} {aw : Nat → Nat} (c1 : V.1 m = some (.inr (7, fs))) (f18 : fs[18]? = some (.ref pa)) (f4 : fs[4]? = some (.int (pp w0))) (l1 : cLs κ V pa d0 cap q mc gl 7) (hq : q ≤ 2000) (hAn : cAn V pp gl aw q) (hin : ∀ x, x < q → i ≤ aw x ∧ aw x < j) (hj : j ≤ cnt) (hinj : ∀ x x', x < q → x' < q → aw x = aw x' → x = x') : ∀ (rem k t' : Nat) (σ : oSt) (s : mS) (g : gG) (T : Nat → mF) (r : Nat) (t : mF), k + rem = q → rem < t' → cXE V y A mo nm env σ s g T → mSat s.1 → gY g T s r t → g.S r = r → g.n + 3 * rem ≤ mo → (∃ σ' g' T' r', ol_X10_inferCall_14 Tt (oF κ Tt (n + 3)) κ t' (some y) (some m) (nI r) (nI k) σ = ol_X10_inferCall_120 Tt (oF κ Tt (n + 3)) κ Tt (some y) (some m) (nI r') 0 σ' ∧ cXE V y A mo nm env σ' (mOp (pp w0) rem t s) g' T' ∧ mSat (mOp (pp w0) rem t s).1 ∧ xE g T g' T' ∧ g'.n ≤ g.n + 3 * rem ∧ gY g' T' (mOp (pp w0) rem t s) r' (mRs rem t) ∧ (∀ x, x < rem → ∃ p c, gl (k + x) = some p ∧ ofd σ' (some p) 7 8 = some (.int (nI c)) ∧ gY g' T' (mOp (pp w0) rem t s) c (fun α => yL (mRs x t α))) ∧ (∀ x, x < k → ∀ p, gl x = some p → σ'.1 p = σ.1 p) ∧ wF V nm pp σ σ' i j []) ∨ (∃ σ', ol_X10_inferCall_14 Tt (oF κ Tt (n + 3)) κ t' (some y) (some m) (nI r) (nI k) σ = some (none, σ') ∧ cXE V y A mo nm env σ' (mOp (pp w0) rem t s) g T ∧ ¬ mSat (mOp (pp w0) rem t s).1 ∧ wF V nm pp σ σ' i j [])
  | 0, k, t', σ, s, g, T, r, t, hk, ht, h, hs, hr, hrs, hM => by
    obtain ⟨t', rfl⟩ : ∃ x, t' = x + 1 := ⟨t' - 1, by omega⟩
    left
    have ls := h.1.1.ls hH.1.2.2.2.1 l1
    have e18 : ofd σ (some m) 7 18 = some (.ref pa) := (h.1.1.nd c1 (by decide)).trans f18
    refine ⟨σ, g, T, r, ?_, h, hs, xE.rf g T, by omega, hr, fun x hx => by omega, fun _ _ _ _ => rfl, wF.rf σ i j _⟩
    rw [ol_X10_inferCall_14, e18, ovr_rf, obn_at, oob_at ls.1, obn_at, l_sz (n := n + 2) ls, oin_at, if_pos (nI_le (by omega) (by omega))]
  | rem + 1, k, t', σ, s, g, T, r, t, hk, ht, h, hs, hr, hrs, hM => by
    obtain ⟨t', rfl⟩ : ∃ x, t' = x + 1 := ⟨t' - 1, by omega⟩
    have ls := h.1.1.ls hH.1.2.2.2.1 l1
    have e18 : ofd σ (some m) 7 18 = some (.ref pa) := (h.1.1.nd c1 (by decide)).trans f18
    have hop := c_opn (n := n) (m := m) (pl := pp w0) (k14 := ol_X10_inferCall_14 Tt (oF κ Tt (n + 3)) κ t') hH h hs hr (fun _ _ => hrs) (by omega) k
    rcases hop with ⟨σ1, g1, T1, r1, o1, o2, o3, o4, o5, o6, o7, o8, o9⟩ | ⟨o1, o2, o3⟩
    · obtain ⟨p, fp, gp, ep, lp, pp1⟩ := hAn k (by omega)
      have h1 := o2
      rcases o2.1.2 with ⟨-, F1, a, b, c, d, e, qq⟩ | ⟨pl', cc, F, q1, -⟩
      · have hrn := o7.1
        have row := a.row
        obtain ⟨bk, bc, -⟩ := b.2 r1 hrn
        obtain ⟨bL, bR⟩ := bc o8
        rw [o8] at bk
        have hl := (c.2 r1 hrn).1 o8
        have ls1 := o2.1.1.ls hH.1.2.2.2.1 l1
        have e18' : ofd σ1 (some m) 7 18 = some (.ref pa) := (o2.1.1.nd c1 (by decide)).trans f18
        have lg : oF κ Tt (n + 3) 234 [va_rf (some pa), .int (nI k)] σ1 = some (some (va_rf (some p)), σ1) := by rw [← gp]; exact l_get (ls1.o (by omega)) (by omega)
        obtain ⟨fs', ep'⟩ := o2.1.1.oc ep
        have oc : ocs σ1 (some p) 7 = true := by simp only [ocs, ep']; rfl
        obtain ⟨σ2, n1, n2, n3, n4, n5⟩ := o2.1.node hH.1.2.1 hH.1.2.2.1 ep lp (nI (g1.L r1))
        have h2 : cXE V y A mo nm env σ2 (mAdd (fun α => yIs (t α)) (pp w0) s) g1 T1 := ⟨n2, fun u hu => (o2.2 u hu).up (fun b' e' => by
          obtain ⟨b0, fb, v, z1, z2, -⟩ := o2.2 u hu
          rw [z1] at e'; injection e' with e'; subst e'
          exact ofd_cg (n4 b0 (fun z => by rw [z, ep] at z2; cases z2))) (xE.rf _ _) (mLe.rf [] _) (fun z => by cases z)⟩
        have pV := o2.1.1.lt ep
        have a2 : yT y A mo F1 (nI g1.n) 0 (-1) (-1) σ2 := ⟨(n4 y (by have := hH.1.2.1; omega)).trans a.1, fun x hx => (n4 (A x) (by have := hH.1.2.2.1 x hx; omega)).trans (a.2.1 x hx), a.2.2⟩
        have cr := c_root (κ := κ) (n := n + 2) (T := Tt) (by have := hH.1.1; omega) a2 b e c.1 hl.2
        have row2 := a2.row
        have tL : gY g1 T1 (mAdd (fun α => yIs (t α)) (pp w0) s) (g1.L r1) (fun α => yL (t α)) := ⟨hl.1, fun α hα => by
          have z1 : T1 r1 α = yA (T1 (g1.L r1) α) (T1 (g1.R r1) α) := (qq.1 α hα r1 hrn).2.1 o8
          show T1 (g1.L r1) α = yL (t α)
          rw [← o7.2 α hα, z1]; rfl⟩
        have tR : gY g1 T1 (mAdd (fun α => yIs (t α)) (pp w0) s) (gR g1 (g1.R r1)) (fun α => yR (t α)) := ⟨gR_lt c.1 hl.2, fun α hα => by
          have z1 : T1 r1 α = yA (T1 (g1.L r1) α) (T1 (g1.R r1) α) := (qq.1 α hα r1 hrn).2.1 o8
          have z2 := gR_eq c.1 hl.2 (qq.1 α hα)
          have z2 : T1 (gR g1 (g1.R r1)) α = T1 (g1.R r1) α := z2
          rw [z2]
          show T1 (g1.R r1) α = yR (t α)
          rw [← o7.2 α hα, z1]; rfl⟩
        have w12 : wF V nm pp σ1 σ2 i j [] := ⟨fun x fx ex hx => n4 x (fun z => by
          rw [z, ep] at ex; injection ex with ex; injection ex with ex; injection ex with _ ex; subst ex
          exact hx (aw k) (hin k (by omega)).1 (hin k (by omega)).2 pp1), fun x fx ex _ => n4 x (fun z => by rw [z, ep] at ex; cases ex), n5⟩
        have st : ol_X10_inferCall_14 Tt (oF κ Tt (n + 3)) κ (t' + 1) (some y) (some m) (nI r) (nI k) σ = ol_X10_inferCall_14 Tt (oF κ Tt (n + 3)) κ t' (some y) (some m) (nI (gR g1 (g1.R r1))) (nI (k + 1)) σ2 := by
          rw [ol_X10_inferCall_14, e18, ovr_rf, obn_at, oob_at ls.1, obn_at, l_sz (n := n + 2) ls, oin_at, if_neg (nI_ge (by omega) (by omega)), o1]
          unfold oj_X10_inferCall_60
          rw [row.1, obn_at, a.rd (i := 0) (by decide) (by show r1 < mo; omega), obn_at, bk, if_pos (show cKd 1 = 206 from rfl), e18', ovr_rf, obn_at, oob_at ls1.1, obn_at, lg, orn_at, ogd_at oc, row.2.1, obn_at, a.rd (i := 1) (by decide) (by show r1 < mo; omega), obn_at, bL, n1, obn_at, row2.2.2.1, obn_at, a2.rd (i := 2) (by decide) (by show r1 < mo; omega), obn_at, bR, a2.ob, obn_at, cr, oin_at, nI_p1]
        have px : ∀ x, x < k → ∀ p', gl x = some p' → σ2.1 p' = σ.1 p' := fun x hx p' e' => by
          obtain ⟨p2, fp2, gp2, ep2, -, pp2⟩ := hAn x (by omega)
          rw [e'] at gp2; injection gp2 with gp2; subst gp2
          have ne : p' ≠ p := fun z => by
            rw [z, ep] at ep2; injection ep2 with ep2; injection ep2 with ep2; injection ep2 with _ ep2; subst ep2
            rw [pp1] at pp2; injection pp2 with pp2; injection pp2 with pp2
            have z1 := (hin k (by omega)).2
            have z2 := (hin x (by omega)).2
            have := hH.2.1 _ _ (by omega) (by omega) pp2
            have := hinj k x (by omega) (by omega) this
            omega
          exact (n4 p' ne).trans (o6.lo hH.1.2.1 hH.1.2.2.1 (h.1.1.lt ep2))
        have IH := c_callL hH c1 f18 f4 l1 hq hAn hin hj hinj rem (k + 1) t' σ2 _ g1 T1 (gR g1 (g1.R r1)) (fun α => yR (t α)) (by omega) (by omega) h2 o3 tR (gR_root c.1 hl.2) (by omega)
        have w02 := (wF.yF (nm := nm) (pp := pp) hH.1.2.1 hH.1.2.2.1 h.1.1 o6 i j []).tr w12
        rcases IH with ⟨σ3, g3, T3, r3, j1, j2, j3, j4, j5, j6, j7, j8, j9⟩ | ⟨σ3, j1, j2, j3, j4⟩
        · left
          refine ⟨σ3, g3, T3, r3, st.trans j1, j2, j3, o4.tr j4, by omega, j6, fun x hx => ?_, fun x hx p' e' => (j8 x (by omega) p' e').trans (px x hx p' e'), w02.tr j9⟩
          cases x with
          | zero =>
            refine ⟨p, g1.L r1, gp, (ofd_cg (j8 k (by omega) p gp)).trans n3, ?_⟩
            exact tL.up j4 (mLe.op _ _ _ _)
          | succ x =>
            have := j7 x (by omega)
            rw [show k + (x + 1) = k + 1 + x by omega]
            exact this
        · right
          refine ⟨σ3, st.trans j1, ⟨⟨j2.1.1, ?_⟩, fun u hu => ?_⟩, j3, w02.tr j4⟩
          · rcases j2.1.2 with ⟨z, -⟩ | z
            · exact absurd z j3
            · exact Or.inr z
          · obtain ⟨b0, fb, v, z1, z2, z3, -⟩ := j2.2 u hu
            exact ⟨b0, fb, v, z1, z2, z3, fun z => absurd z j3⟩
      · exact absurd o3 q1.no
    · right
      have h0 := h.1.1
      rcases h.1.2 with ⟨-, F, a, b, c, d, e, qq⟩ | ⟨pl', cc, F, q1, -⟩
      · have hrn := hr.1
        have k5 := b.k5 hrn
        have ek := (b.2 r hrn).1
        have row := a.row
        obtain ⟨p1, p2⟩ := a.put (nI g.n) 0 (pp w0) (-1)
        have e4 : ofd σ (some m) 7 4 = some (.int (pp w0)) := (h.1.1.nd c1 (by decide)).trans f4
        have ns : ¬ mSat (mOp (pp w0) (rem + 1) t s).1 := mLe.opN rem _ _ o3
        have le : mLe [] s (mOp (pp w0) (rem + 1) t s) := mLe.op _ _ _ _
        refine ⟨_, ?_, ⟨⟨h0.yF hH.1.2.1 hH.1.2.2.1 p2, Or.inr ⟨pp w0, g.n, F, ?_, hH.1.2.2.2.2 w0, e, p1⟩⟩, fun u hu => (h.2 u hu).yF hH.1.2.1 hH.1.2.2.1 h0 p2 (xE.rf g T) le⟩, ns, wF.yF hH.1.2.1 hH.1.2.2.1 h0 p2 i j []⟩
        · rw [ol_X10_inferCall_14, e18, ovr_rf, obn_at, oob_at ls.1, obn_at, l_sz (n := n + 2) ls, oin_at, if_neg (nI_ge (by omega) (by omega)), row.1, obn_at, a.rd (i := 0) (by decide) (by show r < mo; omega), obn_at, ek, if_neg (show ¬ cKd (g.K r) = 0 from fun z => o1 (cKd_inj (k := 0) k5 (by omega) z))]
          unfold oj_X10_inferCall_60
          rw [row.1, obn_at, a.rd (i := 0) (by decide) (by show r < mo; omega), obn_at, ek, if_neg (show ¬ cKd (g.K r) = 206 from fun z => o2 (cKd_inj (k := 1) k5 (by omega) z)), e4, ovi_in, obn_at, a.p8, obn_at]
        · have := (mFt.new hs o3).noS (s := mAdd (fun α => yIs (t α)) (pp w0) s) (mLe.op (pp w0) rem (fun α => yR (t α)) (mAdd (fun α => yIs (t α)) (pp w0) s))
          exact this
      · exact absurd hs q1.no
end CCM
