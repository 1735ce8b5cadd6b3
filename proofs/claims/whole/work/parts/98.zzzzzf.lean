/-! the class's infer: a call's first loop -/
section CCL
variable {κ : oKv} {Tt T0 mo y cnt : Nat} {A B : Nat → Nat} {D : cDt} {V σ : oSt} {nm : Nat → Option Nat} {env U : List Nat} {kk f pp ee : Nat → Int32} {s : mS} {g : gG} {T : Nat → mF} {n m i j : Nat}
/-- the ARGS' nodes -/
def cAn (V : oSt) (pp : Nat → Int32) (gl : Nat → Option Nat) (aw : Nat → Nat) (q : Nat) : Prop := ∀ x, x < q → ∃ p fs, gl x = some p ∧ V.1 p = some (.inr (7, fs)) ∧ 8 < fs.length ∧ fs[1]? = some (.int (pp (aw x)))
theorem yIs_A (a b : tY) : yIs (yA a b) := rfl
/-- nodes 0 to 2 of a free one that becomes a function: the class's rows -/
theorem c_opn (hH : wH κ Tt mo y cnt A V nm pp U) (h : cXE V y A mo nm env σ s g T) (hs : mSat s.1) {r : Nat} {t : mF} {pl : Int32} (hr : gY g T s r t) (hrs : ∀ F, cGr F g → g.S r = r) (hM : g.n + 3 ≤ mo) {k14 : Option Nat → Option Nat → Int32 → Int32 → oSt → oRs} (k : Nat) : (∃ σ' g' T' r', (obn (ovr (ofd σ (some y) 12 0)) fun v9 => obn (oai σ v9 .int (nI r)) fun v11 => if v11 = 0 then obn (ovr (ofd σ (some y) 12 3)) fun v14 => obn (oob σ (some y) 12) fun _ => oin (oF κ Tt (n + 3) 146 [va_rf (some y), .int 0] σ) fun r20 s18 => obn (oob s18 (some y) 12) fun _ => oin (oF κ Tt (n + 3) 146 [va_rf (some y), .int 0] s18) fun r25 s23 => obn (oob s23 (some y) 12) fun _ => oin (oF κ Tt (n + 3) 149 [va_rf (some y), .int r20, .int r25] s23) fun r30 s28 => obn (osi s28 v14 .int (nI r) r30) fun s31 => obn (oob s31 (some y) 12) fun _ => oin (oF κ Tt (n + 3) 21 [va_rf (some y), .int (nI r)] s31) fun r37 s35 => oj_X10_inferCall_60 Tt (oF κ Tt (n + 3)) κ k14 (some y) (some m) r37 (nI k) s35 else oj_X10_inferCall_60 Tt (oF κ Tt (n + 3)) κ k14 (some y) (some m) (nI r) (nI k) σ) = oj_X10_inferCall_60 Tt (oF κ Tt (n + 3)) κ k14 (some y) (some m) (nI r') (nI k) σ' ∧ cXE V y A mo nm env σ' (mAdd (fun α => yIs (t α)) pl s) g' T' ∧ mSat (mAdd (fun α => yIs (t α)) pl s).1 ∧ xE g T g' T' ∧ g'.n ≤ g.n + 3 ∧ yF y A σ σ' ∧ gY g' T' (mAdd (fun α => yIs (t α)) pl s) r' t ∧ g'.K r' = 1 ∧ g'.S r' = r') ∨ (g.K r ≠ 0 ∧ g.K r ≠ 1 ∧ ¬ mSat (mAdd (fun α => yIs (t α)) pl s).1) := by
  have h0 := h.1.1
  rcases h.1.2 with ⟨-, F, a, b, c, d, e, q⟩ | ⟨pl', c, F, q1, -⟩
  · have hrs := hrs F b
    have hrn := hr.1
    have k5 := b.k5 hrn
    have ek := (b.2 r hrn).1
    have row := a.row
    have mle := (a.2.2.2)
    rw [row.1, obn_at, a.rd (i := 0) (by decide) (by show r < mo; omega), obn_at, ek]
    by_cases k0 : g.K r = 0
    · left
      rw [if_pos (by rw [k0]; rfl)]
      obtain ⟨s1, m1, m2, m3⟩ := c_make (κ := κ) (T := Tt) (n := n + 2) a e 0
      rw [if_neg (show ¬ g.n = mo by omega)] at m1 m2
      rw [if_neg (show ¬ g.n = mo by omega)] at m2
      obtain ⟨s2, p1, p2, p3⟩ := c_make (κ := κ) (T := Tt) (n := n + 2) m2 (by omega) 0
      rw [if_neg (show ¬ g.n + 1 = mo by omega)] at p1 p2
      rw [if_neg (show ¬ g.n + 1 = mo by omega)] at p2
      obtain ⟨s3, F3, u1, u2, u3, u4⟩ := c_func (κ := κ) (T := Tt) (n := n + 1) p2 (by omega) (nI g.n) (nI (g.n + 1))
      rw [if_neg (show ¬ g.n + 1 + 1 = mo by omega)] at u1 u2
      have u4 := u4 (by omega)
      obtain ⟨s4, w1, w2, w3⟩ := u2.wr (i := 3) (t := r) (by decide) (by show r < mo; omega) (nI (g.n + 1 + 1))
      obtain ⟨gk3, gc3, gk, gc, gn⟩ := gOp_K c d hrn hrs k0
      have b1 : cGr (yU (yU F 0 g.n 0) 3 g.n (nI g.n)) (gNw g 0 0 0) := b.nw (by omega) (by rw [yU_ne _ _ _ (by decide), yU_at]; rfl) (by rw [yU_at, yU_ne _ _ _ (by decide)]) (fun t _ => ⟨by rw [yU_ne _ _ _ (by decide), yU_ne _ _ _ (by decide)], by rw [yU_ne _ _ _ (by decide), yU_ne _ _ _ (by decide)]⟩) (fun z => by cases z)
      have b2 : cGr (yU (yU (yU (yU F 0 g.n 0) 3 g.n (nI g.n)) 0 (g.n + 1) 0) 3 (g.n + 1) (nI (g.n + 1))) (gNw (gNw g 0 0 0) 0 0 0) := b1.nw (by omega) (by rw [yU_ne _ _ _ (by decide), yU_at]; rfl) (by rw [yU_at, yU_ne _ _ _ (by decide)]; rfl) (fun t _ => ⟨by rw [yU_ne _ _ _ (by decide), yU_ne _ _ _ (by decide)], by rw [yU_ne _ _ _ (by decide), yU_ne _ _ _ (by decide)]⟩) (fun z => by cases z)
      have b3 : cGr F3 (gNw (gNw (gNw g 0 0 0) 0 0 0) 1 g.n (g.n + 1)) := b2.nw (by omega) (by rw [u4, yU_ne _ _ _ (by decide), yU_ne _ _ _ (by decide), yU_ne _ _ _ (by decide), yU_at]; rfl) (by rw [u4, yU_ne _ _ _ (by decide), yU_ne _ _ _ (by decide), yU_at, yU_ne _ _ _ (by decide)]; rfl) (fun t et => by
        have et : t ≠ g.n + 1 + 1 := et
        exact ⟨by rw [u4, yU_ne _ _ _ (by decide), yU_at, upd_ne _ _ et, yU_ne _ _ _ (by decide), yU_ne _ _ _ (by decide)], by rw [u4, yU_at, upd_ne _ _ et, yU_ne _ _ _ (by decide), yU_ne _ _ _ (by decide), yU_ne _ _ _ (by decide)]⟩) (fun _ => by
        have en : (gNw (gNw g 0 0 0) 0 0 0).n = g.n + 1 + 1 := rfl
        rw [en]
        exact ⟨by rw [u4, yU_ne _ _ _ (by decide), yU_at, upd_at], by rw [u4, yU_at, upd_at]⟩)
      have b4 : cGr (yU F3 3 r (nI (g.n + 1 + 1))) (gOp g r) := b3.lk
      have w2' : yT y A mo (yU F3 3 r (nI (g.n + 1 + 1))) (nI (gOp g r).n) 0 (-1) (-1) s4 := w2
      have rt : gR (gOp g r) r = g.n + 2 := by
        have fx : (gOp g r).S r = g.n + 2 := by show (if r = r then g.n + 2 else _) = _; rw [if_pos rfl]
        have ff : (gOp g r).S (g.n + 2) = g.n + 2 := by
          show (if g.n + 2 = r then g.n + 2 else un (un (un g.S g.n g.n) (g.n + 1) (g.n + 1)) (g.n + 2) (g.n + 2) (g.n + 2)) = _
          rw [if_neg (by omega), un_at]
        rw [← gR_S gk.1 (show r < (gOp g r).n by rw [gn]; omega), fx, gR_fix ff]
      have cr := c_root (κ := κ) (n := n + 2) (T := Tt) (by have := hH.1.1; omega) w2' b4 (by rw [gn]; omega) gk.1 (show r < (gOp g r).n by rw [gn]; omega)
      rw [rt] at cr
      have q' := q.opn (pl := pl) c hr hrs
      have sat' := q'.sat.mp (gOp_sat c d hrn hrs k0 (q.sat.mpr hs))
      have yf := ((m3.tr p3).tr u3).tr w3
      have xe : xE g T (gOp g r) (tOp g T r) := ⟨by rw [gn]; omega, fun c hc => by unfold tOp; rw [mUp_ne _ _ (by omega), mUp_ne _ _ (by omega), mUp_ne _ _ (by omega)]⟩
      have cx' : cX V y A mo s4 (mAdd (fun α => yIs (t α)) pl s) (gOp g r) (tOp g T r) := ⟨h0.yF hH.1.2.1 hH.1.2.2.1 yf, Or.inl ⟨sat', _, w2', b4, gk, gc, by rw [gn]; omega, q'⟩⟩
      refine ⟨s4, gOp g r, tOp g T r, g.n + 2, ?_, ⟨cx', fun u hu => (h.2 u hu).yF hH.1.2.1 hH.1.2.2.1 h0 yf xe (mLe.add _ _ s)⟩, sat', xe, by rw [gn]; omega, yf, ⟨by rw [gn]; omega, fun α hα => ?_⟩, ?_, ?_⟩
      · rw [row.2.2.2.1, obn_at, a.ob, obn_at, m1, oin_at, m2.ob, obn_at, p1, oin_at, p2.ob, obn_at, u1, oin_at, w1, obn_at, w2.ob, obn_at, cr, oin_at]
      · have hα : mAll (s.1 ++ [_]) α := hα
        rw [mAll_ap] at hα
        show tOp g T r (g.n + 2) α = t α
        unfold tOp
        rw [mUp_at]
        exact hr.2 α hα.1
      · exact un_at _ _ _
      · show (if g.n + 2 = r then g.n + 2 else un (un (un g.S g.n g.n) (g.n + 1) (g.n + 1)) (g.n + 2) (g.n + 2) (g.n + 2)) = _
        rw [if_neg (by omega), un_at]
    · rw [if_neg (show ¬ cKd (g.K r) = 0 from fun z => k0 (cKd_inj (k := 0) k5 (by omega) z))]
      by_cases k1 : g.K r = 1
      · left
        have imp : ∀ α, mAll s.1 α → yIs (t α) := fun α hα => by
          have := (q.1 α hα r hrn).2.1 k1
          have this : T r α = yA (T (g.L r) α) (T (g.R r) α) := this
          rw [← hr.2 α hα, this]
          exact yIs_A _ _
        have q' := q.imp (pl := pl) imp
        have sat' := q'.sat.mp (q.sat.mpr hs)
        exact ⟨σ, g, T, r, rfl, ⟨⟨h0, Or.inl ⟨sat', F, a, b, c, d, e, q'⟩⟩, fun u hu => (h.2 u hu).up (fun _ _ => rfl) (xE.rf g T) (mLe.add _ _ s) (fun z => by cases z)⟩, sat', xE.rf g T, by omega, yF.rf y A σ, hr.up (xE.rf g T) (mLe.add _ _ s), k1, hrs⟩
      · right
        refine ⟨k0, k1, fun ⟨α, hα⟩ => ?_⟩
        have hα : mAll (s.1 ++ [_]) α := hα
        rw [mAll_ap, mAll_one] at hα
        have := (q.1 α hα.1 r hrn).2.2 (g.K r - 2) (by omega)
        have this : T r α = yB (g.K r - 2) := this
        have h2 : yIs (t α) := hα.2
        rw [← hr.2 α hα.1, this] at h2
        exact yA_ne h2.symm
  · exact absurd hs q1.no
end CCL
