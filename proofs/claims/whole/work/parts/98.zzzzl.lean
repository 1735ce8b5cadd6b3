/-! the class: unify, its loop -/
section CUN
variable {κ : oKv} {T n mo y : Nat} {A : Nat → Nat} {lv ft ov : Int32}
theorem nI_mi (a : Nat) : nI (a + 1) + (-1) = nI a := by rw [← Int32.sub_eq_add_neg]; exact nI_s1 a
theorem nI_p1 (a : Nat) : nI a + 1 = nI (a + 1) := nI_add a 1 ▸ rfl
/-- the rows follow the link -/
theorem cGr.lk {F : Nat → Nat → Int32} {g : gG} {u v : Nat} (h : cGr F g) : cGr (yU F 3 u (nI v)) (gLk g u v) := by
  refine ⟨h.1, fun t ht => ?_⟩
  obtain ⟨a, b, c⟩ := h.2 t ht
  rw [yU_ne _ _ _ (by decide), yU_ne _ _ _ (by decide), yU_ne _ _ _ (by decide), yU_at]
  refine ⟨a, b, ?_⟩
  show upd (F 3) u (nI v) t = nI (if t = u then v else g.S t)
  by_cases e : t = u
  · rw [e, upd_at, if_pos rfl]
  · rw [upd_ne _ _ e, if_neg e]; exact c
theorem cGr.w {F F' : Nat → Nat → Int32} {g : gG} (h : cGr F g) (e : ∀ k, k < 4 → F' k = F k) : cGr F' g := by
  refine ⟨h.1, fun t ht => ?_⟩
  rw [e 0 (by decide), e 1 (by decide), e 2 (by decide), e 3 (by decide)]
  exact h.2 t ht
set_option maxHeartbeats 1000000 in
theorem c_uniL {g0 : gG} {one other : Nat} (hT : 9010 ≤ T) (ho : one < g0.n) (hw : other < g0.n) (hmo : g0.n ≤ mo) : ∀ (f i p : Nat) (g : gG) (σ : oSt) (F : Nat → Nat → Int32) (X Y : Nat → Nat), yT y A mo F (nI g0.n) lv ft ov σ → cGr F g → gU g0 one other g p X Y → (∀ j, j < p → F 5 (2 * j) = nI (Y j) ∧ F 5 (2 * j + 1) = nI (X j)) → p + xN g0.n (gFr g) ≤ 1 + xN g0.n (gFr g0) → i + p + 2 * xN g0.n (gFr g) ≤ 1 + 2 * xN g0.n (gFr g0) → p + 2 * xN g0.n (gFr g) < f → ∃ (r : Bool) (σ' : oSt) (F' : Nat → Nat → Int32), ol_X10_unify_25 T (oF κ T (n + 1)) κ f (some y) (nI (2 * p)) (nI i) σ = some (some (.int (b01 r)), σ') ∧ yT y A mo F' (nI g0.n) lv ft ov σ' ∧ yF y A σ σ' ∧ (∀ k, k ≠ 3 → k ≠ 5 → F' k = F k) ∧ (r = true → ∃ g', cGr F' g' ∧ gJ g0 g' one other) ∧ (r = false → ∀ ρ, gS g0 ρ → ¬ ρ one = ρ other)
  | 0, i, p, g, σ, F, X, Y, _, _, _, _, _, _, hf => by omega
  | f + 1, i, p, g, σ, F, X, Y, h, hg, hU, hst, hp, hi, hf => by
    have hm := h.2.2.2
    have hx0 := xN_n g0.n (gFr g0)
    rw [ol_X10_unify_25, if_neg (show ¬ (1000000 : Int32) ≤ nI i from nI_ge (a := i) (b := 1000000) (by omega) (by decide))]
    cases p with
    | zero =>
      rw [if_pos (show nI (2 * 0) < 2 by decide)]
      exact ⟨true, σ, F, rfl, h, yF.rf y A σ, fun _ _ _ => rfl, fun _ => ⟨g, hg, hU.fin ho hw⟩, fun z => by cases z⟩
    | succ p =>
      have hn := hU.1.1
      have hK := hU.2.1
      have hnm : g.n ≤ mo := by rw [hn]; exact hmo
      have hX := (hU.2.2.1 p (by omega)).1
      have hY := (hU.2.2.1 p (by omega)).2
      obtain ⟨sY, sX⟩ := hst p (by omega)
      have h' : yT y A mo F (nI g.n) lv ft ov σ := by rw [hn]; exact h
      have r := h.row
      have hXr := gR_lt hK.1 hX
      have hYr := gR_lt hK.1 hY
      rw [if_neg (show ¬ nI (2 * (p + 1)) < 2 from fun z => by have := Int32.lt_iff_toInt_lt.mp z; rw [nI_toInt (by omega)] at this; have : ((2 * (p + 1) : Nat) : Int) < (2 : Int) := this; omega)]
      rw [show 2 * (p + 1) = 2 * p + 1 + 1 from by omega, nI_mi, nI_mi, r.2.2.2.2.2.1, obn_at, h.rd (i := 5) (t := 2 * p + 1) (by decide) (by show _ < 3 * mo; omega), obn_at, sX, h.ob, obn_at, c_root hT h' hg hnm hK.1 hX, oin_at, r.2.2.2.2.2.1, obn_at, h.rd (i := 5) (t := 2 * p) (by decide) (by show _ < 3 * mo; omega), obn_at, sY, h.ob, obn_at, c_root hT h' hg hnm hK.1 hY, oin_at]
      have stl : ∀ (F' : Nat → Nat → Int32), F' 5 = F 5 → ∀ j, j < p → F' 5 (2 * j) = nI (Y j) ∧ F' 5 (2 * j + 1) = nI (X j) := fun F' e j hj => by rw [e]; exact hst j (by omega)
      by_cases c : gR g (X p) = gR g (Y p)
      · rw [if_pos (by rw [c])]
        unfold oj_X10_unify_222
        rw [nI_p1]
        exact c_uniL hT ho hw hmo f (i + 1) p g σ F X Y h hg (hU.eq c) (stl F rfl) (by omega) (by omega) (by omega)
      · rw [if_neg (fun z => c (nI_inj' (by omega) (by omega) z))]
        have eX := (hg.2 _ hXr).1
        have eY := (hg.2 _ hYr).1
        have kX5 := hg.k5 hXr
        have kY5 := hg.k5 hYr
        have rsX : g.S (gR g (X p)) = gR g (X p) := gR_root hK.1 hX
        have rsY : g.S (gR g (Y p)) = gR g (Y p) := gR_root hK.1 hY
        rw [r.1, obn_at, h.rd (i := 0) (t := gR g (X p)) (by decide) (by show _ < mo; omega), obn_at, eX]
        by_cases kx : g.K (gR g (X p)) = 0
        · rw [if_pos (by rw [kx]; rfl), r.2.2.2.1, obn_at]
          obtain ⟨s1, w1, w2, w3⟩ := h.wr (i := 3) (t := gR g (X p)) (by decide) (by show _ < mo; omega) (nI (gR g (Y p)))
          rw [w1, obn_at]
          unfold oj_X10_unify_222
          rw [nI_p1]
          have le : xN g0.n (gFr (gLk g (gR g (X p)) (gR g (Y p)))) ≤ xN g0.n (gFr g) := by
            rw [← hn]
            rcases gFr_le (g := g) (u := gR g (X p)) (v := gR g (Y p)) with z | z
            · exact z
            · exact absurd kx z
          obtain ⟨r', σ', F', a1, a2, a3, a4, a5⟩ := c_uniL hT ho hw hmo f (i + 1) p _ s1 _ X Y w2 hg.lk (hU.lk (Or.inl ⟨rfl, rfl⟩) c kx) (stl _ (yU_ne _ _ _ (by decide))) (by omega) (by omega) (by omega)
          exact ⟨r', σ', F', a1, a2, w3.tr a3, fun k k3 k5 => (a4 k k3 k5).trans (yU_ne _ _ _ k3), a5⟩
        · rw [if_neg (show ¬ cKd (g.K (gR g (X p))) = 0 from fun z => kx (cKd_inj (k := 0) kX5 (by omega) z)), obn_at, h.rd (i := 0) (t := gR g (Y p)) (by decide) (by show _ < mo; omega), obn_at, eY]
          by_cases ky : g.K (gR g (Y p)) = 0
          · rw [if_pos (by rw [ky]; rfl), r.2.2.2.1, obn_at]
            obtain ⟨s1, w1, w2, w3⟩ := h.wr (i := 3) (t := gR g (Y p)) (by decide) (by show _ < mo; omega) (nI (gR g (X p)))
            rw [w1, obn_at]
            unfold oj_X10_unify_222
            rw [nI_p1]
            have le : xN g0.n (gFr (gLk g (gR g (Y p)) (gR g (X p)))) ≤ xN g0.n (gFr g) := by
              rw [← hn]
              rcases gFr_le (g := g) (u := gR g (Y p)) (v := gR g (X p)) with z | z
              · exact z
              · exact absurd ky z
            obtain ⟨r', σ', F', a1, a2, a3, a4, a5⟩ := c_uniL hT ho hw hmo f (i + 1) p _ s1 _ X Y w2 hg.lk (hU.lk (Or.inr ⟨rfl, rfl⟩) (fun z => c z.symm) ky) (stl _ (yU_ne _ _ _ (by decide))) (by omega) (by omega) (by omega)
            exact ⟨r', σ', F', a1, a2, w3.tr a3, fun k k3 k5 => (a4 k k3 k5).trans (yU_ne _ _ _ k3), a5⟩
          · rw [if_neg (show ¬ cKd (g.K (gR g (Y p))) = 0 from fun z => ky (cKd_inj (k := 0) kY5 (by omega) z)), obn_at, h.rd (i := 0) (t := gR g (X p)) (by decide) (by show _ < mo; omega), obn_at, eX]
            have bad : ¬ (g.K (gR g (X p)) = 1 ∧ g.K (gR g (Y p)) = 1) → ∀ ρ, gS g0 ρ → ¬ ρ one = ρ other := fun nk ρ a b => by
              obtain ⟨q1, q2⟩ := hU.2.2.2.1 ρ a b
              have e := q2 p (by omega)
              rw [← gR_eq hK.1 hX q1, ← gR_eq hK.1 hY q1] at e
              by_cases z1 : g.K (gR g (X p)) = 1
              · have z2 : g.K (gR g (Y p)) ≠ 1 := fun z => nk ⟨z1, z⟩
                rw [(q1 _ hXr).2.1 z1, (q1 _ hYr).2.2 (g.K (gR g (Y p)) - 2) (by omega)] at e
                exact yA_ne e
              · by_cases z2 : g.K (gR g (Y p)) = 1
                · rw [(q1 _ hYr).2.1 z2, (q1 _ hXr).2.2 (g.K (gR g (X p)) - 2) (by omega)] at e
                  exact yA_ne e.symm
                · rw [(q1 _ hXr).2.2 (g.K (gR g (X p)) - 2) (by omega), (q1 _ hYr).2.2 (g.K (gR g (Y p)) - 2) (by omega)] at e
                  have e := yB_inj e
                  have x4 : gR g (X p) < 4 := by
                    by_cases z : gR g (X p) < 4
                    · exact z
                    · have := hg.1.2.2 _ (show 4 ≤ gR g (X p) by omega) hXr; omega
                  have y4 : gR g (Y p) < 4 := by
                    by_cases z : gR g (Y p) < 4
                    · exact z
                    · have := hg.1.2.2 _ (show 4 ≤ gR g (Y p) by omega) hYr; omega
                  have := hg.1.2.1 _ x4
                  have := hg.1.2.1 _ y4
                  omega
            by_cases k1 : g.K (gR g (X p)) = 1
            · rw [if_pos (by rw [k1]; rfl), obn_at, h.rd (i := 0) (t := gR g (Y p)) (by decide) (by show _ < mo; omega), obn_at, eY]
              by_cases k2 : g.K (gR g (Y p)) = 1
              · rw [if_pos (by rw [k2]; rfl), r.2.2.2.1, obn_at]
                obtain ⟨s1, w1, w2, w3⟩ := h.wr (i := 3) (t := gR g (X p)) (by decide) (by show _ < mo; omega) (nI (gR g (Y p)))
                have cnt := gFr_lk (v := gR g (Y p)) rsX hXr c k1
                rw [hn] at cnt
                obtain ⟨fX1, fX2⟩ := (hg.2 _ hXr).2.1 k1
                obtain ⟨fY1, fY2⟩ := (hg.2 _ hYr).2.1 k2
                have q1 := w2.row
                have v1 : oai s1 (some (A 2)) .int (nI (gR g (X p))) = some (nI (g.R (gR g (X p)))) := by rw [w2.rd (i := 2) (by decide) (by show _ < mo; omega), yU_ne _ _ _ (by decide), fX2]
                obtain ⟨s2, x1, x2, x3⟩ := w2.wr (i := 5) (t := 2 * p) (by decide) (by show _ < 3 * mo; omega) (nI (g.R (gR g (X p))))
                have q2 := x2.row
                have v2 : oai s2 (some (A 2)) .int (nI (gR g (Y p))) = some (nI (g.R (gR g (Y p)))) := by rw [x2.rd (i := 2) (by decide) (by show _ < mo; omega), yU_ne _ _ _ (by decide), yU_ne _ _ _ (by decide), fY2]
                obtain ⟨s3, y1, y2, y3⟩ := x2.wr (i := 5) (t := 2 * p + 1) (by decide) (by show _ < 3 * mo; omega) (nI (g.R (gR g (Y p))))
                have q3 := y2.row
                have v3 : oai s3 (some (A 1)) .int (nI (gR g (X p))) = some (nI (g.L (gR g (X p)))) := by rw [y2.rd (i := 1) (by decide) (by show _ < mo; omega), yU_ne _ _ _ (by decide), yU_ne _ _ _ (by decide), yU_ne _ _ _ (by decide), fX1]
                obtain ⟨s4, z1, z2, z3⟩ := y2.wr (i := 5) (t := 2 * p + 1 + 1) (by decide) (by show _ < 3 * mo; omega) (nI (g.L (gR g (X p))))
                have q4 := z2.row
                have v4 : oai s4 (some (A 1)) .int (nI (gR g (Y p))) = some (nI (g.L (gR g (Y p)))) := by rw [z2.rd (i := 1) (by decide) (by show _ < mo; omega), yU_ne _ _ _ (by decide), yU_ne _ _ _ (by decide), yU_ne _ _ _ (by decide), yU_ne _ _ _ (by decide), fY1]
                obtain ⟨s5, t1, t2, t3⟩ := z2.wr (i := 5) (t := 2 * p + 1 + 1 + 1) (by decide) (by show _ < 3 * mo; omega) (nI (g.L (gR g (Y p))))
                simp only [w1, obn_at, q1.2.2.2.2.2.1, q1.2.2.1, v1, x1, q2.2.2.2.2.2.1, q2.2.2.1, v2, nI_p1, y1, q3.2.2.2.2.2.1, q3.2.1, v3, z1, q4.2.2.2.2.2.1, q4.2.1, v4, t1]
                unfold oj_X10_unify_222
                rw [nI_p1, show 2 * p + 1 + 1 + 1 + 1 = 2 * (p + 2) by omega]
                have st' : ∀ j, j < p + 2 → yU (yU (yU (yU (yU F 3 (gR g (X p)) (nI (gR g (Y p)))) 5 (2 * p) (nI (g.R (gR g (X p))))) 5 (2 * p + 1) (nI (g.R (gR g (Y p))))) 5 (2 * p + 1 + 1) (nI (g.L (gR g (X p))))) 5 (2 * p + 1 + 1 + 1) (nI (g.L (gR g (Y p)))) 5 (2 * j) = nI (un (un Y p (g.R (gR g (X p)))) (p + 1) (g.L (gR g (X p))) j) ∧ yU (yU (yU (yU (yU F 3 (gR g (X p)) (nI (gR g (Y p)))) 5 (2 * p) (nI (g.R (gR g (X p))))) 5 (2 * p + 1) (nI (g.R (gR g (Y p))))) 5 (2 * p + 1 + 1) (nI (g.L (gR g (X p))))) 5 (2 * p + 1 + 1 + 1) (nI (g.L (gR g (Y p)))) 5 (2 * j + 1) = nI (un (un X p (g.R (gR g (Y p)))) (p + 1) (g.L (gR g (Y p))) j) := fun j hj => by
                  simp only [yU_at]
                  by_cases c1 : j = p + 1
                  · subst c1
                    exact ⟨by rw [un_at, upd_ne _ _ (by omega), show 2 * (p + 1) = 2 * p + 1 + 1 by omega, upd_at], by rw [un_at, show 2 * (p + 1) + 1 = 2 * p + 1 + 1 + 1 by omega, upd_at]⟩
                  · by_cases c2 : j = p
                    · subst c2
                      exact ⟨by rw [un_ne _ _ (by omega), un_at, upd_ne _ _ (by omega), upd_ne _ _ (by omega), upd_ne _ _ (by omega), upd_at], by rw [un_ne _ _ (by omega), un_at, upd_ne _ _ (by omega), upd_ne _ _ (by omega), upd_at]⟩
                    · have hj2 := hst j (by omega)
                      exact ⟨by rw [un_ne _ _ (by omega), un_ne _ _ (by omega), upd_ne _ _ (by omega), upd_ne _ _ (by omega), upd_ne _ _ (by omega), upd_ne _ _ (by omega), yU_ne _ _ _ (by decide)]; exact hj2.1, by rw [un_ne _ _ (by omega), un_ne _ _ (by omega), upd_ne _ _ (by omega), upd_ne _ _ (by omega), upd_ne _ _ (by omega), upd_ne _ _ (by omega), yU_ne _ _ _ (by decide)]; exact hj2.2⟩
                have cg' : cGr (yU (yU (yU (yU (yU F 3 (gR g (X p)) (nI (gR g (Y p)))) 5 (2 * p) (nI (g.R (gR g (X p))))) 5 (2 * p + 1) (nI (g.R (gR g (Y p))))) 5 (2 * p + 1 + 1) (nI (g.L (gR g (X p))))) 5 (2 * p + 1 + 1 + 1) (nI (g.L (gR g (Y p))))) (gLk g (gR g (X p)) (gR g (Y p))) := (hg.lk (u := gR g (X p)) (v := gR g (Y p))).w (fun k hk => by rw [yU_ne _ _ _ (by omega), yU_ne _ _ _ (by omega), yU_ne _ _ _ (by omega), yU_ne _ _ _ (by omega)])
                obtain ⟨r', σ', F', a1, a2, a3, a4, a5⟩ := c_uniL hT ho hw hmo f (i + 1) (p + 2) _ s5 _ _ _ t2 cg' (hU.fn rfl rfl c k1 k2 rfl rfl) st' (by omega) (by omega) (by omega)
                exact ⟨r', σ', F', a1, a2, ((((w3.tr x3).tr y3).tr z3).tr t3).tr a3, fun k k3 k5 => (a4 k k3 k5).trans (by rw [yU_ne _ _ _ k5, yU_ne _ _ _ k5, yU_ne _ _ _ k5, yU_ne _ _ _ k5, yU_ne _ _ _ k3]), a5⟩
              · rw [if_neg (show ¬ cKd (g.K (gR g (Y p))) = 206 from fun z => k2 (cKd_inj (k := 1) kY5 (by omega) z))]
                exact ⟨false, σ, F, rfl, h, yF.rf y A σ, fun _ _ _ => rfl, fun z => (by cases z), fun _ => bad (fun z => k2 z.2)⟩
            · rw [if_neg (show ¬ cKd (g.K (gR g (X p))) = 206 from fun z => k1 (cKd_inj (k := 1) kX5 (by omega) z))]
              exact ⟨false, σ, F, rfl, h, yF.rf y A σ, fun _ _ _ => rfl, fun z => (by cases z), fun _ => bad (fun z => k1 z.1)⟩
/-- unify(one, other) -/
theorem c_unify {g0 : gG} {one other : Nat} {σ : oSt} {F : Nat → Nat → Int32} (hT : 24100 ≤ T) (h : yT y A mo F (nI g0.n) lv ft ov σ) (hg : cGr F g0) (hK : gK g0) (hC : gC g0) (hmo : g0.n ≤ mo) (ho : one < g0.n) (hw : other < g0.n) : ∃ (r : Bool) (σ' : oSt) (F' : Nat → Nat → Int32), oF κ T (n + 2) 150 [va_rf (some y), .int (nI one), .int (nI other)] σ = some (some (.int (b01 r)), σ') ∧ yT y A mo F' (nI g0.n) lv ft ov σ' ∧ yF y A σ σ' ∧ (∀ k, k ≠ 3 → k ≠ 5 → F' k = F k) ∧ (r = true → ∃ g', cGr F' g' ∧ gJ g0 g' one other) ∧ (r = false → ∀ ρ, gS g0 ρ → ¬ ρ one = ρ other) := by
  have hm := h.2.2.2
  have r := h.row
  have hx0 := xN_n g0.n (gFr g0)
  rw [oE_X10_unify]
  unfold ob_X10_unify
  obtain ⟨s1, w1, w2, w3⟩ := h.wr (i := 5) (t := 0) (by decide) (by show _ < 3 * mo; omega) (nI one)
  have q1 := w2.row
  obtain ⟨s2, v1, v2, v3⟩ := w2.wr (i := 5) (t := 1) (by decide) (by show _ < 3 * mo; omega) (nI other)
  rw [r.2.2.2.2.2.1, obn_at, show (0 : Int32) = nI 0 from rfl, w1, obn_at, q1.2.2.2.2.2.1, obn_at, show nI 0 + 1 = nI 1 from rfl, v1, obn_at, show nI 1 + 1 = nI (2 * 1) from rfl]
  obtain ⟨r', σ', F', a1, a2, a3, a4, a5⟩ := c_uniL (κ := κ) (n := n) (T := T) (by omega) ho hw hmo T 0 1 g0 s2 _ (fun _ => other) (fun _ => one) v2 (hg.w (fun k hk => by rw [yU_ne _ _ _ (by omega), yU_ne _ _ _ (by omega)])) (gU.st hK hC ho hw rfl rfl) (fun j hj => by
    have : j = 0 := by omega
    subst this
    simp only [yU_at]
    rw [upd_ne _ _ (by omega), upd_at, upd_at]
    exact ⟨rfl, rfl⟩) (by omega) (by omega) (by omega)
  exact ⟨r', σ', F', a1, a2, (w3.tr v3).tr a3, fun k k3 k5 => (a4 k k3 k5).trans (by rw [yU_ne _ _ _ k5, yU_ne _ _ _ k5]), a5⟩
end CUN
