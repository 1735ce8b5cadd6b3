/-! the class's types once they are found: kindOf, takenBy, answeredBy, leavesOf -/
/-- 1 function, 2 int, 3 bool, 4 array, 5 list -/
def yK : tY → Nat
  | .leaf => 0
  | .inner k _ _ _ _ => k + 1
def yLv : tY → Nat
  | .leaf => 1
  | .inner k _ _ a b => if k = 0 then yLv a + yLv b else 1
theorem yLv_A (a b : tY) : yLv (yA a b) = yLv a + yLv b := rfl
theorem yLv_B (k : Nat) : yLv (yB k) = 1 := rfl
theorem yLv_pos : ∀ t : tY, 1 ≤ yLv t
  | .leaf => Nat.le_refl _
  | .inner k _ _ a b => by
    have := yLv_pos a
    unfold yLv
    split <;> omega
theorem yH_pos {k : Nat} {a b : tY} : 1 ≤ yH (.inner k () () a b : tY) := Nat.le_add_left 1 _
theorem gCo.k {g : gG} {ρ : Nat → tY} (hK : gK g) (h : gCo g ρ) {c : Nat} (hc : c < g.n) : yK (ρ c) = if g.K (gR g c) = 0 then 2 else g.K (gR g c) := by
  rcases gCo.at hK h hc with ⟨k1, e, -⟩ | ⟨k1, e⟩
  · rw [e, k1, if_neg (by decide)]
    rfl
  · rw [e]
    show g.K (gR g c) - 2 + 1 + 1 = _
    split <;> omega
def sN : Nat → (Nat → Nat) → Nat
  | 0, _ => 0
  | n + 1, p => sN n p + p n
theorem sN_cg {n : Nat} {p p' : Nat → Nat} (h : ∀ t, t < n → p t = p' t) : sN n p = sN n p' := by
  induction n with
  | zero => rfl
  | succ n IH =>
    unfold sN
    rw [IH (fun t ht => h t (by omega)), h n (by omega)]
/-- types are found: the graph g, its solution ρ -/
def yTf (y : Nat) (A : Nat → Nat) (mo : Nat) (g : gG) (ρ : Nat → tY) (lv ov : Int32) (σ : oSt) : Prop := ∃ F, yT y A mo F (nI g.n) lv (-1) ov σ ∧ cGr F g ∧ gK g ∧ gCo g ρ ∧ g.n ≤ mo ∧ ∀ c, c < g.n → yH (ρ c) ≤ mo + 1
section CTF
variable {κ : oKv} {T n mo y : Nat} {A : Nat → Nat} {g : gG} {ρ : Nat → tY} {lv ov : Int32} {σ : oSt} {c : Nat}
theorem c_kindOf (hT : 9010 ≤ T) (h : yTf y A mo g ρ lv ov σ) (hc : c < g.n) : oF κ T (n + 2) 22 [va_rf (some y), .int (nI c)] σ = some (some (.int (cKd (yK (ρ c)))), σ) := by
  obtain ⟨F, h1, h2, h3, h4, h5, -⟩ := h
  have hr := gR_lt h3.1 hc
  have r := h1.row
  rw [show n + 2 = (n + 1) + 1 from rfl, oE_X10_kindOf]
  unfold ob_X10_kindOf
  rw [r.1, obn_at, h1.ob, obn_at, c_root hT h1 h2 h5 h3.1 hc, oin_at, h1.rd (i := 0) (by decide) (show gR g c < mo by omega), obn_at, (h2.2 _ hr).1, gCo.k h3 h4 hc]
  by_cases e : g.K (gR g c) = 0
  · rw [if_pos (by rw [e]; rfl), if_pos e]
    rfl
  · rw [if_neg (fun z => e (cKd_inj (h2.k5 hr) (by decide) (z.trans (show (0 : Int32) = cKd 0 from rfl)))), if_neg e]
theorem yTf.fn (h : yTf y A mo g ρ lv ov σ) (hc : c < g.n) (hk : yK (ρ c) = 1) : g.K (gR g c) = 1 ∧ (g.L (gR g c) < g.n ∧ g.R (gR g c) < g.n) ∧ ρ c = yA (ρ (g.L (gR g c))) (ρ (g.R (gR g c))) := by
  obtain ⟨F, h1, h2, h3, h4, h5, -⟩ := h
  rcases gCo.at h3 h4 hc with ⟨k1, e, l1, l2⟩ | ⟨k1, e⟩
  · exact ⟨k1, ⟨l1, l2⟩, e⟩
  · rw [e] at hk
    have hk : g.K (gR g c) - 2 + 1 + 1 = 1 := hk
    omega
theorem c_takenBy (hT : 9010 ≤ T) (h : yTf y A mo g ρ lv ov σ) (hc : c < g.n) (hk : yK (ρ c) = 1) : oF κ T (n + 2) 23 [va_rf (some y), .int (nI c)] σ = some (some (.int (nI (g.L (gR g c)))), σ) := by
  obtain ⟨k1, -, -⟩ := h.fn hc hk
  obtain ⟨F, h1, h2, h3, h4, h5, -⟩ := h
  have hr := gR_lt h3.1 hc
  have r := h1.row
  rw [show n + 2 = (n + 1) + 1 from rfl, oE_X10_takenBy]
  unfold ob_X10_takenBy
  rw [r.2.1, obn_at, h1.ob, obn_at, c_root hT h1 h2 h5 h3.1 hc, oin_at, h1.rd (i := 1) (by decide) (show gR g c < mo by omega), obn_at, ((h2.2 _ hr).2.1 k1).1]
theorem c_answeredBy (hT : 9010 ≤ T) (h : yTf y A mo g ρ lv ov σ) (hc : c < g.n) (hk : yK (ρ c) = 1) : oF κ T (n + 2) 24 [va_rf (some y), .int (nI c)] σ = some (some (.int (nI (g.R (gR g c)))), σ) := by
  obtain ⟨k1, -, -⟩ := h.fn hc hk
  obtain ⟨F, h1, h2, h3, h4, h5, -⟩ := h
  have hr := gR_lt h3.1 hc
  have r := h1.row
  rw [show n + 2 = (n + 1) + 1 from rfl, oE_X10_answeredBy]
  unfold ob_X10_answeredBy
  rw [r.2.2.1, obn_at, h1.ob, obn_at, c_root hT h1 h2 h5 h3.1 hc, oin_at, h1.rd (i := 2) (by decide) (show gR g c < mo by omega), obn_at, ((h2.2 _ hr).2.1 k1).2]
set_option maxHeartbeats 1000000 in
theorem c_lvL {ft : Int32} {H : Nat} (hT : 9010 ≤ T) (hK : gK g) (hco : gCo g ρ) (hmo : g.n ≤ mo) (hH : H ≤ mo + 1) : ∀ (f i p fd q : Nat) (W : Nat → Nat) (σ : oSt) (F : Nat → Nat → Int32), yT y A mo F (nI g.n) lv ft ov σ → cGr F g → (∀ j, j < p → F 5 j = nI (W j) ∧ W j < g.n ∧ yH (ρ (W j)) + j ≤ H) → fd + q = 61 → i + (q * (H + 1) + (if p = 0 then 0 else yH (ρ (W (p - 1))))) < 1000000 → q * (H + 1) + (if p = 0 then 0 else yH (ρ (W (p - 1)))) < f → ∃ σ' F', ol_X10_leavesOf_17 T (oF κ T (n + 1)) κ f (some y) (nI fd) (nI p) (nI i) σ = some (some (.int (nI (min 61 (fd + sN p (fun j => yLv (ρ (W j))))))), σ') ∧ yT y A mo F' (nI g.n) lv ft ov σ' ∧ yF y A σ σ' ∧ ∀ k, k < 5 → F' k = F k
  | 0, i, p, fd, q, W, σ, F, _, _, _, _, _, hf => by omega
  | f + 1, i, p, fd, q, W, σ, F, h, hg, hW, hq, hi, hf => by
    have hm := h.2.2.2
    rw [ol_X10_leavesOf_17]
    rw [if_neg (show ¬ (1000000 : Int32) ≤ nI i from nI_ge (a := i) (b := 1000000) (by omega) (by decide))]
    cases p with
    | zero =>
      rw [if_pos (show nI 0 ≤ 0 by decide)]
      refine ⟨σ, F, ?_, h, yF.rf y A σ, fun _ _ => rfl⟩
      show some (some (Value.int (nI fd)), σ) = some (some (Value.int (nI (min 61 (fd + 0)))), σ)
      rw [Nat.add_zero, Nat.min_eq_right (by omega)]
    | succ p =>
      rw [if_neg (show ¬ nI (p + 1) ≤ 0 from nI_ge (a := 0) (by omega) (by have := (hW p (by omega)).2.2; omega))]
      cases q with
      | zero =>
        have e61 : fd = 61 := by omega
        subst e61
        rw [if_pos (by decide)]
        refine ⟨σ, F, ?_, h, yF.rf y A σ, fun _ _ => rfl⟩
        rw [Nat.min_eq_left (by omega)]
      | succ q =>
        rw [if_neg (show ¬ (60 : Int32) < nI fd by
          rw [show (60 : Int32) = nI 60 from rfl]
          exact nI_nlt (by omega) (by decide))]
        obtain ⟨w1, w2, w3⟩ := hW p (by omega)
        have r := h.row
        have hr := gR_lt hK.1 w2
        rw [Nat.succ_mul] at hi hf
        rw [if_neg (by omega), Nat.add_sub_cancel] at hi hf
        rw [r.2.2.2.2.2.1, obn_at, nI_mi, h.rd (i := 5) (by decide) (show p < 3 * mo by omega), obn_at, w1, h.ob, obn_at, c_root hT h hg hmo hK.1 w2, oin_at, r.1, obn_at, h.rd (i := 0) (by decide) (show gR g (W p) < mo by omega), obn_at, (hg.2 _ hr).1]
        generalize hX : q * (H + 1) = X at hi hf
        rcases gCo.at hK hco w2 with ⟨k1, e, l1, l2⟩ | ⟨k1, e⟩
        · rw [if_pos (by rw [k1]; rfl)]
          have yl := yA_lt (ρ (g.L (gR g (W p)))) (ρ (g.R (gR g (W p))))
          rw [← e] at yl
          obtain ⟨s1, a1, a2, a3⟩ := h.wr (i := 5) (t := p) (by decide) (show p < 3 * mo by omega) (nI (g.R (gR g (W p))))
          have r1 := a2.row
          obtain ⟨s2, b1, b2, b3⟩ := a2.wr (i := 5) (t := p + 1) (by decide) (show p + 1 < 3 * mo by omega) (nI (g.L (gR g (W p))))
          rw [r.2.2.2.2.2.1, obn_at, r.2.2.1, obn_at, h.rd (i := 2) (by decide) (show gR g (W p) < mo by omega), obn_at, ((hg.2 _ hr).2.1 k1).2, a1, obn_at, r1.2.2.2.2.2.1, obn_at, r1.2.1, obn_at, a2.rd (i := 1) (by decide) (show gR g (W p) < mo by omega), obn_at, yU_ne _ _ _ (by decide), ((hg.2 _ hr).2.1 k1).1, nI_p1, b1, obn_at]
          unfold oj_X10_leavesOf_100
          rw [nI_p1, nI_p1]
          have F5 : yU (yU F 5 p (nI (g.R (gR g (W p))))) 5 (p + 1) (nI (g.L (gR g (W p)))) 5 = upd (upd (F 5) p (nI (g.R (gR g (W p))))) (p + 1) (nI (g.L (gR g (W p)))) := by rw [yU_at, yU_at]
          obtain ⟨σ', F', c1, c2, c3, c4⟩ := c_lvL hT hK hco hmo hH f (i + 1) (p + 2) fd (q + 1) (un (un W p (g.R (gR g (W p)))) (p + 1) (g.L (gR g (W p)))) s2 _ b2 ⟨hg.1, fun t ht => by
            rw [yU_ne _ _ _ (by decide), yU_ne _ _ _ (by decide), yU_ne _ _ _ (by decide), yU_ne _ _ _ (by decide), yU_ne _ _ _ (by decide), yU_ne _ _ _ (by decide), yU_ne _ _ _ (by decide), yU_ne _ _ _ (by decide)]
            exact hg.2 t ht⟩ (fun j hj => by
            rw [F5]
            by_cases e1 : j = p + 1
            · subst e1
              rw [upd_at, un_at]
              exact ⟨rfl, l1, by omega⟩
            · rw [upd_ne _ _ e1, un_ne _ _ e1]
              by_cases e2 : j = p
              · subst e2
                rw [upd_at, un_at]
                exact ⟨rfl, l2, by omega⟩
              · rw [upd_ne _ _ e2, un_ne _ _ e2]
                exact hW j (by omega)) hq (by
            rw [if_neg (by omega), Nat.succ_mul, hX, show p + 2 - 1 = p + 1 from rfl, un_at]
            omega) (by
            rw [if_neg (by omega), Nat.succ_mul, hX, show p + 2 - 1 = p + 1 from rfl, un_at]
            omega)
          refine ⟨σ', F', ?_, c2, (a3.tr b3).tr c3, fun k hk => (c4 k hk).trans (by rw [yU_ne _ _ _ (by omega), yU_ne _ _ _ (by omega)])⟩
          rw [c1]
          have es : sN (p + 2) (fun j => yLv (ρ (un (un W p (g.R (gR g (W p)))) (p + 1) (g.L (gR g (W p))) j))) = sN (p + 1) (fun j => yLv (ρ (W j))) := by
            show sN p _ + yLv (ρ (un (un W p (g.R (gR g (W p)))) (p + 1) (g.L (gR g (W p))) p)) + yLv (ρ (un (un W p (g.R (gR g (W p)))) (p + 1) (g.L (gR g (W p))) (p + 1))) = sN p _ + yLv (ρ (W p))
            rw [un_at, un_ne _ _ (show p ≠ p + 1 by omega), un_at, e, yLv_A, sN_cg (p' := fun j => yLv (ρ (W j))) (fun t ht => by rw [un_ne _ _ (by omega), un_ne _ _ (by omega)])]
            omega
          rw [es]
        · rw [if_neg (fun z => k1 (cKd_inj (hg.k5 hr) (by decide) (z.trans (show (206 : Int32) = cKd 1 from rfl))))]
          unfold oj_X10_leavesOf_100
          rw [nI_p1, nI_p1]
          have hy1 : 1 ≤ yH (ρ (W p)) := by rw [e]; exact yH_pos
          obtain ⟨σ', F', c1, c2, c3, c4⟩ := c_lvL hT hK hco hmo hH f (i + 1) p (fd + 1) q W σ F h hg (fun j hj => hW j (by omega)) (by omega) (by
            rw [hX]
            split
            · omega
            · have := (hW (p - 1) (by omega)).2.2
              omega) (by
            rw [hX]
            split
            · omega
            · have := (hW (p - 1) (by omega)).2.2
              omega)
          refine ⟨σ', F', ?_, c2, c3, c4⟩
          rw [c1]
          have es : fd + 1 + sN p (fun j => yLv (ρ (W j))) = fd + sN (p + 1) (fun j => yLv (ρ (W j))) := by
            show _ = fd + (sN p _ + yLv (ρ (W p)))
            rw [e, yLv_B]
            omega
          rw [es]
/-- leavesOf(type) -/
theorem c_leaves (hT : 500000 ≤ T) (h : yTf y A mo g ρ lv ov σ) (hc : c < g.n) : ∃ σ', oF κ T (n + 2) 160 [va_rf (some y), .int (nI c)] σ = some (some (.int (nI (min 61 (yLv (ρ c))))), σ') ∧ yTf y A mo g ρ lv ov σ' ∧ yF y A σ σ' := by
  obtain ⟨F, h1, h2, h3, h4, h5, h6⟩ := h
  have hm := h1.2.2.2
  have r := h1.row
  have hH := h6 c hc
  obtain ⟨s1, a1, a2, a3⟩ := h1.wr (i := 5) (t := 0) (by decide) (show 0 < 3 * mo by omega) (nI c)
  obtain ⟨σ', F', c1, c2, c3, c4⟩ := c_lvL (κ := κ) (T := T) (n := n) (H := yH (ρ c)) (by omega) h3 h4 h5 hH T 0 1 0 61 (fun _ => c) s1 _ a2 ⟨h2.1, fun t ht => by
    rw [yU_ne _ _ _ (by decide), yU_ne _ _ _ (by decide), yU_ne _ _ _ (by decide), yU_ne _ _ _ (by decide)]
    exact h2.2 t ht⟩ (fun j hj => by
    have : j = 0 := by omega
    subst this
    rw [yU_at, upd_at]
    exact ⟨rfl, hc, by omega⟩) rfl (by rw [if_neg (by decide)]; omega) (by rw [if_neg (by decide)]; omega)
  refine ⟨σ', ?_, ⟨F', c2, ⟨h2.1, fun t ht => ?_⟩, h3, h4, h5, h6⟩, a3.tr c3⟩
  · rw [show n + 2 = (n + 1) + 1 from rfl, oE_X10_leavesOf]
    unfold ob_X10_leavesOf
    rw [r.2.2.2.2.2.1, obn_at, show (0 : Int32) = nI 0 from rfl, a1, obn_at, show nI 0 + 1 = nI 1 from rfl, c1]
    show some (some (Value.int (nI (min 61 (0 + (0 + yLv (ρ c)))))), σ') = _
    rw [Nat.zero_add, Nat.zero_add]
  · have e : ∀ k, k < 5 → F' k = F k := fun k hk => (c4 k hk).trans (yU_ne _ _ _ (by omega))
    rw [e 0 (by decide), e 1 (by decide), e 2 (by decide), e 3 (by decide)]
    exact h2.2 t ht
end CTF
