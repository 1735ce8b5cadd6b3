/-! the class: isFinite, must -/
section CFI
variable {κ : oKv} {T n mo y : Nat} {A : Nat → Nat} {lv ft ov : Int32}
def gWh (g : gG) (c : Nat → Nat) (t : Nat) : Bool := decide (g.K t = 1 ∧ c t = 0)
theorem gWh_1 {g : gG} {c : Nat → Nat} {x : Nat} (hx : x < g.n) (h0 : c x = 0) (kx : g.K x = 1) : xN g.n (gWh g (un c x 1)) + 1 = xN g.n (gWh g c) := by
  refine xN_off hx (fun t _ e => ?_) (decide_eq_true ⟨kx, h0⟩) ?_
  · unfold gWh; rw [un_ne _ _ e]
  · exact decide_eq_false (fun z => by have := z.2; rw [un_at] at this; cases this)
theorem gWh_2 {g : gG} {c : Nat → Nat} {x : Nat} : xN g.n (gWh g (un c x 2)) ≤ xN g.n (gWh g c) := xN_le (fun t _ z => by
  have z := of_decide_eq_true z
  refine decide_eq_true ⟨z.1, ?_⟩
  by_cases e : t = x
  · have := z.2; rw [e, un_at] at this; cases this
  · have := z.2; rw [un_ne _ _ e] at this; exact this)
set_option maxHeartbeats 1000000 in
theorem c_finL {g : gG} {fd : Nat} (hT : 9010 ≤ T) (hK : gK g) (hmo : g.n ≤ mo) : ∀ (f i p : Nat) (c W : Nat → Nat) (σ : oSt) (F : Nat → Nat → Int32), yT y A mo F (nI g.n) lv ft ov σ → cGr F g → dI g fd c p W → (∀ t, t < g.n → F 4 t = nI (c t)) → (∀ j, j < p → F 5 j = nI (W j)) → p + 2 * xN g.n (gWh g c) ≤ 1 + 2 * g.n → i + p + 3 * xN g.n (gWh g c) ≤ 1 + 3 * g.n → p + 3 * xN g.n (gWh g c) < f → ∃ (r : Bool) (σ' : oSt) (F' : Nat → Nat → Int32), ol_X10_isFinite_22 T (oF κ T (n + 1)) κ f (some y) (nI p) (nI i) σ = some (some (.int (b01 r)), σ') ∧ yT y A mo F' (nI g.n) lv ft ov σ' ∧ yF y A σ σ' ∧ (∀ k, k < 4 → F' k = F k) ∧ (r = true → ∃ c' W', dI g fd c' 0 W') ∧ (r = false → ∀ ρ, ¬ gS g ρ)
  | 0, i, p, c, W, σ, F, _, _, _, _, _, _, _, hf => by omega
  | f + 1, i, p, c, W, σ, F, h, hg, hD, h4, h5, hp, hi, hf => by
    have hm := h.2.2.2
    rw [ol_X10_isFinite_22, if_neg (show ¬ (1000000 : Int32) ≤ nI i from nI_ge (a := i) (b := 1000000) (by omega) (by decide))]
    cases p with
    | zero =>
      rw [if_pos (show nI 0 ≤ 0 by decide)]
      exact ⟨true, σ, F, rfl, h, yF.rf y A σ, fun _ _ => rfl, fun _ => ⟨c, W, hD⟩, fun z => by cases z⟩
    | succ p =>
      have hW := hD.1.1 p (by omega)
      have r := h.row
      obtain ⟨x, hx⟩ : ∃ x, x = gR g (W p) := ⟨_, rfl⟩
      have hxn : x < g.n := by rw [hx]; exact gR_lt hK.1 hW
      have k5 := hg.k5 hxn
      have ek := (hg.2 x hxn).1
      rw [if_neg (show ¬ nI (p + 1) ≤ 0 from nI_ge (a := 0) (b := p + 1) (by omega) (by omega)), r.2.2.2.2.2.1, obn_at, nI_s1, h.rd (i := 5) (t := p) (by decide) (by show _ < 3 * mo; omega), obn_at, h5 p (by omega), h.ob, obn_at, c_root hT h hg hmo hK.1 hW, oin_at, ← hx, r.2.2.2.2.1, obn_at, h.rd (i := 4) (t := x) (by decide) (by show _ < mo; omega), obn_at, h4 x hxn]
      have cl2 := hD.1.2 x
      have pop : (c x ≠ 0 ∨ g.K x ≠ 1) → ∃ (r : Bool) (σ' : oSt) (F' : Nat → Nat → Int32), oj_X10_isFinite_69 T (oF κ T (n + 1)) κ (ol_X10_isFinite_22 T (oF κ T (n + 1)) κ f) (some y) (nI (p + 1)) (nI i) (nI x) σ = some (some (.int (b01 r)), σ') ∧ yT y A mo F' (nI g.n) lv ft ov σ' ∧ yF y A σ σ' ∧ (∀ k, k < 4 → F' k = F k) ∧ (r = true → ∃ c' W', dI g fd c' 0 W') ∧ (r = false → ∀ ρ, ¬ gS g ρ) := fun hc => by
        obtain ⟨s1, w1, w2, w3⟩ := h.wr (i := 4) (t := x) (by decide) (by show _ < mo; omega) 2
        have wh := gWh_2 (g := g) (c := c) (x := x)
        unfold oj_X10_isFinite_69 oj_X10_isFinite_163
        rw [r.2.2.2.2.1, obn_at, w1, obn_at, nI_mi, nI_p1]
        obtain ⟨r', σ', F', a1, a2, a3, a4, a5⟩ := c_finL hT hK hmo f (i + 1) p (un c x 2) W s1 _ w2 (hg.w (fun k hk => yU_ne _ _ _ (by omega))) (hD.pop hx hc) (fun t ht => by
          rw [yU_at]
          by_cases e : t = x
          · rw [e, upd_at, un_at]; rfl
          · rw [upd_ne _ _ e, un_ne _ _ e]; exact h4 t ht) (fun j hj => by rw [yU_ne _ _ _ (by decide)]; exact h5 j (by omega)) (by omega) (by omega) (by omega)
        exact ⟨r', σ', F', a1, a2, w3.tr a3, fun k hk => (a4 k hk).trans (yU_ne _ _ _ (by omega)), a5⟩
      by_cases c0 : c x = 0
      · rw [if_pos (by rw [c0]; rfl), r.1, obn_at, h.rd (i := 0) (t := x) (by decide) (by show _ < mo; omega), obn_at, ek]
        by_cases kx : g.K x = 1
        · rw [if_pos (by rw [kx]; rfl)]
          obtain ⟨s1, w1, w2, w3⟩ := h.wr (i := 4) (t := x) (by decide) (by show _ < mo; omega) 1
          have q1 := w2.row
          have hg1 : cGr (yU F 4 x 1) g := hg.w (fun k hk => yU_ne _ _ _ (by omega))
          have hl := (hK.2 x hxn).1 kx
          have hln := gR_lt hK.1 hl.1
          have hrn := gR_lt hK.1 hl.2
          obtain ⟨f1, f2⟩ := (hg.2 x hxn).2.1 kx
          have c4 : ∀ t, t < g.n → yU F 4 x 1 4 t = nI (un c x 1 t) := fun t ht => by
            rw [yU_at]
            by_cases e : t = x
            · rw [e, upd_at, un_at]; rfl
            · rw [upd_ne _ _ e, un_ne _ _ e]; exact h4 t ht
          have v1 : oai s1 (some (A 1)) .int (nI x) = some (nI (g.L x)) := by rw [w2.rd (i := 1) (by decide) (by show _ < mo; omega), yU_ne _ _ _ (by decide), f1]
          have v2 : oai s1 (some (A 2)) .int (nI x) = some (nI (g.R x)) := by rw [w2.rd (i := 2) (by decide) (by show _ < mo; omega), yU_ne _ _ _ (by decide), f2]
          have v3 : oai s1 (some (A 4)) .int (nI (gR g (g.L x))) = some (nI (un c x 1 (gR g (g.L x)))) := by rw [w2.rd (i := 4) (by decide) (by show _ < mo; omega), c4 _ hln]
          have v4 : oai s1 (some (A 4)) .int (nI (gR g (g.R x))) = some (nI (un c x 1 (gR g (g.R x)))) := by rw [w2.rd (i := 4) (by decide) (by show _ < mo; omega), c4 _ hrn]
          simp only [r.2.2.2.2.1, obn_at, w1, q1.2.1, v1, w2.ob, c_root (κ := κ) (n := n) hT w2 hg1 hmo hK.1 hl.1, oin_at, q1.2.2.1, v2, c_root (κ := κ) (n := n) hT w2 hg1 hmo hK.1 hl.2, q1.2.2.2.2.1, v3, v4]
          have two : ∀ z, un c x 1 z ≤ 2 := fun z => by unfold un; split; omega; exact hD.1.2 z
          have bad : (un c x 1 (gR g (g.L x)) = 1 ∨ un c x 1 (gR g (g.R x)) = 1) → ∃ (r : Bool) (σ' : oSt) (F' : Nat → Nat → Int32), (some (some (Value.int 0), s1) : oRs) = some (some (.int (b01 r)), σ') ∧ yT y A mo F' (nI g.n) lv ft ov σ' ∧ yF y A σ σ' ∧ (∀ k, k < 4 → F' k = F k) ∧ (r = true → ∃ c' W', dI g fd c' 0 W') ∧ (r = false → ∀ ρ, ¬ gS g ρ) := fun z => ⟨false, s1, _, rfl, w2, w3, fun k hk => yU_ne _ _ _ (by omega), fun z => (by cases z), fun _ => hD.bad hK hx c0 kx z⟩
          have one' : ∀ z, nI (un c x 1 z) = 1 → un c x 1 z = 1 := fun z e => nI_inj' (b := 1) (by have := two z; omega) (by decide) e
          by_cases cl : un c x 1 (gR g (g.L x)) = 1
          · rw [if_pos (by rw [cl]; rfl)]
            exact bad (Or.inl cl)
          · rw [if_neg (fun z => cl (one' _ z))]
            by_cases cr : un c x 1 (gR g (g.R x)) = 1
            · rw [if_pos (by rw [cr]; rfl)]
              exact bad (Or.inr cr)
            · rw [if_neg (fun z => cr (one' _ z))]
              have wh := gWh_1 hxn c0 kx
              obtain ⟨s2, x1, x2, x3⟩ := w2.wr (i := 5) (t := p + 1) (by decide) (by show _ < 3 * mo; omega) (nI (gR g (g.R x)))
              have q2 := x2.row
              obtain ⟨s3, y1, y2, y3⟩ := x2.wr (i := 5) (t := p + 1 + 1) (by decide) (by show _ < 3 * mo; omega) (nI (gR g (g.L x)))
              simp only [q1.2.2.2.2.2.1, obn_at, x1, q2.2.2.2.2.2.1, nI_p1, y1]
              unfold oj_X10_isFinite_163
              rw [nI_p1]
              obtain ⟨r', σ', F', a1, a2, a3, a4, a5⟩ := c_finL hT hK hmo f (i + 1) (p + 3) (un c x 1) (un (un W (p + 1) (gR g (g.R x))) (p + 2) (gR g (g.L x))) s3 _ y2 (hg.w (fun k hk => by rw [yU_ne _ _ _ (by omega), yU_ne _ _ _ (by omega), yU_ne _ _ _ (by omega)])) (hD.push hK hx c0 kx cl cr) (fun t ht => by
                rw [yU_ne _ _ _ (by decide), yU_ne _ _ _ (by decide)]
                exact c4 t ht) (fun j hj => by
                simp only [yU_at]
                by_cases e2 : j = p + 2
                · rw [e2, un_at, show p + 2 = p + 1 + 1 from rfl, upd_at]
                · by_cases e1 : j = p + 1
                  · rw [e1, un_ne _ _ (by omega), un_at, upd_ne _ _ (by omega), upd_at]
                  · rw [un_ne _ _ e2, un_ne _ _ e1, upd_ne _ _ (by omega), upd_ne _ _ e1, yU_ne _ _ _ (by decide)]
                    exact h5 j (by omega)) (by omega) (by omega) (by omega)
              exact ⟨r', σ', F', a1, a2, ((w3.tr x3).tr y3).tr a3, fun k hk => (a4 k hk).trans (by rw [yU_ne _ _ _ (by omega), yU_ne _ _ _ (by omega), yU_ne _ _ _ (by omega)]), a5⟩
        · rw [if_neg (show ¬ cKd (g.K x) = 206 from fun z => kx (cKd_inj (k := 1) k5 (by omega) z))]
          exact pop (Or.inr kx)
      · rw [if_neg (show ¬ nI (c x) = 0 from fun z => c0 (nI_inj' (b := 0) (by omega) (by decide) z))]
        exact pop (Or.inl c0)
/-- isFinite(fd) -/
theorem c_finite {g : gG} {fd : Nat} {σ : oSt} {F : Nat → Nat → Int32} (hT : 25000 ≤ T) (h : yT y A mo F (nI g.n) lv ft ov σ) (hg : cGr F g) (hK : gK g) (hmo : g.n ≤ mo) (hfd : fd < g.n) : ∃ (r : Bool) (σ' : oSt) (F' : Nat → Nat → Int32), oF κ T (n + 2) 151 [va_rf (some y), .int (nI fd)] σ = some (some (.int (b01 r)), σ') ∧ yT y A mo F' (nI g.n) lv ft ov σ' ∧ yF y A σ σ' ∧ (∀ k, k < 4 → F' k = F k) ∧ (r = true → ∃ c' W', dI g fd c' 0 W') ∧ (r = false → ∀ ρ, ¬ gS g ρ) := by
  have hm := h.2.2.2
  have r := h.row
  rw [oE_X10_isFinite]
  unfold ob_X10_isFinite
  obtain ⟨s1, F1, a1, a2, a3, a4, a5⟩ := c_fill (κ := κ) (n := n) (T := T) (by omega) h (i := 4) (by decide) 0
  rw [r.2.2.2.2.1, obn_at, a1, ocv_at]
  have q1 := a2.row
  obtain ⟨s2, x1, x2, x3⟩ := a2.wr (i := 5) (t := 0) (by decide) (by show _ < 3 * mo; omega) (nI fd)
  rw [q1.2.2.2.2.2.1, obn_at, show (0 : Int32) = nI 0 from rfl, x1, obn_at, show nI 0 + 1 = nI 1 from rfl]
  have hx := xN_n g.n (gWh g (fun _ => 0))
  obtain ⟨r', σ', F', b1, b2, b3, b4, b5⟩ := c_finL (κ := κ) (n := n) (T := T) (fd := fd) (by omega) hK hmo T 0 1 (fun _ => 0) (fun _ => fd) s2 _ x2 (hg.w (fun k hk => by rw [yU_ne _ _ _ (by omega), a5 k (by omega)])) (dI.st hfd rfl (fun _ => rfl)) (fun t ht => by rw [yU_ne _ _ _ (by decide), a4 t (by show t < mo; omega)]; rfl) (fun j hj => by rw [yU_at, show j = 0 by omega, upd_at]) (by omega) (by omega) (by omega)
  exact ⟨r', σ', F', b1, b2, (a3.tr x3).tr b3, fun k hk => (b4 k hk).trans (by rw [yU_ne _ _ _ (by omega), a5 k (by omega)]), b5⟩
/-- must(found, wanted, where) -/
theorem c_must {g : gG} {fd wd : Nat} {σ : oSt} {F : Nat → Nat → Int32} {pl : Int32} (hT : 25000 ≤ T) (h : yT y A mo F (nI g.n) lv (-1) ov σ) (hg : cGr F g) (hK : gK g) (hC : gC g) (hs : ∃ ρ, gS g ρ) (hmo : g.n ≤ mo) (hfd : fd < g.n) (hwd : wd < g.n) : ∃ (r : Bool) (σ' : oSt) (F' : Nat → Nat → Int32), oF κ T (n + 3) 152 [va_rf (some y), .int (nI fd), .int (nI wd), .int pl] σ = some (none, σ') ∧ yT y A mo F' (nI g.n) lv (if r = true then -1 else pl) ov σ' ∧ yF y A σ σ' ∧ (r = true → ∃ g', cGr F' g' ∧ gJ g g' fd wd ∧ ∃ ρ, gS g' ρ) ∧ (r = false → ∀ ρ, gS g ρ → ¬ ρ fd = ρ wd) := by
  have r := h.row
  rw [oE_X10_must]
  unfold ob_X10_must
  rw [r.2.2.2.2.2.2.2.2.1, obn_at, if_neg (show ¬ (0 : Int32) ≤ -1 by decide), h.ob, obn_at]
  obtain ⟨r1, s1, F1, a1, a2, a3, a4, a5, a6⟩ := c_unify (κ := κ) (n := n) (T := T) (by omega) h hg hK hC hmo hfd hwd
  rw [a1, oin_at]
  cases r1 with
  | false =>
    rw [if_pos (show b01 false = 0 from rfl)]
    unfold oj_X10_must_24
    obtain ⟨p1, p2⟩ := a2.put (nI g.n) lv pl ov
    rw [a2.p8, obn_at]
    exact ⟨false, _, F1, rfl, p1, a3.tr p2, fun z => (by cases z), fun _ => a6 rfl⟩
  | true =>
    rw [if_neg (show ¬ b01 true = 0 by decide), a2.ob, obn_at]
    obtain ⟨g', g1, g2⟩ := a5 rfl
    have hn : g'.n = g.n := g2.1.1
    have a2' : yT y A mo F1 (nI g'.n) lv (-1) ov s1 := by rw [hn]; exact a2
    obtain ⟨r2, s2, F2, b1, b2, b3, b4, b5, b6⟩ := c_finite (κ := κ) (n := n) (T := T) hT a2' g1 g2.2.1 (by rw [hn]; exact hmo) (show fd < g'.n by rw [hn]; exact hfd)
    rw [b1, oin_at]
    rw [hn] at b2
    cases r2 with
    | false =>
      rw [if_pos (show b01 false = 0 from rfl)]
      unfold oj_X10_must_24
      obtain ⟨p1, p2⟩ := b2.put (nI g.n) lv pl ov
      rw [b2.p8, obn_at]
      exact ⟨false, _, F2, rfl, p1, (a3.tr b3).tr p2, fun z => (by cases z), fun _ ρ hρ e => b6 rfl ρ ((g2.2.2.2.2.2 ρ).mpr ⟨hρ, e⟩)⟩
    | true =>
      rw [if_neg (show ¬ b01 true = 0 by decide)]
      obtain ⟨c', W', hD⟩ := b5 rfl
      exact ⟨true, s2, F2, rfl, b2, a3.tr b3, fun _ => ⟨g', g1.w b4, g2, dI.fin hK hC hs g2 hfd hwd hD⟩, fun z => (by cases z)⟩
/-- must() behind a fault -/
theorem c_mustF {c : Int32} {σ : oSt} {F : Nat → Nat → Int32} {x1 x2 pl fl : Int32} (h : yT y A mo F c lv fl ov σ) (hf : 0 ≤ fl) : oF κ T (n + 1) 152 [va_rf (some y), .int x1, .int x2, .int pl] σ = some (none, σ) := by
  rw [oE_X10_must]
  unfold ob_X10_must
  rw [h.row.2.2.2.2.2.2.2.2.1, obn_at, if_pos hf]
end CFI
