/-! the class: unify -/
/-- functions that are ends -/
def gFr (g : gG) (t : Nat) : Bool := decide (g.K t = 1 ∧ g.S t = t)
/-- what is the same once the pairs are -/
def gCl (g : gG) (p : Nat) (X Y : Nat → Nat) (x y : Nat) : Prop := ∀ Q : Nat → Nat → Prop, (∀ a, Q a a) → (∀ a b, Q a b → Q b a) → (∀ a b c, Q a b → Q b c → Q a c) → (∀ a b, a < g.n → b < g.n → gR g a = gR g b → Q a b) → (∀ i, i < p → Q (X i) (Y i)) → Q x y
/-- while one and other are made the same -/
def gU (g0 : gG) (one other : Nat) (g : gG) (p : Nat) (X Y : Nat → Nat) : Prop := (g.n = g0.n ∧ g.K = g0.K ∧ g.L = g0.L ∧ g.R = g0.R) ∧ gK g ∧ (∀ i, i < p → X i < g.n ∧ Y i < g.n) ∧ (∀ ρ, gS g0 ρ → ρ one = ρ other → gS g ρ ∧ ∀ i, i < p → ρ (X i) = ρ (Y i)) ∧ (∀ ρ, gS g ρ → gS g0 ρ) ∧ (∀ x y, x < g.n → y < g.n → gR g0 x = gR g0 y → gR g x = gR g y) ∧ gCl g p X Y one other ∧ ∀ t, t < g.n → g.K t = 1 → gCl g p X Y (g.L t) (g.L (gR g t)) ∧ gCl g p X Y (g.R t) (g.R (gR g t))
section GUN
variable {g0 g : gG} {one other p : Nat} {X Y X' Y' : Nat → Nat}
theorem gCl.up {g' : gG} {p' : Nat} {x y : Nat} (h : gCl g p X Y x y) (hn : g'.n = g.n) (hm : ∀ a b, a < g.n → b < g.n → gR g a = gR g b → gR g' a = gR g' b) (hp : ∀ i, i < p → gCl g' p' X' Y' (X i) (Y i)) : gCl g' p' X' Y' x y := fun Q q1 q2 q3 q4 q5 => h Q q1 q2 q3 (fun a b ha hb e => q4 a b (by rw [hn]; exact ha) (by rw [hn]; exact hb) (hm a b ha hb e)) (fun i hi => hp i hi Q q1 q2 q3 q4 q5)
theorem gCl.pr {i : Nat} (hi : i < p) : gCl g p X Y (X i) (Y i) := fun Q _ _ _ _ q5 => q5 i hi
theorem gCl.eq {x y : Nat} (hx : x < g.n) (hy : y < g.n) (e : gR g x = gR g y) : gCl g p X Y x y := fun Q _ _ _ q4 _ => q4 x y hx hy e
theorem gCl.tr {x y z : Nat} (h : gCl g p X Y x y) (h' : gCl g p X Y y z) : gCl g p X Y x z := fun Q q1 q2 q3 q4 q5 => q3 _ _ _ (h Q q1 q2 q3 q4 q5) (h' Q q1 q2 q3 q4 q5)
theorem gCl.sy {x y : Nat} (h : gCl g p X Y x y) : gCl g p X Y y x := fun Q q1 q2 q3 q4 q5 => q2 _ _ (h Q q1 q2 q3 q4 q5)
theorem gCl.no {x y : Nat} (h : gCl g 0 X Y x y) : gR g x = gR g y := h (fun a b => gR g a = gR g b) (fun _ => rfl) (fun _ _ e => e.symm) (fun _ _ _ e e' => e.trans e') (fun _ _ _ _ e => e) (fun i hi => by omega)
/-- a pair of the same end -/
theorem gU.eq (h : gU g0 one other g (p + 1) X Y) (e : gR g (X p) = gR g (Y p)) : gU g0 one other g p X Y := by
  obtain ⟨h1, h2, h3, h4, h5, h6, h7, h8⟩ := h
  have up : ∀ {x y}, gCl g (p + 1) X Y x y → gCl g p X Y x y := fun z => z.up rfl (fun _ _ _ _ e => e) (fun i hi => by
    by_cases c : i = p
    · rw [c]; exact gCl.eq (h3 p (by omega)).1 (h3 p (by omega)).2 e
    · exact gCl.pr (by omega))
  exact ⟨h1, h2, fun i hi => h3 i (by omega), fun ρ a b => ⟨(h4 ρ a b).1, fun i hi => (h4 ρ a b).2 i (by omega)⟩, h5, h6, up h7, fun t ht hk => ⟨up (h8 t ht hk).1, up (h8 t ht hk).2⟩⟩
/-- a pair of which the one end is linked to the other's -/
theorem gU.lk {u v : Nat} (h : gU g0 one other g (p + 1) X Y) (hu : (u = gR g (X p) ∧ v = gR g (Y p)) ∨ (u = gR g (Y p) ∧ v = gR g (X p))) (huv : u ≠ v) (hk : g.K u = 0) : gU g0 one other (gLk g u v) p X Y := by
  obtain ⟨h1, h2, h3, h4, h5, h6, h7, h8⟩ := h
  have hX := (h3 p (by omega)).1
  have hY := (h3 p (by omega)).2
  have hu4 : u < g.n ∧ v < g.n ∧ g.S u = u ∧ g.S v = v := by
    rcases hu with ⟨a, b⟩ | ⟨a, b⟩
    · rw [a, b]; exact ⟨gR_lt h2.1 hX, gR_lt h2.1 hY, gR_root h2.1 hX, gR_root h2.1 hY⟩
    · rw [a, b]; exact ⟨gR_lt h2.1 hY, gR_lt h2.1 hX, gR_root h2.1 hY, gR_root h2.1 hX⟩
  obtain ⟨hun, hvn, hus, hvs⟩ := hu4
  have mono := gLk_mono h2.1 hus hun hvn hvs huv
  have epair : gR (gLk g u v) (X p) = gR (gLk g u v) (Y p) := by
    rw [gR_lk h2.1 hus hun hvn hvs huv hX, gR_lk h2.1 hus hun hvn hvs huv hY]
    rcases hu with ⟨a, b⟩ | ⟨a, b⟩
    · rw [if_pos a.symm, if_neg (fun e => huv (e.symm.trans b.symm)), b]
    · rw [if_neg (fun e => huv (e.symm.trans b.symm)), if_pos a.symm, b]
  have up : ∀ {x y}, gCl g (p + 1) X Y x y → gCl (gLk g u v) p X Y x y := fun z => z.up rfl mono (fun i hi => by
    by_cases c : i = p
    · rw [c]; exact gCl.eq (g := gLk g u v) hX hY epair
    · exact gCl.pr (by omega))
  refine ⟨h1, h2.lk hus hun hvn hvs huv (Or.inl hk), fun i hi => h3 i (by omega), fun ρ a b => ?_, fun ρ a => h5 ρ ((gS_lk hus hun).mp a).1, fun x y hx hy e => mono x y hx hy (h6 x y hx hy e), up h7, fun t ht kt => ?_⟩
  · obtain ⟨q1, q2⟩ := h4 ρ a b
    refine ⟨(gS_lk hus hun).mpr ⟨q1, ?_⟩, fun i hi => q2 i (by omega)⟩
    have e := q2 p (by omega)
    rw [← gR_eq h2.1 hX q1, ← gR_eq h2.1 hY q1] at e
    rcases hu with ⟨a, b⟩ | ⟨a, b⟩
    · rw [a, b]; exact e
    · rw [a, b]; exact e.symm
  · have ht : t < g.n := ht
    have kt : g.K t = 1 := kt
    have nr : gR g t ≠ u := fun e => by
      rcases gR_kind h2 ht with z | z
      · rw [kt] at z; cases z
      · rw [e, hk, kt] at z; cases z
    have e1 : gR (gLk g u v) t = gR g t := by rw [gR_lk h2.1 hus hun hvn hvs huv ht, if_neg nr]
    show gCl (gLk g u v) p X Y (g.L t) (g.L (gR (gLk g u v) t)) ∧ gCl (gLk g u v) p X Y (g.R t) (g.R (gR (gLk g u v) t))
    rw [e1]
    exact ⟨up (h8 t ht kt).1, up (h8 t ht kt).2⟩
/-- two functions: linked, and two pairs more -/
theorem gU.fn {u v : Nat} (h : gU g0 one other g (p + 1) X Y) (hu : u = gR g (X p)) (hv : v = gR g (Y p)) (huv : u ≠ v) (ku : g.K u = 1) (kv : g.K v = 1) (hY' : Y' = un (un Y p (g.R u)) (p + 1) (g.L u)) (hX' : X' = un (un X p (g.R v)) (p + 1) (g.L v)) : gU g0 one other (gLk g u v) (p + 2) X' Y' := by
  obtain ⟨h1, h2, h3, h4, h5, h6, h7, h8⟩ := h
  have hX := (h3 p (by omega)).1
  have hY := (h3 p (by omega)).2
  have hun : u < g.n := by rw [hu]; exact gR_lt h2.1 hX
  have hvn : v < g.n := by rw [hv]; exact gR_lt h2.1 hY
  have hus : g.S u = u := by rw [hu]; exact gR_root h2.1 hX
  have hvs : g.S v = v := by rw [hv]; exact gR_root h2.1 hY
  have mono := gLk_mono h2.1 hus hun hvn hvs huv
  have cu := (h2.2 u hun).1 ku
  have cv := (h2.2 v hvn).1 kv
  have xlo : ∀ i, i < p → X' i = X i ∧ Y' i = Y i := fun i hi => by
    rw [hX', hY', un_ne _ _ (by omega), un_ne _ _ (by omega), un_ne _ _ (by omega), un_ne _ _ (by omega)]
    exact ⟨rfl, rfl⟩
  have xp : X' p = g.R v ∧ Y' p = g.R u := by
    rw [hX', hY']
    exact ⟨by rw [un_ne _ _ (by omega), un_at], by rw [un_ne _ _ (by omega), un_at]⟩
  have xq : X' (p + 1) = g.L v ∧ Y' (p + 1) = g.L u := by
    rw [hX', hY', un_at, un_at]
    exact ⟨rfl, rfl⟩
  have epair : gR (gLk g u v) (X p) = gR (gLk g u v) (Y p) := by
    rw [gR_lk h2.1 hus hun hvn hvs huv hX, gR_lk h2.1 hus hun hvn hvs huv hY, if_pos hu.symm, if_neg (fun e => huv (e.symm.trans hv.symm)), hv]
  have up : ∀ {x y}, gCl g (p + 1) X Y x y → gCl (gLk g u v) (p + 2) X' Y' x y := fun z => z.up rfl mono (fun i hi => by
    by_cases c : i = p
    · rw [c]; exact gCl.eq (g := gLk g u v) hX hY epair
    · have := gCl.pr (g := gLk g u v) (X := X') (Y := Y') (show i < p + 2 by omega)
      rw [(xlo i (by omega)).1, (xlo i (by omega)).2] at this
      exact this)
  have cl : gCl (gLk g u v) (p + 2) X' Y' (g.L u) (g.L v) ∧ gCl (gLk g u v) (p + 2) X' Y' (g.R u) (g.R v) := by
    have a := gCl.pr (g := gLk g u v) (X := X') (Y := Y') (show p + 1 < p + 2 by omega)
    have b := gCl.pr (g := gLk g u v) (X := X') (Y := Y') (show p < p + 2 by omega)
    rw [xq.1, xq.2] at a
    rw [xp.1, xp.2] at b
    exact ⟨a.sy, b.sy⟩
  refine ⟨h1, h2.lk hus hun hvn hvs huv (Or.inr (kv.trans ku.symm)), fun i hi => ?_, fun ρ a b => ?_, fun ρ a => h5 ρ ((gS_lk hus hun).mp a).1, fun x y hx hy e => mono x y hx hy (h6 x y hx hy e), up h7, fun t ht kt => ?_⟩
  · show X' i < g.n ∧ Y' i < g.n
    by_cases c : i < p
    · rw [(xlo i c).1, (xlo i c).2]; exact h3 i (by omega)
    · by_cases c2 : i = p
      · rw [c2, xp.1, xp.2]; exact ⟨cv.2, cu.2⟩
      · have : i = p + 1 := by omega
        rw [this, xq.1, xq.2]; exact ⟨cv.1, cu.1⟩
  · obtain ⟨q1, q2⟩ := h4 ρ a b
    have e := q2 p (by omega)
    rw [← gR_eq h2.1 hX q1, ← gR_eq h2.1 hY q1, ← hu, ← hv] at e
    have ee := e
    rw [(q1 u hun).2.1 ku, (q1 v hvn).2.1 kv] at ee
    have ee := yA_inj ee
    refine ⟨(gS_lk hus hun).mpr ⟨q1, e⟩, fun i hi => ?_⟩
    by_cases c : i < p
    · rw [(xlo i c).1, (xlo i c).2]; exact q2 i (by omega)
    · by_cases c2 : i = p
      · rw [c2, xp.1, xp.2]; exact ee.2.symm
      · have : i = p + 1 := by omega
        rw [this, xq.1, xq.2]; exact ee.1.symm
  · have ht : t < g.n := ht
    have kt : g.K t = 1 := kt
    show gCl (gLk g u v) (p + 2) X' Y' (g.L t) (g.L (gR (gLk g u v) t)) ∧ gCl (gLk g u v) (p + 2) X' Y' (g.R t) (g.R (gR (gLk g u v) t))
    rw [gR_lk h2.1 hus hun hvn hvs huv ht]
    have z1 := up (h8 t ht kt).1
    have z2 := up (h8 t ht kt).2
    by_cases c : gR g t = u
    · rw [if_pos c]
      rw [c] at z1 z2
      exact ⟨z1.tr cl.1, z2.tr cl.2⟩
    · rw [if_neg c]
      exact ⟨z1, z2⟩
/-- no pair left -/
theorem gU.fin (h : gU g0 one other g 0 X Y) (ho : one < g0.n) (hw : other < g0.n) : gJ g0 g one other := by
  obtain ⟨h1, h2, h3, h4, h5, h6, h7, h8⟩ := h
  have e := h7.no
  refine ⟨h1, h2, fun t ht kt => ⟨(h8 t ht kt).1.no, (h8 t ht kt).2.no⟩, fun x y hx hy => h6 x y (by rw [h1.1]; exact hx) (by rw [h1.1]; exact hy), e, fun ρ => ⟨fun z => ⟨h5 ρ z, ?_⟩, fun z => (h4 ρ z.1 z.2).1⟩⟩
  have a1 := gR_eq h2.1 (show one < g.n by rw [h1.1]; exact ho) z
  have a2 := gR_eq h2.1 (show other < g.n by rw [h1.1]; exact hw) z
  rw [← a1, ← a2, e]
/-- at the start -/
theorem gU.st (hK : gK g0) (hC : gC g0) (ho : one < g0.n) (hw : other < g0.n) (hx : X 0 = other) (hy : Y 0 = one) : gU g0 one other g0 1 X Y := by
  refine ⟨⟨rfl, rfl, rfl, rfl⟩, hK, fun i hi => ?_, fun ρ a b => ⟨a, fun i hi => ?_⟩, fun ρ a => a, fun _ _ _ _ e => e, ?_, fun t ht kt => ?_⟩
  · have : i = 0 := by omega
    rw [this, hx, hy]; exact ⟨hw, ho⟩
  · have : i = 0 := by omega
    rw [this, hx, hy]; exact b.symm
  · have := gCl.pr (g := g0) (X := X) (Y := Y) (show 0 < 1 by omega)
    rw [hx, hy] at this
    exact this.sy
  · have hl := (hK.2 t ht).1 kt
    have kr : g0.K (gR g0 t) = 1 := by
      rcases gR_kind hK ht with e | e
      · rw [kt] at e; cases e
      · exact e.trans kt
    have hl' := (hK.2 _ (gR_lt hK.1 ht)).1 kr
    exact ⟨gCl.eq hl.1 hl'.1 (hC t ht kt).1, gCl.eq hl.2 hl'.2 (hC t ht kt).2⟩
theorem gFr_lk {u v : Nat} (hus : g.S u = u) (hun : u < g.n) (huv : u ≠ v) (ku : g.K u = 1) : xN g.n (gFr (gLk g u v)) + 1 = xN g.n (gFr g) := by
  refine xN_off hun (fun x _ c => ?_) (decide_eq_true ⟨ku, hus⟩) ?_
  · unfold gFr
    show decide (g.K x = 1 ∧ g.S x = x) = decide (g.K x = 1 ∧ (if x = u then v else g.S x) = x)
    rw [if_neg c]
  · refine decide_eq_false (fun z => ?_)
    have z2 : (if u = u then v else g.S u) = u := z.2
    rw [if_pos rfl] at z2
    exact huv z2.symm
theorem gFr_le {u v : Nat} : xN g.n (gFr (gLk g u v)) ≤ xN g.n (gFr g) ∨ g.K u ≠ 0 := by
  by_cases c : g.K u = 0
  · refine Or.inl (xN_le (fun x _ z => ?_))
    have z := of_decide_eq_true z
    refine decide_eq_true ⟨z.1, ?_⟩
    have z2 : (if x = u then v else g.S x) = x := z.2
    by_cases e : x = u
    · have z1 : g.K x = 1 := z.1
      rw [e, c] at z1; cases z1
    · rw [if_neg e] at z2; exact z2
  · exact Or.inr c
end GUN
