/-! steps of the class's typer -/
def cX (V : oSt) (y : Nat) (A : Nat → Nat) (mo : Nat) (σ : oSt) (s : mS) (g : gG) (T : Nat → mF) : Prop := vR V σ ∧ ((mSat s.1 ∧ ∃ F, yT y A mo F (nI g.n) 0 (-1) (-1) σ ∧ cGr F g ∧ gK g ∧ gC g ∧ g.n ≤ mo ∧ gT g T s) ∨ ∃ pl c F, mFt s.1 pl ∧ 0 ≤ pl ∧ c ≤ mo ∧ yT y A mo F (nI c) 0 pl (-1) σ)
/-- more nodes, the old ones as they were -/
def xE (g : gG) (T : Nat → mF) (g' : gG) (T' : Nat → mF) : Prop := g.n ≤ g'.n ∧ ∀ c, c < g.n → T' c = T c
theorem xE.rf (g : gG) (T : Nat → mF) : xE g T g T := ⟨Nat.le_refl _, fun _ _ => rfl⟩
theorem xE.tr {g g' g'' : gG} {T T' T'' : Nat → mF} (h : xE g T g' T') (h' : xE g' T' g'' T'') : xE g T g'' T'' := ⟨Nat.le_trans h.1 h'.1, fun c hc => (h'.2 c (Nat.lt_of_lt_of_le hc h.1)).trans (h.2 c hc)⟩
theorem gY.up {g g' : gG} {T T' : Nat → mF} {s s' : mS} {c : Nat} {t : mF} {W : List Nat} (h : gY g T s c t) (e : xE g T g' T') (hs : mLe W s s') : gY g' T' s' c t := h.mo e.1 e.2 hs.1
section CXS
variable {κ : oKv} {Tt n mo y : Nat} {A : Nat → Nat} {V σ : oSt} {s : mS} {g : gG} {T : Nat → mF}
theorem mFt.noS {pl : Int32} (h : mFt s.1 pl) {s' : mS} {W : List Nat} (hs : mLe W s s') : mFt s'.1 pl := by
  obtain ⟨⟨l, e⟩, -⟩ := hs
  rw [e]
  exact h.ap l
/-- only equations and the number of free ones count -/
theorem cX.cg (h : cX V y A mo σ s g T) {s' : mS} (e1 : s'.1 = s.1) (e2 : s.2.1 ≤ s'.2.1) : cX V y A mo σ s' g T := by
  obtain ⟨h0, h⟩ := h
  refine ⟨h0, ?_⟩
  rcases h with ⟨h1, F, a, b, c, d, e, k⟩ | ⟨pl, c, F, h1, h2⟩
  · exact Or.inl ⟨by rw [e1]; exact h1, F, a, b, c, d, e, k.cg e1 e2⟩
  · exact Or.inr ⟨pl, c, F, by rw [e1]; exact h1, h2⟩
/-- the plain types -/
theorem cX.bas (h : cX V y A mo σ s g T) (hs : mSat s.1) {k : Nat} (hk : k < 4) : gY g T s k (mB k) := by
  rcases h.2 with ⟨-, F, a, b, c, d, e, q⟩ | ⟨pl, c, F, h1, -⟩
  · refine ⟨by have := b.1.1; omega, fun α hα => ?_⟩
    have := (q.1 α hα k (by have := b.1.1; omega)).2.2 k (b.1.2.1 k hk)
    exact this
  · exact absurd hs h1.no
/-- must(found, wanted, where) -/
theorem cX.must (hT : 25000 ≤ Tt) (hy : V.2.1 ≤ y) (hA : ∀ i, i < 6 → V.2.1 ≤ A i) (h : cX V y A mo σ s g T) {v1 v2 pl : Int32} {t1 t2 : mF} (hp : 0 ≤ pl) (h1 : mSat s.1 → ∃ c1, v1 = nI c1 ∧ gY g T s c1 t1) (h2 : mSat s.1 → ∃ c2, v2 = nI c2 ∧ gY g T s c2 t2) : ∃ σ' g', oF κ Tt (n + 3) 152 [va_rf (some y), .int v1, .int v2, .int pl] σ = some (none, σ') ∧ cX V y A mo σ' (mMu t1 t2 pl s) g' T ∧ yF y A σ σ' ∧ g'.n = g.n := by
  obtain ⟨h0, h⟩ := h
  rcases h with ⟨hs, F, a, b, c, d, e, q⟩ | ⟨pl', c, F, q1, q2, q3, q4⟩
  · obtain ⟨c1, rfl, y1⟩ := h1 hs
    obtain ⟨c2, rfl, y2⟩ := h2 hs
    obtain ⟨r, σ', F', a1, a2, a3, a4, a5⟩ := c_must (κ := κ) (T := Tt) (n := n) (pl := pl) hT a b c d (q.sat.mpr hs) e y1.1 y2.1
    cases r with
    | true =>
      obtain ⟨g', g1, g2, g3⟩ := a4 rfl
      have hn := g2.1.1
      have q' := q.must (pl := pl) g2 y1 y2
      exact ⟨σ', g', a1, ⟨h0.yF hy hA a3, Or.inl ⟨q'.sat.mp g3, F', by rw [hn]; exact a2, g1, g2.2.1, g2.2.2.1, by rw [hn]; exact e, q'⟩⟩, a3, hn⟩
    | false =>
      exact ⟨σ', g, a1, ⟨h0.yF hy hA a3, Or.inr ⟨pl, g.n, F', mFt.new hs (q.no (a5 rfl) y1 y2), hp, e, a2⟩⟩, a3, rfl⟩
  · exact ⟨σ, g, c_mustF (n := n + 2) q4 q2, ⟨h0, Or.inr ⟨pl', c, F, q1.ap _, q2, q3, q4⟩⟩, yF.rf y A σ, rfl⟩
theorem cGr.nw {F : Nat → Nat → Int32} {k l r : Nat} (h : cGr F g) (hk : k ≤ 1) {F' : Nat → Nat → Int32} (e0 : F' 0 = upd (F 0) g.n (cKd k)) (e3 : F' 3 = upd (F 3) g.n (nI g.n)) (e1 : ∀ t, t ≠ g.n → F' 1 t = F 1 t ∧ F' 2 t = F 2 t) (e2 : k = 1 → F' 1 g.n = nI l ∧ F' 2 g.n = nI r) : cGr F' (gNw g k l r) := by
  refine ⟨⟨by show 4 ≤ g.n + 1; have := h.1.1; omega, fun t ht => ?_, fun t t4 ht => ?_⟩, fun t ht => ?_⟩
  · show un g.K g.n k t = t + 2
    rw [un_ne _ _ (by have := h.1.1; omega)]
    exact h.1.2.1 t ht
  · have ht : t < g.n + 1 := ht
    show un g.K g.n k t ≤ 1
    by_cases e : t = g.n
    · rw [e, un_at]; exact hk
    · rw [un_ne _ _ e]; exact h.1.2.2 t t4 (by omega)
  · have ht : t < g.n + 1 := ht
    show F' 0 t = cKd (un g.K g.n k t) ∧ (un g.K g.n k t = 1 → F' 1 t = nI (un g.L g.n l t) ∧ F' 2 t = nI (un g.R g.n r t)) ∧ F' 3 t = nI (un g.S g.n g.n t)
    rw [e0, e3]
    by_cases e : t = g.n
    · subst e
      simp only [upd_at, un_at]
      exact ⟨trivial, e2, trivial⟩
    · rw [upd_ne _ _ e, upd_ne _ _ e, un_ne _ _ e, un_ne _ _ e, un_ne _ _ e, un_ne _ _ e, (e1 t e).1, (e1 t e).2]
      exact h.2 t (by omega)
theorem gC.nw (hK : gK g) (hC : gC g) {k l r : Nat} (hl : k = 1 → l < g.n ∧ r < g.n) : gC (gNw g k l r) := by
  have hK' := hK.nw (k := k) (l := l) (r := r) (fun z => ⟨Nat.le_of_lt (hl z).1, Nat.le_of_lt (hl z).2⟩)
  have lowS : ∀ t, t < g.n → (gNw g k l r).S t = g.S t := fun t ht => un_ne _ _ (by omega)
  have rt : ∀ t, t < g.n → gR (gNw g k l r) t = gR g t := fun t ht => by
    have P := (gR_end hK.1 ht).2.2 (fun x => x < g.n ∧ gR (gNw g k l r) x = gR (gNw g k l r) t) (fun x hx z => by
      refine ⟨by obtain ⟨d, hd⟩ := hK.1; exact (hd x hx).1, ?_⟩
      rw [← z.2, ← gR_S hK'.1 (show x < (gNw g k l r).n from Nat.lt_succ_of_lt hx), lowS x hx]) ⟨ht, rfl⟩
    rw [← P.2]
    refine gR_fix ?_
    rw [lowS _ P.1]
    exact gR_root hK.1 ht
  intro t ht kt
  have ht : t < g.n + 1 := ht
  by_cases e : t = g.n
  · have fx : gR (gNw g k l r) t = t := gR_fix (by show un g.S g.n g.n t = t; rw [e, un_at])
    rw [fx]
    exact ⟨rfl, rfl⟩
  · have ht' : t < g.n := by omega
    have kt' : g.K t = 1 := by
      have : un g.K g.n k t = 1 := kt
      rw [un_ne _ _ e] at this
      exact this
    have hr := gR_lt hK.1 ht'
    have kr : g.K (gR g t) = 1 := by
      rcases gR_kind hK ht' with z | z
      · rw [kt'] at z; cases z
      · exact z.trans kt'
    have hlt := (hK.2 t ht').1 kt'
    have hlr := (hK.2 _ hr).1 kr
    show gR (gNw g k l r) (un g.L g.n l t) = gR (gNw g k l r) (un g.L g.n l (gR (gNw g k l r) t)) ∧ gR (gNw g k l r) (un g.R g.n r t) = gR (gNw g k l r) (un g.R g.n r (gR (gNw g k l r) t))
    rw [rt t ht', un_ne _ _ e, un_ne _ _ (by omega), un_ne _ _ e, un_ne _ _ (by omega), rt _ hlt.1, rt _ hlr.1, rt _ hlt.2, rt _ hlr.2]
    exact hC t ht' kt'
/-- make(FREE) -/
theorem cX.free (hy : V.2.1 ≤ y) (hA : ∀ i, i < 6 → V.2.1 ≤ A i) (h : cX V y A mo σ s g T) (hn : g.n < mo) : ∃ σ' v g' T', oF κ Tt (n + 1) 146 [va_rf (some y), .int 0] σ = some (some (.int v), σ') ∧ cX V y A mo σ' (mFr 1 s) g' T' ∧ yF y A σ σ' ∧ xE g T g' T' ∧ g'.n ≤ g.n + 1 ∧ (mSat s.1 → ∃ c, v = nI c ∧ gY g' T' (mFr 1 s) c (mV s.2.1)) := by
  obtain ⟨h0, h⟩ := h
  rcases h with ⟨hs, F, a, b, c, d, e, q⟩ | ⟨pl', c, F, q1, q2, q3, q4⟩
  · obtain ⟨σ', a1, a2, a3⟩ := c_make (κ := κ) (T := Tt) (n := n) a e 0
    rw [if_neg (show ¬ g.n = mo by omega)] at a1 a2
    rw [if_neg (show ¬ g.n = mo by omega)] at a2
    have h4 := b.1.1
    have q' := q.free c (by omega)
    refine ⟨σ', nI g.n, gNw g 0 0 0, _, a1, ⟨h0.yF hy hA a3, Or.inl ⟨hs, _, a2, b.nw (by omega) ?_ ?_ (fun t _ => ⟨?_, ?_⟩) (fun z => by cases z), c.nw (fun z => by cases z), d.nw c (fun z => by cases z), by show g.n + 1 ≤ mo; omega, q'⟩⟩, a3, ⟨Nat.le_succ _, fun c hc => mUp_ne _ _ (by omega)⟩, Nat.le_refl _, fun _ => ⟨g.n, rfl, Nat.lt_succ_self _, fun α _ => by rw [mUp_at]⟩⟩
    · rw [yU_ne _ _ _ (by decide), yU_at]; rfl
    · rw [yU_at, yU_ne _ _ _ (by decide)]
    · rw [yU_ne _ _ _ (by decide), yU_ne _ _ _ (by decide)]
    · rw [yU_ne _ _ _ (by decide), yU_ne _ _ _ (by decide)]
  · obtain ⟨σ', a1, a2, a3⟩ := c_make (κ := κ) (T := Tt) (n := n) q4 q3 0
    exact ⟨σ', _, g, T, a1, ⟨h0.yF hy hA a3, Or.inr ⟨pl', _, _, q1, q2, by split <;> omega, a2⟩⟩, a3, xE.rf g T, by omega, fun z => absurd z q1.no⟩
/-- function(taken, answered) -/
theorem cX.fn (hy : V.2.1 ≤ y) (hA : ∀ i, i < 6 → V.2.1 ≤ A i) (h : cX V y A mo σ s g T) (hn : g.n < mo) {v1 v2 : Int32} {t1 t2 : mF} (h1 : mSat s.1 → ∃ c1, v1 = nI c1 ∧ gY g T s c1 t1) (h2 : mSat s.1 → ∃ c2, v2 = nI c2 ∧ gY g T s c2 t2) : ∃ σ' v g' T', oF κ Tt (n + 2) 149 [va_rf (some y), .int v1, .int v2] σ = some (some (.int v), σ') ∧ cX V y A mo σ' s g' T' ∧ yF y A σ σ' ∧ xE g T g' T' ∧ g'.n ≤ g.n + 1 ∧ (mSat s.1 → ∃ c, v = nI c ∧ gY g' T' s c (mA t1 t2)) := by
  obtain ⟨h0, h⟩ := h
  rcases h with ⟨hs, F, a, b, c, d, e, q⟩ | ⟨pl', c, F, q1, q2, q3, q4⟩
  · obtain ⟨c1, rfl, y1⟩ := h1 hs
    obtain ⟨c2, rfl, y2⟩ := h2 hs
    obtain ⟨σ', F', a1, a2, a3, a4⟩ := c_func (κ := κ) (T := Tt) (n := n) a e (nI c1) (nI c2)
    rw [if_neg (show ¬ g.n = mo by omega)] at a1 a2
    have a4 := a4 hn
    have q' := q.give c (k := 1) (t := mA (T c1) (T c2)) y1.1 y2.1 (by decide) (fun α => ⟨fun _ => rfl, fun j z => absurd z (by omega)⟩)
    refine ⟨σ', nI g.n, gNw g 1 c1 c2, _, a1, ⟨h0.yF hy hA a3, Or.inl ⟨hs, F', a2, b.nw (by omega) ?_ ?_ (fun t et => ⟨?_, ?_⟩) (fun z => ⟨?_, ?_⟩), c.nw (fun _ => ⟨Nat.le_of_lt y1.1, Nat.le_of_lt y2.1⟩), d.nw c (fun _ => ⟨y1.1, y2.1⟩), by show g.n + 1 ≤ mo; omega, q'⟩⟩, a3, ⟨Nat.le_succ _, fun c hc => mUp_ne _ _ (by omega)⟩, Nat.le_refl _, fun _ => ⟨g.n, rfl, Nat.lt_succ_self _, fun α hα => ?_⟩⟩
    · rw [a4, yU_ne _ _ _ (by decide), yU_ne _ _ _ (by decide), yU_ne _ _ _ (by decide), yU_at]; rfl
    · rw [a4, yU_ne _ _ _ (by decide), yU_ne _ _ _ (by decide), yU_at, yU_ne _ _ _ (by decide)]
    · rw [a4, yU_ne _ _ _ (by decide), yU_at, upd_ne _ _ et, yU_ne _ _ _ (by decide), yU_ne _ _ _ (by decide)]
    · rw [a4, yU_at, upd_ne _ _ et, yU_ne _ _ _ (by decide), yU_ne _ _ _ (by decide), yU_ne _ _ _ (by decide)]
    · rw [a4, yU_ne _ _ _ (by decide), yU_at, upd_at]
    · rw [a4, yU_at, upd_at]
    · rw [mUp_at]
      show yA (T c1 α) (T c2 α) = yA (t1 α) (t2 α)
      rw [y1.2 α hα, y2.2 α hα]
  · obtain ⟨σ', F', a1, a2, a3, -⟩ := c_func (κ := κ) (T := Tt) (n := n) q4 q3 v1 v2
    exact ⟨σ', _, g, T, a1, ⟨h0.yF hy hA a3, Or.inr ⟨pl', _, F', q1, q2, by split <;> omega, a2⟩⟩, a3, xE.rf g T, by omega, fun z => absurd z q1.no⟩
/-- a node's type is put -/
theorem cX.node (hy : V.2.1 ≤ y) (hA : ∀ i, i < 6 → V.2.1 ≤ A i) (h : cX V y A mo σ s g T) {m : Nat} {fs : List Value} (e : V.1 m = some (.inr (7, fs))) (hl : 8 < fs.length) (v : Int32) : ∃ σ', opf σ (some m) 7 8 (.int v) = some σ' ∧ cX V y A mo σ' s g T ∧ ofd σ' (some m) 7 8 = some (.int v) ∧ (∀ a, a ≠ m → σ'.1 a = σ.1 a) ∧ σ'.2 = σ.2 := by
  obtain ⟨h0, h⟩ := h
  have hm := h0.lt e
  obtain ⟨v0, e0, -⟩ := h0.1 m fs e
  have yt : ∀ {F c l f o}, yT y A mo F c l f o σ → yT y A mo F c l f o (oput σ m (.inr (7, fs.set 8 (.int v)))) := fun z => ⟨(oput_ne (by omega)).trans z.1, fun i hi => (oput_ne (by have := hA i hi; omega)).trans (z.2.1 i hi), z.2.2⟩
  refine ⟨oput σ m (.inr (7, fs.set 8 (.int v))), by rw [opf_at e0 (by rw [List.length_set]; exact hl), List.set_set], ⟨⟨fun a fs' e' => ?_, fun a fs' e' => ?_, fun a ha n7 n6 => ?_, h0.2.2.2.1, fun a ha => (oput_ne (fun z => by have := h0.2.2.2.2 a ha; rw [z, e0] at this; cases this)).trans (h0.2.2.2.2 a ha)⟩, ?_⟩, by rw [ofd_at (oput_eq _ _ _), List.getElem?_set_self hl], fun a ha => oput_ne ha, rfl⟩
  · by_cases q : a = m
    · subst q
      rw [e] at e'
      injection e' with e'; injection e' with e'; injection e' with _ e'
      subst e'
      exact ⟨.int v, oput_eq _ _ _, fun _ => ⟨v, rfl⟩⟩
    · rw [oput_ne q]; exact h0.1 a fs' e'
  · have q : a ≠ m := fun z => by rw [z, e] at e'; cases e'
    rw [oput_ne q]; exact h0.2.1 a fs' e'
  · have q : a ≠ m := fun z => n7 fs (by rw [z]; exact e)
    rw [oput_ne q]; exact h0.2.2.1 a ha n7 n6
  · rcases h with ⟨hs, F, a, b⟩ | ⟨pl', c, F, q1, q2, q3, q4⟩
    · exact Or.inl ⟨hs, F, yt a, b⟩
    · exact Or.inr ⟨pl', c, F, q1, q2, q3, yt q4⟩
/-- a NAME's type is put -/
theorem cX.name (hy : V.2.1 ≤ y) (hA : ∀ i, i < 6 → V.2.1 ≤ A i) (h : cX V y A mo σ s g T) {m : Nat} {fs : List Value} (e : V.1 m = some (.inr (6, fs))) (hl : 2 < fs.length) (v : Int32) : ∃ σ', opf σ (some m) 6 2 (.int v) = some σ' ∧ cX V y A mo σ' s g T ∧ ofd σ' (some m) 6 2 = some (.int v) ∧ (∀ a, a ≠ m → σ'.1 a = σ.1 a) ∧ σ'.2 = σ.2 := by
  obtain ⟨h0, h⟩ := h
  have hm := h0.lt e
  obtain ⟨v0, e0, -⟩ := h0.2.1 m fs e
  have yt : ∀ {F c l f o}, yT y A mo F c l f o σ → yT y A mo F c l f o (oput σ m (.inr (6, fs.set 2 (.int v)))) := fun z => ⟨(oput_ne (by omega)).trans z.1, fun i hi => (oput_ne (by have := hA i hi; omega)).trans (z.2.1 i hi), z.2.2⟩
  refine ⟨oput σ m (.inr (6, fs.set 2 (.int v))), by rw [opf_at e0 (by rw [List.length_set]; exact hl), List.set_set], ⟨⟨fun a fs' e' => ?_, fun a fs' e' => ?_, fun a ha n7 n6 => ?_, h0.2.2.2.1, fun a ha => (oput_ne (fun z => by have := h0.2.2.2.2 a ha; rw [z, e0] at this; cases this)).trans (h0.2.2.2.2 a ha)⟩, ?_⟩, by rw [ofd_at (oput_eq _ _ _), List.getElem?_set_self hl], fun a ha => oput_ne ha, rfl⟩
  · have q : a ≠ m := fun z => by rw [z, e] at e'; cases e'
    rw [oput_ne q]; exact h0.1 a fs' e'
  · by_cases q : a = m
    · subst q
      rw [e] at e'
      injection e' with e'; injection e' with e'; injection e' with _ e'
      subst e'
      exact ⟨.int v, oput_eq _ _ _, fun _ => ⟨v, rfl⟩⟩
    · rw [oput_ne q]; exact h0.2.1 a fs' e'
  · have q : a ≠ m := fun z => n6 fs (by rw [z]; exact e)
    rw [oput_ne q]; exact h0.2.2.1 a ha n7 n6
  · rcases h with ⟨hs, F, a, b⟩ | ⟨pl', c, F, q1, q2, q3, q4⟩
    · exact Or.inl ⟨hs, F, yt a, b⟩
    · exact Or.inr ⟨pl', c, F, q1, q2, q3, yt q4⟩
end CXS
