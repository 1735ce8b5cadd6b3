/-! steps of the reference's typer -/
/-- told types and types of E's stay -/
def kR9 (τ τ' : zSt) : Prop := τ'.2.2.1 31 = τ.2.2.1 31 ∧ τ'.2.2.1 39 = τ.2.2.1 39
theorem kR9.rf (τ : zSt) : kR9 τ τ := ⟨rfl, rfl⟩
theorem kR9.trans {τ τ' τ'' : zSt} (h : kR9 τ' τ'') (g : kR9 τ τ') : kR9 τ τ'' := ⟨h.1.trans g.1, h.2.trans g.2⟩
/-- functions stay what they are -/
def fnK (τ τ' : zSt) : Prop := (τ.1 59).toNatClampNeg ≤ (τ'.1 59).toNatClampNeg ∧ ∀ j, j < (τ.1 59).toNatClampNeg → τ.2.2.1 34 j = 4 → τ'.2.2.1 34 j = 4 ∧ τ'.2.2.1 35 j = τ.2.2.1 35 j ∧ τ'.2.2.1 36 j = τ.2.2.1 36 j
theorem fnK.sm {τ τ' : zSt} (h : τ'.1 59 = τ.1 59) (h4 : τ'.2.2.1 34 = τ.2.2.1 34) (h5 : τ'.2.2.1 35 = τ.2.2.1 35) (h6 : τ'.2.2.1 36 = τ.2.2.1 36) : fnK τ τ' := ⟨by rw [h]; exact Nat.le_refl _, fun j _ e => by rw [h4, h5, h6]; exact ⟨e, rfl, rfl⟩⟩
theorem fnK.tr {τ τ' τ'' : zSt} (h : fnK τ τ') (g : fnK τ' τ'') : fnK τ τ'' := ⟨Nat.le_trans h.1 g.1, fun j hj e => by
  obtain ⟨a, b, c⟩ := h.2 j hj e
  obtain ⟨a', b', c'⟩ := g.2 j (Nat.lt_of_lt_of_le hj h.1) a
  exact ⟨a', b'.trans b, c'.trans c⟩⟩
/-- all but types is as it was -/
def tFm (τ τ' : zSt) : Prop := (∀ k, k ≠ 11 → k ≠ 12 → k ≠ 59 → k ≠ 60 → τ'.1 k = τ.1 k) ∧ τ'.2.1 = τ.2.1 ∧ (∀ k, ¬ (k = 31 ∨ (34 ≤ k ∧ k ≤ 39)) → τ'.2.2.1 k = τ.2.2.1 k) ∧ τ'.2.2.2 = τ.2.2.2 ∧ fnK τ τ'
theorem tFm.rf (τ : zSt) : tFm τ τ := ⟨fun _ _ _ _ _ => rfl, rfl, fun _ _ => rfl, rfl, fnK.sm rfl rfl rfl rfl⟩
theorem tFm.tr {τ τ' τ'' : zSt} (h : tFm τ τ') (g : tFm τ' τ'') : tFm τ τ'' := ⟨fun k a b c d => (g.1 k a b c d).trans (h.1 k a b c d), g.2.1.trans h.2.1, fun k a => (g.2.2.1 k a).trans (h.2.2.1 k a), g.2.2.2.1.trans h.2.2.2.1, h.2.2.2.2.tr g.2.2.2.2⟩
theorem jFm.t {τ τ' : zSt} (h : jFm τ τ') (hf : fnK τ τ') : tFm τ τ' := ⟨fun k _ _ c d => h.1 k c d, h.2.1, fun k a => h.2.2.1 k (fun z => a (Or.inr ⟨z.1, by omega⟩)), h.2.2.2, hf⟩
/-- the reference's state while it finds types: c types, am functions among them at most -/
def rX (k0 : Nat) (τ : zSt) (s : mS) (g : gG) (T : Nat → mF) (c am : Nat) : Prop := (τ.1 59 = nI c ∧ c ≤ 9000 ∧ k0 + 9002 < 2 ^ 30) ∧ ((mSat s.1 ∧ τ.1 11 = 0 ∧ g.n = c ∧ xN g.n (fun y => decide (g.K y = 1)) ≤ am ∧ ∃ k, rG τ g k ∧ gK g ∧ gC g ∧ gT g T s ∧ k + xN g.n (gRoot g) ≤ k0 + g.n) ∨ ∃ pl, mFt s.1 pl ∧ τ.1 11 = 4 ∧ τ.1 12 = pl ∧ ∃ k, τ.1 60 = nI k ∧ k ≤ k0 + 9001)
section RXS
variable {ks : Nat → Nat} {qs : List Nat} {Tt h0 k0 c am F : Nat} {τ : zSt} {s : mS} {g : gG} {T : Nat → mF}
theorem rX.bad (h : rX k0 τ s g T c am) : mSat s.1 ↔ τ.1 11 = 0 := by
  rcases h.2 with ⟨h1, h2, -⟩ | ⟨pl, h1, h2, -⟩
  · exact ⟨fun _ => h2, fun _ => h1⟩
  · exact ⟨fun z => absurd z h1.no, fun z => by rw [h2] at z; cases z⟩
theorem rX.cg (h : rX k0 τ s g T c am) {s' : mS} (e1 : s'.1 = s.1) (e2 : s.2.1 ≤ s'.2.1) : rX k0 τ s' g T c am := by
  obtain ⟨h0, h⟩ := h
  refine ⟨h0, ?_⟩
  rcases h with ⟨h1, h2, h3, h4, k, a, b, d, e, q⟩ | ⟨pl, h1, h2⟩
  · exact Or.inl ⟨by rw [e1]; exact h1, h2, h3, h4, k, a, b, d, e.cg e1 e2, q⟩
  · exact Or.inr ⟨pl, by rw [e1]; exact h1, h2⟩
theorem gNw_roots (g : gG) (k l r : Nat) : xN (gNw g k l r).n (gRoot (gNw g k l r)) = xN g.n (gRoot g) + 1 := by
  have er : ∀ x, x < g.n → gRoot (gNw g k l r) x = gRoot g x := fun x hx => by
    unfold gRoot
    show decide (un g.S g.n g.n x = x) = _
    rw [un_ne _ _ (by omega)]
  show xN g.n (gRoot (gNw g k l r)) + (if gRoot (gNw g k l r) g.n = true then 1 else 0) = _
  rw [xN_cg er, if_pos]
  exact decide_eq_true (show un g.S g.n g.n g.n = g.n from un_at _ _ _)
theorem gNw_fun (g : gG) (k l r : Nat) : xN (gNw g k l r).n (fun y => decide ((gNw g k l r).K y = 1)) = xN g.n (fun y => decide (g.K y = 1)) + (if k = 1 then 1 else 0) := by
  have er : ∀ x, x < g.n → decide ((gNw g k l r).K x = 1) = decide (g.K x = 1) := fun x hx => by
    show decide (un g.K g.n k x = 1) = _
    rw [un_ne _ _ (by omega)]
  show xN g.n (fun y => decide ((gNw g k l r).K y = 1)) + (if decide (un g.K g.n k g.n = 1) = true then 1 else 0) = _
  rw [xN_cg er, un_at]
  by_cases c : k = 1
  · rw [if_pos c, if_pos (decide_eq_true c)]
  · rw [if_neg c, if_neg (fun z => c (of_decide_eq_true z))]
/-- newType(..) of a plain type, a function, a free one -/
theorem rX.new (h : rX k0 τ s g T c am) (hc : c < 9000) {kd l r : Nat} {x2 x3 : Int32} {s' : mS} {t : mF} (hk : kd ≤ 5) (hl : mSat s.1 → kd = 1 → x2 = nI l ∧ x3 = nI r ∧ l < g.n ∧ r < g.n) (hs : s'.1 = s.1) (hT : mSat s.1 → gK g → gT g T s → gT (gNw g kd (if kd = 1 then l else 0) (if kd = 1 then r else 0)) (mUp T g.n t) s') : ∃ τ' v g' T', zF h0 qs ks Tt (F + 1) 40 [.ref h0, .int (rKd kd), .int x2, .int x3] τ = some (some (.int v), τ') ∧ rX k0 τ' s' g' T' (c + 1) (am + (if kd = 1 then 1 else 0)) ∧ tFm τ τ' ∧ xE g T g' T' ∧ (∀ k, k ≠ 59 → τ'.1 k = τ.1 k) ∧ kR9 τ τ' ∧ (mSat s.1 → ∃ n, v = nI n ∧ gY g' T' s' n t) := by
  obtain ⟨⟨h1, h2, h3⟩, h⟩ := h
  have raw : ∃ τ' : zSt, zF h0 qs ks Tt (F + 1) 40 [.ref h0, .int (rKd kd), .int x2, .int x3] τ = some (some (.int (nI c)), τ') ∧ τ'.1 59 = nI (c + 1) ∧ (∀ k, k ≠ 59 → τ'.1 k = τ.1 k) ∧ jFm τ τ' ∧ fnK τ τ' := by
    have pl : nI c + 1 = nI (c + 1) := nI_add c 1 ▸ rfl
    rw [zE_newType]
    unfold b_newType
    have z59 : ∀ (υ : zSt) (i : Nat) (r : Nat → Int32), (zA υ i r).1 = υ.1 := fun _ _ _ => rfl
    simp only [zgd, zlet, z59, h1, zin_n hc (by decide), if_true, nI_clamp (show c < 2 ^ 31 by omega)]
    refine ⟨zI (zA (zA (zA (zA (zA τ 34 (upd (τ.2.2.1 34) c (rKd kd))) 35 (upd (τ.2.2.1 35) c x2)) 36 (upd (τ.2.2.1 36) c x3)) 37 (upd (τ.2.2.1 37) c (-1))) 38 (upd (τ.2.2.1 38) c 0)) 59 (nI c + 1), ?_, pl, fun q a => zIn _ _ a, ⟨fun q a b => zIn _ _ a, rfl, fun q a => ?_, rfl⟩, ⟨by rw [h1, show (zI _ 59 (nI c + 1)).1 59 = nI c + 1 from rfl, pl, nI_clamp (show c < 2 ^ 31 by omega), nI_clamp (show c + 1 < 2 ^ 31 by omega)]; omega, fun j hj e => by
      rw [h1, nI_clamp (show c < 2 ^ 31 by omega)] at hj
      exact ⟨(upd_ne _ _ (show j ≠ c by omega)).trans e, upd_ne _ _ (show j ≠ c by omega), upd_ne _ _ (show j ≠ c by omega)⟩⟩⟩
    · show some (some (Value.int ((nI c + 1) - 1)), _) = some (some (Value.int (nI c)), _)
      rw [pl, nI_s1]
      rfl
    · show (if q = 38 then _ else if q = 37 then _ else if q = 36 then _ else if q = 35 then _ else if q = 34 then _ else τ.2.2.1 q) = τ.2.2.1 q
      rw [if_neg (by omega), if_neg (by omega), if_neg (by omega), if_neg (by omega), if_neg (by omega)]
  obtain ⟨τ', a1, a2, a3, a4, a4f⟩ := raw
  rcases h with ⟨q1, q2, q3, q4, k, b1, b2, b3, b4, b5⟩ | ⟨pl, q1, q2, q3, k, q4, q5⟩
  · have hl' := hl q1
    obtain ⟨τ2, e1, e2, e3⟩ := r_new (h0 := h0) (qs := qs) (ks := ks) (T := Tt) (n := F) (c := kd) (l := if kd = 1 then l else 0) (r := if kd = 1 then r else 0) b1 (by omega) hk (fun z => by rw [if_pos z, if_pos z]; exact ⟨(hl' z).1, (hl' z).2.1⟩)
    rw [a1, q3] at e1
    injection e1 with e1
    injection e1 with _ e1
    subst e1
    have hb : kd = 1 → (if kd = 1 then l else 0) < g.n ∧ (if kd = 1 then r else 0) < g.n := fun z => by rw [if_pos z, if_pos z]; exact ⟨(hl' z).2.2.1, (hl' z).2.2.2⟩
    refine ⟨τ', nI c, gNw g kd (if kd = 1 then l else 0) (if kd = 1 then r else 0), mUp T g.n t, a1, ⟨⟨a2, by omega, h3⟩, Or.inl ⟨by rw [hs]; exact q1, (a3 11 (by decide)).trans q2, by show g.n + 1 = c + 1; omega, by rw [gNw_fun]; omega, k, e2, b2.nw (fun z => ⟨Nat.le_of_lt (hb z).1, Nat.le_of_lt (hb z).2⟩), gC.nw b2 b3 hb, hT q1 b2 b4, by rw [gNw_roots]; show _ ≤ k0 + (g.n + 1); omega⟩⟩, a4.t a4f, ⟨Nat.le_succ _, fun x hx => mUp_ne _ _ (by omega)⟩, a3, ⟨a4.2.2.1 31 (by omega), a4.2.2.1 39 (by omega)⟩, fun _ => ⟨c, rfl, by show c < g.n + 1; omega, fun α _ => by rw [← q3, mUp_at]⟩⟩
  · exact ⟨τ', nI c, g, T, a1, ⟨⟨a2, by omega, h3⟩, Or.inr ⟨pl, by rw [hs]; exact q1, (a3 11 (by decide)).trans q2, (a3 12 (by decide)).trans q3, k, (a3 60 (by decide)).trans q4, q5⟩⟩, a4.t a4f, xE.rf g T, a3, ⟨a4.2.2.1 31 (by omega), a4.2.2.1 39 (by omega)⟩, fun z => absurd z q1.no⟩
/-- join(..), and what fault(4, place) makes of it -/
theorem rX.join (hT : 9010 ≤ Tt) (h : rX k0 τ s g T c am) (hF : am + 1 ≤ F) (hs : mSat s.1) {c1 c2 : Nat} {t1 t2 : mF} {pl : Int32} (h1 : gY g T s c1 t1) (h2 : gY g T s c2 t2) : ∃ (r : Bool) (τ' : zSt), zF h0 qs ks Tt (F + 3) 44 [.ref h0, .int (nI c1), .int (nI c2)] τ = some (some (.int (b01 r)), τ') ∧ tFm τ τ' ∧ τ'.1 11 = 0 ∧ kR9 τ τ' ∧ (r = true → ∃ g', rX k0 τ' (mMu t1 t2 pl s) g' T c am ∧ g'.n = g.n) ∧ (r = false → rX k0 (zI (zI τ' 11 4) 12 pl) (mMu t1 t2 pl s) g T c am) := by
  obtain ⟨⟨e1, e2, e3⟩, h⟩ := h
  rcases h with ⟨q1, q2, q3, q4, k, b1, b2, b3, b4, b5⟩ | ⟨pl', q1, -⟩
  · obtain ⟨r, τ', j1, j2, j3, j4⟩ := r_join (h0 := h0) (qs := qs) (ks := ks) (M := am) hT F g k c1 c2 c1 c2 0 τ b1 b2 b3 (b4.sat.mpr hs) h1.1 h2.1 h1.1 h2.1 (fun ρ _ => by omega) q4 (by omega) (by have := xN_n g.n (gRoot g); omega)
    have f11 : τ'.1 11 = 0 := (j2.1 11 (by decide)).trans q2
    have f59 : τ'.1 59 = nI c := (j2.1 59 (by decide)).trans e1
    refine ⟨r, τ', j1, j2.m.t (fnK.sm (j2.1 59 (by decide)) (j2.2.2.1 34 (by decide) (by decide)) (j2.2.2.1 35 (by decide) (by decide)) (j2.2.2.1 36 (by decide) (by decide))), f11, ⟨j2.2.2.1 31 (by decide) (by decide), j2.2.2.1 39 (by decide) (by decide)⟩, fun z => ?_, fun z => ?_⟩
    · obtain ⟨g', k', p1, p2, p3, p4⟩ := j3 z
      have hn := p2.1.1
      have T' := b4.must (pl := pl) p2 h1 h2
      exact ⟨g', ⟨⟨f59, e2, e3⟩, Or.inl ⟨T'.sat.mp p3, f11, by omega, by rw [hn, p2.1.2.1]; exact q4, k', p1, p2.2.1, p2.2.2.1, T', by rw [hn]; omega⟩⟩, hn⟩
    · obtain ⟨p1, k', p2, p3⟩ := j4 z
      have ns := b4.no (pl := pl) p1 h1 h2
      refine ⟨⟨by rw [zIn _ _ (by decide), zIn _ _ (by decide)]; exact f59, e2, e3⟩, Or.inr ⟨pl, mFt.new hs ns, by rw [zIn _ _ (by decide)]; exact zIe _ _ _, zIe _ _ _, k', by rw [zIn _ _ (by decide), zIn _ _ (by decide)]; exact p2, by omega⟩⟩
  · exact absurd hs q1.no
/-- mustBe(t, k, place) -/
theorem rX.mb (hT : 9010 ≤ Tt) (h : rX k0 τ s g T c am) (hF : am + 1 ≤ F) (hc : c < 9000) {v pl : Int32} {k : Nat} {t : mF} (hk : k < 4) (h1 : mSat s.1 → ∃ c1, v = nI c1 ∧ gY g T s c1 t) : ∃ τ' g' T' c', zF h0 qs ks Tt (F + 4) 45 [.ref h0, .int v, .int (rKd (k + 2)), .int pl] τ = some (none, τ') ∧ rX k0 τ' (mMu t (mB k) pl s) g' T' c' am ∧ c' ≤ c + 1 ∧ tFm τ τ' ∧ xE g T g' T' ∧ kR9 τ τ' := by
  rw [show F + 4 = (F + 3) + 1 from rfl, zE_mustBe]
  unfold b_mustBe
  by_cases hs : mSat s.1
  · rw [if_pos (h.bad.mp hs)]
    obtain ⟨c1, rfl, y1⟩ := h1 hs
    obtain ⟨τ1, v1, g1, T1, a1, a2, a3, a4, a5, a6, a7⟩ := h.new (h0 := h0) (qs := qs) (ks := ks) (Tt := Tt) (F := F + 2) hc (kd := k + 2) (l := 0) (r := 0) (x2 := -1) (x3 := -1) (s' := s) (t := mB k) (by omega) (fun _ z => by omega) rfl (fun _ gk gt => by
      have y0 : 0 < g.n := by have := y1.1; omega
      have q : ∀ j, k + 2 = j + 2 → mB k = mB j := fun j z => by
        have e : j = k := by omega
        rw [e]
      rw [if_neg (show ¬ k + 2 = 1 by omega)]
      exact gt.give gk y0 y0 (by omega) (fun α => ⟨fun z => absurd z (by omega), fun j z => congrFun (q j z) α⟩))
    rw [if_neg (show ¬ k + 2 = 1 by omega), Nat.add_zero] at a2
    obtain ⟨n1, rfl, y2⟩ := a7 hs
    obtain ⟨r, τ2, j1, j2, j3, j4, j5, j6⟩ := a2.join (h0 := h0) (qs := qs) (ks := ks) (pl := pl) hT hF hs (y1.up a4 (mLe.rf [] s)) y2
    simp only [a1, zci, j1]
    cases r with
    | true =>
      rw [if_neg (show ¬ b01 true = 0 by decide)]
      obtain ⟨g', p1, p2⟩ := j5 rfl
      exact ⟨τ2, g', T1, c + 1, rfl, p1, Nat.le_refl _, a3.tr j2, a4.tr ⟨by omega, fun _ _ => rfl⟩, j4.trans a6⟩
    | false =>
      rw [if_pos (show b01 false = 0 from rfl), r_flt (n := F + 2), zcv_at]
      unfold rFl
      rw [if_pos j3]
      exact ⟨_, g1, T1, c + 1, rfl, j6 rfl, Nat.le_refl _, (a3.tr j2).tr ⟨fun k a b _ _ => by rw [zIn _ _ b, zIn _ _ a], rfl, fun _ _ => rfl, rfl, fnK.sm (by rw [zIn _ _ (by decide), zIn _ _ (by decide)]) rfl rfl rfl⟩, a4, j4.trans a6⟩
  · rw [if_neg (fun z => hs (h.bad.mpr z))]
    refine ⟨τ, g, T, c, rfl, ⟨h.1, ?_⟩, by omega, tFm.rf τ, xE.rf g T, kR9.rf τ⟩
    rcases h.2 with ⟨z, -⟩ | ⟨pl', q1, q2⟩
    · exact absurd z hs
    · exact Or.inr ⟨pl', q1.ap _, q2⟩
end RXS
