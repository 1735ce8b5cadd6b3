/-! type(): what the class has of told NAMES, over other calls -/
/-- what a call between accepted() and type() leaves -/
def tyA (lo : Nat × (Nat → Prop)) (σ u : oSt) : Prop := (∀ q k fs, k = 6 ∨ k = 11 → σ.1 q = some (.inr (k, fs)) → u.1 q = some (.inr (k, fs))) ∧ (∀ q fs, σ.1 q = some (.inr (4, fs)) → ∃ fs', u.1 q = some (.inr (4, fs')) ∧ fs'.length = fs.length ∧ ∀ i, i < 11 → fs'[i]? = fs[i]?) ∧ ∀ q ty n g, lo.1 ≤ q → σ.1 q = some (.inl (ty, n, g)) → ty = .object "LiquidTongue$Name" ∨ ty = .object "LiquidTongue$Sum" ∨ (ty = .int ∧ ((∃ k, n = 2 ^ k) ∨ lo.2 q)) → u.1 q = some (.inl (ty, n, g))
section TYA
variable {lo : Nat × (Nat → Prop)} {σ u w' : oSt} {w ra sa : Nat} {F : List kFc} {G : List (Nat × kTe)} {na : gN → Nat} {Nm : gN → Prop} {sy : gTy → List gFc}
theorem tyA.rf (lo : Nat × (Nat → Prop)) (σ : oSt) : tyA lo σ σ := ⟨fun _ _ _ _ h => h, fun _ fs h => ⟨fs, h, rfl, fun _ _ => rfl⟩, fun _ _ _ _ _ h _ => h⟩
theorem tyA.tr (h : tyA lo σ u) (h' : tyA lo u w') : tyA lo σ w' := ⟨fun q k fs hk e => h'.1 q k fs hk (h.1 q k fs hk e), fun q fs e => by
  obtain ⟨f1, a1, a2, a3⟩ := h.2.1 q fs e
  obtain ⟨f2, b1, b2, b3⟩ := h'.2.1 q f1 a1
  exact ⟨f2, b1, b2.trans a2, fun i hi => (b3 i hi).trans (a3 i hi)⟩, fun q ty n g hq e hc => h'.2.2 q ty n g hq (h.2.2 q ty n g hq e hc) hc⟩
theorem cTm.ta {su : Nat} {t : kTe} (k : tyA lo σ u) (c : cTm lo σ su t) : cTm lo u su t := by
  obtain ⟨na', ta, cap, Ls, pl, ⟨g, hh, c1, c2, c3, c4, c5⟩, r1, r2, r3⟩ := c
  exact ⟨na', ta, cap, Ls, pl, ⟨g, hh, k.1 _ _ _ (Or.inr rfl) c1, k.2.2 _ _ _ _ r2.2.1 c2 (Or.inl rfl), k.2.2 _ _ _ _ r2.2.2.1 c3 (Or.inr (Or.inr ⟨rfl, Or.inl c4.2.2.2⟩)), c4, fun i b c e => by
    obtain ⟨e1, e2, fs, e3⟩ := c5 i b c e
    exact ⟨e1, e2, fs, k.1 _ _ _ (Or.inl rfl) e3⟩⟩, r1, r2, r3⟩
theorem kOr.ta (k : tyA lo σ u) (c : kOr lo σ w ra sa F) : kOr lo u w ra sa F := by
  obtain ⟨fs, cp, hr, gs, c1, c2, c3, c4, c5⟩ := c
  obtain ⟨fs', e1, e2, e3⟩ := k.2.1 w fs c1
  refine ⟨fs', cp, hr, gs, e1, e2.trans c2, (e3 7 (by decide)).trans c3, c4, ?_⟩
  rcases c5 with c5 | ⟨m1, m2, m3, m4, m5, m6⟩
  · exact Or.inl c5
  · refine Or.inr ⟨(e3 5 (by decide)).trans m1, (e3 6 (by decide)).trans m2, k.2.2 _ _ _ _ m5.2.1 m3 (Or.inr (Or.inr ⟨rfl, Or.inr m5.2.2.2.1⟩)), k.2.2 _ _ _ _ m5.2.2.1 m4 (Or.inr (Or.inl rfl)), m5, fun i y e => ?_⟩
    obtain ⟨n1, n2, su, n3, n4⟩ := m6 i y e
    exact ⟨n1, n2, su, n3, n4.ta k⟩
theorem kGo.ta {k0 : Nat} (k : tyA lo σ u) (c : kGo lo σ k0 w G) : kGo lo u k0 w G := by
  obtain ⟨fs, c1, c2, c3, c4, c5⟩ := c
  obtain ⟨fs', e1, e2, e3⟩ := k.2.1 k0 fs c1
  refine ⟨fs', e1, e2.trans c2, (e3 1 (by decide)).trans c3, c4, ?_⟩
  rcases c5 with ⟨m1, m2⟩ | ⟨gn, ins, g, g', m1, m2, m3, m4, m5, m6⟩
  · exact Or.inl ⟨m1, (e3 9 (by decide)).trans m2⟩
  · refine Or.inr ⟨gn, ins, g, g', m1, (e3 9 (by decide)).trans m2, (e3 10 (by decide)).trans m3, k.2.2 _ _ _ _ m1.1 m4 (Or.inl rfl), k.2.2 _ _ _ _ m1.2.1 m5 (Or.inr (Or.inl rfl)), fun i y e => ?_⟩
    obtain ⟨n1, su, n3, n4⟩ := m6 i y e
    exact ⟨n1, su, n3, n4.ta k⟩
theorem kPk.ta {k : Nat} {kd : Int32} (q : tyA lo σ u) (c : kPk lo σ k w G kd) : kPk lo u k w G kd := by
  obtain ⟨c1, fs, ins, c2, c3, c4⟩ := c
  obtain ⟨fs', e1, e2, e3⟩ := q.2.1 k fs c2
  exact ⟨c1.ta q, fs', ins, e1, (e3 10 (by decide)).trans c3, (e3 0 (by decide)).trans c4⟩
theorem tOr.ta (q : tyA lo σ u) : ∀ (y : tY) (A : gTy) (w : Nat), tOr na Nm sy lo σ G y A w → tOr na Nm sy lo u G y A w
  | .leaf, A, w, ⟨c1, ra, sa, F, c2, c3⟩ => ⟨c1.ta q, ra, sa, F, c2.ta q, c3⟩
  | .inner k _ _ a b, A, w, ⟨c1, c2⟩ => by
    refine ⟨c1.ta q, ?_⟩
    by_cases c : k = 0
    · rw [if_pos c] at c2 ⊢
      obtain ⟨fs, wl, wr, m1, ⟨m2, m3, m4, m5⟩, m6, m7⟩ := c2
      obtain ⟨fs', e1, e2, e3⟩ := q.2.1 w fs m1
      exact ⟨fs', wl, wr, e1, ⟨(e3 2 (by decide)).trans m2, m3, (e3 3 (by decide)).trans m4, (e3 4 (by decide)).trans m5⟩, tOr.ta q a _ _ m6, tOr.ta q b _ _ m7⟩
    · rw [if_neg c] at c2 ⊢
      obtain ⟨ra, sa, F, c2, c3⟩ := c2
      exact ⟨ra, sa, F, c2.ta q, c3⟩
/-- **what the class has of a told NAME stays** -/
theorem tyC.ta {Γ : uGm} {Lp : Nat → Prop} {nm : Nat → Option Nat} {tN : Nat → tY} {q : Nat → gTy} {v : Nat} (k : tyA lo σ u) (h : tyC lo na Γ Lp sy nm tN q σ v) : tyC lo na Γ Lp sy nm tN q u v := by
  obtain ⟨⟨gs, kn, w, G, h1, h2, h3, h4⟩, h5, h6, h7⟩ := h
  refine ⟨⟨gs, kn, w, G, k.1 _ _ _ (Or.inl rfl) h1, h2, h3.ta k, tOr.ta k _ _ _ h4⟩, h5, fun a ha => ?_, h7⟩
  obtain ⟨gs, e1, e2⟩ := h6 a ha
  exact ⟨gs, k.1 _ _ _ (Or.inl rfl) e1, e2⟩
/-- the class's own object may change -/
theorem tyA.pt {x : Nat} {fs fs' : List Value} (hx : σ.1 x = some (.inr (14, fs))) : tyA lo σ (oput σ x (.inr (14, fs'))) := by
  have ne : ∀ {q : Nat} {c : oC}, σ.1 q = some c → c ≠ .inr (14, fs) → (oput σ x (.inr (14, fs'))).1 q = some c := fun {q c} e hc => by
    rw [oput_ne (fun z => by rw [z, hx] at e; injection e with e; exact hc e.symm)]; exact e
  refine ⟨fun q k fs2 hk e => ne e (fun z => ?_), fun q fs2 e => ⟨fs2, ne e (fun z => ?_), rfl, fun _ _ => rfl⟩, fun q ty n g _ e _ => ne e (fun z => by cases z)⟩
  · injection z with z; injection z with z _; omega
  · injection z with z; injection z with z _; omega
end TYA
