/-! type(): FACTS behind termOf() and instance(), the reference -/
/-- the reference while it prints a type: from V on the term at hand may change too -/
def rTv (g : gN → Nat) (Nm : gN → Prop) (V : zSt) (s : tPs) (τ : zSt) : Prop := rTp g Nm τ s τ ∧ (∀ k, k ≠ 138 → k ≠ 139 → k ≠ 141 → k ≠ 158 → k ≠ 160 → τ.1 k = V.1 k) ∧ (∀ k, k ≠ 140 → τ.2.1 k = V.2.1 k) ∧ (∀ k, k ≠ 101 → k ≠ 102 → τ.2.2.1 k = V.2.2.1 k) ∧ τ.2.2.2 = V.2.2.2
section TRV
variable {Γ : uGm} {g : gN → Nat} {Nm : gN → Prop} {wd : Nat → List Int32} {bk : gN → Nat} {ks : Nat → Nat} {qs : List Nat} {T n h0 sz : Nat} {κ : oKv} {V τ τ' : zSt} {s s' : tPs} {t : gTe} {fl : Bool}
theorem rTp.bs {τ0 : zSt} (h : rTp g Nm τ0 s τ) : rTp g Nm τ s τ := ⟨h.1, h.2.1, fun _ _ _ => rfl, rfl, fun _ _ _ => rfl, rfl⟩
theorem rTv.on (h : rTv g Nm V s τ) (k : rTp g Nm τ s' τ') : rTv g Nm V s' τ' := by
  obtain ⟨h1, h2, h3, h4, h5⟩ := h
  exact ⟨k.bs, fun q a b c d e => (k.2.2.1 q d e).trans (h2 q a b c d e), fun q a => by rw [k.2.2.2.1]; exact h3 q a, fun q a b => (k.2.2.2.2.1 q a b).trans (h4 q a b), k.2.2.2.2.2.trans h5⟩
theorem rTv.fm (h : rTv g Nm V s τ) (k : uFm τ τ') : rTv g Nm V s τ' := by
  obtain ⟨⟨⟨a1, a2⟩, ⟨a3, a4, a5⟩, -⟩, h2, h3, h4, h5⟩ := h
  obtain ⟨k1, k2, k3⟩ := k
  have r : τ'.2.2.1 = τ.2.2.1 := by rw [k3]
  refine ⟨⟨⟨(k1 158 (by decide) (by decide) (by decide)).trans a1, fun i c e hi => by rw [r]; exact a2 i c e hi⟩, ⟨(k1 160 (by decide) (by decide) (by decide)).trans a3, a4, fun k hk => by rw [r]; exact a5 k hk⟩, fun _ _ _ => rfl, rfl, fun _ _ _ => rfl, rfl⟩, fun q a b c d e => (k1 q a b c).trans (h2 q a b c d e), fun q a => (k2 q a).trans (h3 q a), fun q a b => by rw [r]; exact h4 q a b, by rw [k3]; exact h5⟩
theorem rNmo.cg (h : rNmo g Nm wd V) (k : rTv g Nm V s τ) : rNmo g Nm wd τ := by
  obtain ⟨h1, h2, h3⟩ := h
  refine ⟨h1, h2, fun w hw => ?_⟩
  obtain ⟨-, -, -, r, -⟩ := k
  rw [r 30 (by decide) (by decide), r 4 (by decide) (by decide), r 5 (by decide) (by decide), r 1 (by decide) (by decide)]
  exact h3 w hw
theorem rBk.cg (h : rBk g Nm bk V) (k : rTv g Nm V s τ) : rBk g Nm bk τ := fun a ha => by
  obtain ⟨-, -, -, r, -⟩ := k
  rw [r 66 (by decide) (by decide), r 67 (by decide) (by decide)]
  exact h a ha
theorem rTeh_of (hu : uOf τ = uT4 Γ t fl) (hb : -1125899906842624 ≤ t.2 ∧ t.2 ≤ 1125899906842624) (hN : ∀ a e, t.1 = some (a, e) → Nm a ∧ (e = 1 ∨ e = -1)) : rTeh Γ.1 Nm t τ := by
  have e1 : τ.1 138 = (uTe Γ t).1 := congrArg (fun x : oU => x.1) hu
  have e2 : τ.1 139 = (uTe Γ t).2.1 := congrArg (fun x : oU => x.2.1) hu
  have e3 : τ.2.1 140 = (uTe Γ t).2.2 := congrArg (fun x : oU => x.2.2.1) hu
  have ti : (Int64.ofInt t.2).toInt = t.2 := Int64.toInt_ofInt_of_le (by omega) (by omega)
  obtain ⟨t1, t2⟩ := t
  match t1, hN with
  | none, _ => exact ⟨⟨e3, ti, by omega⟩, Or.inl ⟨rfl, e2⟩⟩
  | some (a, e), hN =>
    obtain ⟨n1, n2⟩ := hN a e rfl
    exact ⟨⟨e3, ti, by omega⟩, Or.inr ⟨a, e, rfl, n1, n2, e1, e2⟩⟩
/-- a FACT, its term at hand -/
theorem v_fact {r : Nat} {b : Bool} (hf : lFacts κ ks sz) (hT : 2100 ≤ T) (hw : ∀ w, (wd w).length ≤ 3000) (hR : rNmo Γ.1 Nm wd V) (hB : rBk Γ.1 Nm bk V) (hr : r ≤ 4) (h : rTv Γ.1 Nm V s τ) (hu : uOf τ = uT4 Γ t fl) (hb : -1125899906842624 ≤ t.2 ∧ t.2 ≤ 1125899906842624) (hN : ∀ a e, t.1 = some (a, e) → Nm a ∧ (e = 1 ∨ e = -1)) (hl : s.1.length < 770000000) (hl2 : s.2.length < 4000) : ∃ τ', zF h0 qs ks T (n + 4) 116 [.ref h0, .int (nI r), .int (b01 b)] τ = some (none, τ') ∧ rTv Γ.1 Nm V (tTm wd bk t ((s.1 ++ (if b = true then [118] else [38, 118])) ++ tRl r, s.2)) τ' := by
  obtain ⟨τ', r1, r2⟩ := s_fact (h0 := h0) (qs := qs) (n := n) (wd := wd) (bk := bk) (b := b) hf hT hw (hR.cg h) (hB.cg h) (rTeh_of hu hb hN) hr h.1 hl hl2
  exact ⟨τ', r1, h.on r2⟩
end TRV
