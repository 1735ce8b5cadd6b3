/-! compile() of both -/
section LCO
variable {κ : oKv} {ks : Nat → Nat} {qs : List Nat} {T n n' x y sz k0 : Nat} {a : Nat → Int32} {σ u : oSt} {τ : zSt}
theorem lMv.kc {ma va ra : Nat} {fm : List Value} {fv : Nat → Int64} {gr : Nat → Option Nat} (hR : oRm sz σ) (h : lMv x σ ma va ra fm fv gr) (k : lKc x σ u) : ∃ fm', lMv x u ma va ra fm' fv gr := by
  obtain ⟨⟨gs, M1, M2⟩, ⟨M3, M4, M5, M6⟩, M7, M8, M9, M10⟩ := h
  obtain ⟨fs, fm0, ma', pl, k1, k2, k3, k4, k5, k6, k7, k8⟩ := k
  rw [k1] at M1
  injection M1 with M1; injection M1 with M1; injection M1 with _ M1
  subst M1
  rw [k2] at M2
  injection M2 with M2; injection M2 with M2
  subst M2
  rw [k3] at M3
  injection M3 with M3; injection M3 with M3; injection M3 with _ M3
  subst M3
  have hfr := hR.2.1
  refine ⟨_, ⟨_, k5, ?_⟩, ⟨k6, by simp only [List.length_set]; exact M4, ?_, ?_⟩, ?_, ?_, fun i b hi e => ?_, M10⟩
  · simpa [List.getElem?_set] using k2
  · simpa [List.getElem?_set] using M5
  · simpa [List.getElem?_set] using M6
  · exact (k8 va (alt hfr M7) (fun z => by rw [z, k1] at M7; cases M7) (fun z => by rw [z, k3] at M7; cases M7) (fun _ z => by rw [M7] at z; cases z) (fun _ z => by rw [M7] at z; cases z)).trans M7
  · exact (k8 ra (alt hfr M8) (fun z => by rw [z, k1] at M8; cases M8) (fun z => by rw [z, k3] at M8; cases M8) (fun _ z => by rw [M8] at z; cases z) (fun _ z => by rw [M8] at z; cases z)).trans M8
  · obtain ⟨h, e1⟩ := M9 i b hi e
    exact ⟨h, (k8 b (alt hfr e1) (fun z => by rw [z, k1] at e1; cases e1) (fun z => by rw [z, k3] at e1; cases e1) (fun _ z => by rw [e1] at z; cases z) (fun _ z => by rw [e1] at z; cases z)).trans e1⟩
/-- **compile()**: both answer alike, and what they leave is alike -/
theorem lr_compile {len ma va ra : Nat} {fm : List Value} {fv : Nat → Int64} {gr : Nat → Option Nat} (hM : lMv x σ ma va ra fm fv gr) (hf : lFacts κ ks sz) (hκ : κ.2.2.1 < sz) (hR : oRm sz σ) (hT : 500000 ≤ T) (h : lRel x σ τ) (h45 : τ.1 45 = 0) (h60 : τ.1 60 = nI k0) (hk0 : k0 + 9002 < 2 ^ 30) (h3 : τ.1 3 = nI len) (hlen : len ≤ 2000) (hn : 1640 ≤ n') : ∃ u v, lst (oF κ T (n + 331)) (zF y qs ks T (n' + 135)) x y a σ τ 2 = some (u, v) ∧ lKp x sz k0 len σ u v ∧ ((lNo x u v ∧ lKc x σ u) ∨ ((∃ q0, pgB κ T sz x q0 u v ∧ pgLo q0 = σ.2.1 ∧ lCs q0 len σ u) ∧ lKo x σ u ∧ v.1 67 = 0)) := by
  generalize eR : wLex T len (fun j => (rT τ len).2.2.1 1 j &&& 255) T 0 (fun _ => 0) (fun _ => 0) (fun _ => 0) 0 = R
  by_cases hok : R.2.2.2.2 = -1
  rotate_left
  · obtain ⟨u, v, l1, l2, l3, l4, l5, l6, l7, l8, l9⟩ := lr_bad2 (κ := κ) (T := T) (y := y) (qs := qs) (ks := ks) (n := n + 321) (n' := n' + 132) (a := a) hf hR (by omega) h h45 h60 h3 hlen (by rw [eR]; exact hok)
    exact ⟨u, v, l1, ⟨l2, l3, l4, ⟨k0, l5, by omega⟩, by omega, by omega⟩, Or.inl ⟨l6, l7⟩⟩
  cases hP : aPr R.1 T R.2.2.2.1 with
  | inl j =>
    obtain ⟨u, v, l1, l2, l3, l4, l5, l6, l7, l8, l9⟩ := lr_gram2 (κ := κ) (T := T) (y := y) (qs := qs) (ks := ks) (n := n + 90) (n' := n') (a := a) hf hκ hR (by omega) h h45 h60 h3 hlen eR hok hP
    exact ⟨u, v, l1, ⟨l2, l3, l4, ⟨k0, l5, by omega⟩, by omega, by omega⟩, Or.inl ⟨l6, l7⟩⟩
  | inr q =>
    obtain ⟨⟨xs, is, e⟩, j⟩ := q
    cases hN : (nT ((rT τ len).2.2.1 1) (upd R.2.1 R.2.2.2.1 (nI len)) (upd R.2.2.1 R.2.2.2.1 (nI len)) e (nIn ((rT τ len).2.2.1 1) (upd R.2.1 R.2.2.2.1 (nI len)) (upd R.2.2.1 R.2.2.2.1 (nI len)) is ([], [], none))).2.2 with
    | some w =>
      obtain ⟨u, v, l1, l2, l3, l4, l5, l6, l7, l8, l9⟩ := lr_names2 (κ := κ) (T := T) (y := y) (qs := qs) (ks := ks) (n := n + 90) (n' := n') (a := a) hf hκ hR (by omega) h h45 h60 h3 hlen (by omega) eR hok hP hN
      exact ⟨u, v, l1, ⟨l2, l3, l4, ⟨k0, l5, by omega⟩, by omega, by omega⟩, Or.inl ⟨l6, l7⟩⟩
    | none =>
      by_cases hY : mSat (mEnd ((rT τ len).2.2.1 1) (upd R.2.1 R.2.2.2.1 (nI len)) (upd R.2.2.1 R.2.2.2.1 (nI len)) is e).1
      · exact lr_50 hM hf hκ hR hT h h45 h60 hk0 h3 hlen hn eR hok rfl rfl rfl rfl rfl hP hN hY
      · obtain ⟨u, v, l1, l2, l3, l4, l5, l6, l7, l8⟩ := lr_types2 (κ := κ) (T := T) (y := y) (qs := qs) (ks := ks) (n := n) (n' := n') (a := a) hf hκ hR (by omega) h h45 h60 hk0 h3 hlen hn eR hok hP hN hY
        exact ⟨u, v, l1, ⟨l2, l3, l6, l7, l8⟩, Or.inl ⟨l4, l5⟩⟩
end LCO
