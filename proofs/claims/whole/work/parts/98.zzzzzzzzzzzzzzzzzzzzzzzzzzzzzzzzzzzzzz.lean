/-! type(): draft, OUT and the list of NAMES, while a script goes on -/
/-- what was a NAME is one; nothing is taken away -/
def oK6 (σ0 σ : oSt) : Prop := ((∀ q, σ.2.1 ≤ q → σ.1 q = none) ∧ σ0.2.1 ≤ σ.2.1) ∧ ∀ q f, σ0.1 q = some (.inr (6, f)) → ∃ f', σ.1 q = some (.inr (6, f'))
section OK6
variable {σ0 σ : oSt}
theorem oK6.rf (h : ∀ q, σ.2.1 ≤ q → σ.1 q = none) : oK6 σ σ := ⟨⟨h, Nat.le_refl _⟩, fun q f e => ⟨f, e⟩⟩
theorem oK6.nw (h : oK6 σ0 σ) (c : oC) (n : Nat) : oK6 σ0 (onew σ c n) := by
  refine ⟨⟨fun q hq => ?_, ?_⟩, fun q f e => ?_⟩
  · have hq : σ.2.1 + 1 ≤ q := hq
    rw [onew_ne (by omega)]
    exact h.1.1 q (by omega)
  · show σ0.2.1 ≤ σ.2.1 + 1
    have := h.1.2
    omega
  · obtain ⟨f', e'⟩ := h.2 q f e
    refine ⟨f', ?_⟩
    rw [onew_ne (fun z => by rw [z, h.1.1 σ.2.1 (Nat.le_refl _)] at e'; cases e')]
    exact e'
theorem oK6.pu (h : oK6 σ0 σ) {q ci : Nat} {fs gs : List Value} (e : σ.1 q = some (.inr (ci, fs))) : oK6 σ0 (oput σ q (.inr (ci, gs))) := by
  refine ⟨⟨fun q' hq => ?_, h.1.2⟩, fun q' f e' => ?_⟩
  · have hq : σ.2.1 ≤ q' := hq
    rw [oput_ne (fun z => by rw [← z, h.1.1 q' hq] at e; cases e)]
    exact h.1.1 q' hq
  · obtain ⟨f', e1⟩ := h.2 q' f e'
    by_cases c : q' = q
    · subst c
      rw [e] at e1
      injection e1 with e1; injection e1 with e1; injection e1 with e1 _
      subst e1
      exact ⟨gs, oput_eq _ _ _⟩
    · exact ⟨f', by rw [oput_ne c]; exact e1⟩
theorem oK6.pf (h : oK6 σ0 σ) {r : Option Nat} {ci i : Nat} {x : Value} {s : oSt} (e : opf σ r ci i x = some s) : oK6 σ0 s := by
  obtain ⟨q, fs, rfl, e1, hk, e⟩ := lg_opf e
  rw [e]
  exact h.pu e1
theorem oK6_ok (σ0 : oSt) : iKptO (oK6 σ0) := ⟨fun σ y n h => h.nw _ n, fun σ k n hk h => h.nw _ n, fun σ q ci fs k v h e _ _ => h.pu e, fun σ q y y' h e => ⟨⟨fun q' hq => by
  have hq : σ.2.1 ≤ q' := hq
  rw [oput_ne (fun z => by rw [← z, h.1.1 q' hq] at e; cases e)]
  exact h.1.1 q' hq, h.1.2⟩, fun q' f e' => by
  obtain ⟨f', e1⟩ := h.2 q' f e'
  exact ⟨f', by rw [oput_ne (fun z => by rw [z, e] at e1; cases e1)]; exact e1⟩⟩, fun n call κ x0 x1 σ h => by
  unfold ob_X2_makeRoom
  refine PIo_gd ?_
  show PIo (oK6 σ0) (obn (opf (onew σ (.inl (.int, x1.toNatClampNeg, .inl (fun _ => 0))) x1.toNatClampNeg) x0 4 5 (va_rf (some σ.2.1))) _)
  refine PIo_be (fun s4 e4 => ?_)
  have h4 := (h.nw (.inl (FieldType.int, x1.toNatClampNeg, .inl (fun _ => 0))) x1.toNatClampNeg).pf e4
  refine PIo_gd ?_
  show PIo (oK6 σ0) (obn (opf (onew s4 (.inl (.object (oq 11).1, x1.toNatClampNeg, .inr (.inr (.inr (.inr (fun _ => none)))))) x1.toNatClampNeg) x0 4 6 (va_rf (some s4.2.1))) _)
  refine PIo_be (fun s9 e9 => ?_)
  exact PIo_some ((h4.nw (.inl (FieldType.object (oq 11).1, x1.toNatClampNeg, .inr (.inr (.inr (.inr (fun _ => none)))))) x1.toNatClampNeg).pf e9)⟩
end OK6
/-- cells that draft, OUT and the list are made of -/
def lDc (c : oC) : Prop := (∃ n f, c = .inl (.byte, n, f)) ∨ (∃ n f, c = .inl (.object "java/lang/Object", n, f)) ∨ ∃ f, c = .inr (1, f)
theorem lDc_ne {c : oC} (h : lDc c) {k : Nat} {f : List Value} (hk : k ≠ 1) : c ≠ .inr (k, f) := by
  rcases h with ⟨n, g, r⟩ | ⟨n, g, r⟩ | ⟨g, r⟩ <;> rw [r]
  · exact fun z => by cases z
  · exact fun z => by cases z
  · intro z
    injection z with z; injection z with z _
    exact hk z.symm
theorem lDc_nr {c : oC} (h : lDc c) {y} (h1 : y.1 ≠ .byte) (h2 : y.1 ≠ .object "java/lang/Object") : c ≠ .inl y := by
  rcases h with ⟨n, g, r⟩ | ⟨n, g, r⟩ | ⟨g, r⟩ <;> rw [r]
  · intro z
    injection z with z
    exact h1 (by rw [← z])
  · intro z
    injection z with z
    exact h2 (by rw [← z])
  · exact fun z => by cases z
/-- **OUT, draft (dq: their lengths, the list's row's) and the list of NAMES that have no word**, apart from the PROGRAM -/
def lDr (κ : oKv) (x lo hi : Nat) (dq : Nat × Nat × Nat) (σ : oSt) : Prop := ∃ (fs : List Value) (ta oa da nl d len : Nat) (mc : Int32) (go gb : Nat → Int32) (g : Nat → Option Nat), σ.1 x = some (.inr (14, fs)) ∧ (fs[0]? = some (.ref ta) ∧ fs[6]? = some (.ref oa) ∧ fs[7]? = some (.ref da) ∧ fs[10]? = some (.ref nl)) ∧ (σ.1 oa = some (.inl (.byte, dq.1, .inl go)) ∧ σ.1 da = some (.inl (.byte, dq.2.1, .inl gb))) ∧ ((tCk dq.1 ∧ dq.1 ≤ 16000) ∧ (tCk dq.2.1 ∧ dq.2.1 ≤ 16000) ∧ da ≠ oa ∧ da ≠ ta ∧ oa ≠ ta ∧ nl ≠ ta ∧ d ≠ ta) ∧ ((da < lo ∨ hi ≤ da) ∧ (oa < lo ∨ hi ≤ oa) ∧ nl < lo ∧ (d < lo ∨ hi ≤ d)) ∧ cLs κ σ nl d dq.2.2 len mc g 6 ∧ len ≤ 2451 ∧ dq.2.2 ≤ 3690
section LDR
variable {κ : oKv} {T sz x lo hi hl : Nat} {dq : Nat × Nat × Nat} {σ u : oSt} {τ v : zSt} {ma va ra : Nat} {fm : List Value} {fv : Nat → Int64} {gr : Nat → Option Nat}
theorem lDr.to (h : lDr κ x lo hi dq σ) (hz : u.1 κ.2.2.1 = none) (h6 : ∀ q f, σ.1 q = some (.inr (6, f)) → ∃ f', u.1 q = some (.inr (6, f'))) (hx : ∀ fs, σ.1 x = some (.inr (14, fs)) → ∃ fs', u.1 x = some (.inr (14, fs')) ∧ ∀ k, k = 0 ∨ k = 6 ∨ k = 7 ∨ k = 10 → fs'[k]? = fs[k]?) (hc : ∀ fs ta, σ.1 x = some (.inr (14, fs)) → fs[0]? = some (.ref ta) → ∀ q c, σ.1 q = some c → q ≠ x → q ≠ ta → lDc c → u.1 q = some c) : lDr κ x lo hi dq u := by
  obtain ⟨fs, ta, oa, da, nl, d, len, mc, go, gb, g, e1, ⟨f0, f6, f7, f10⟩, ⟨ro, rd⟩, ⟨b1, b2, b3, b4, b5, b6, b7⟩, bb, ⟨n1, n2, n3⟩, b8⟩ := h
  obtain ⟨fs', x1, x2⟩ := hx fs e1
  have R := hc fs ta e1 f0
  refine ⟨fs', ta, oa, da, nl, d, len, mc, go, gb, g, x1, ⟨(x2 0 (by omega)).trans f0, (x2 6 (by omega)).trans f6, (x2 7 (by omega)).trans f7, (x2 10 (by omega)).trans f10⟩, ⟨R oa _ ro (fun z => by rw [z, e1] at ro; cases ro) b5 (Or.inl ⟨_, _, rfl⟩), R da _ rd (fun z => by rw [z, e1] at rd; cases rd) b4 (Or.inl ⟨_, _, rfl⟩)⟩, ⟨b1, b2, b3, b4, b5, b6, b7⟩, bb, ⟨R nl _ n1 (fun z => ?_) b6 (Or.inr (Or.inr ⟨_, rfl⟩)), ?_, fun j hj => ?_⟩, b8⟩
  · rw [z, e1] at n1
    injection n1 with n1; injection n1 with n1; injection n1 with n1 _
    exact absurd n1 (by decide)
  · rcases n2 with ⟨w1, w2, w3, -⟩ | ⟨w1, w2⟩
    · exact Or.inl ⟨w1, w2, w3, by rw [w3]; exact hz⟩
    · exact Or.inr ⟨R d _ w1 (fun z => by rw [z, e1] at w1; cases w1) b7 (Or.inr (Or.inl ⟨_, _, rfl⟩)), w2⟩
  · obtain ⟨b, f, y1, y2⟩ := n3 j hj
    obtain ⟨f', y3⟩ := h6 b f y2
    exact ⟨b, f', y1, y3⟩
/-- text is fed -/
theorem lDr.ke (hz : u.1 κ.2.2.1 = none) (k6 : oK6 σ u) (hr' : lRel x u v) (h : lKeep x σ τ u v) (D : lDr κ x lo hi dq σ) : lDr κ x lo hi dq u := D.to hz k6.2 (fun fs e => by
  obtain ⟨fs', e1, e2⟩ := h.fc hr' e
  exact ⟨fs', e1, fun k hk => e2 k (by omega)⟩) (fun fs ta e f0 q c eq hq ht _ => (h.2.1 q hq (fun z => ht (by
  rw [ofd_at e, f0] at z
  injection z with z; injection z with z
  exact z.symm))).trans eq)
/-- compile() with a FAULT -/
theorem lDr.kc (hz : u.1 κ.2.2.1 = none) (k6 : oK6 σ u) (hfr : ∀ q, σ.2.1 ≤ q → σ.1 q = none) (h : lKc x σ u) (D : lDr κ x lo hi dq σ) : lDr κ x lo hi dq u := by
  obtain ⟨gs, gm, ma, pl, g1, g2, g3, g4, g5, g6, g7, g8⟩ := h
  refine D.to hz k6.2 (fun fs e => ?_) (fun fs ta e f0 q c eq hq ht hc => (g8 q (Nat.lt_of_not_le (fun w => by rw [hfr q w] at eq; cases eq)) hq (fun z => ?_) (fun f z => ?_) (fun f z => ?_)).trans eq)
  · rw [g1] at e
    injection e with e; injection e with e; injection e with _ e
    subst e
    exact ⟨_, g5, fun k hk => by
      rw [List.getElem?_set_ne (by omega), List.getElem?_set_ne (by omega), List.getElem?_set_ne (by omega), List.getElem?_set_ne (by omega), List.getElem?_set_ne (by omega), List.getElem?_set_ne (by omega)]⟩
  · rw [z, g3] at eq
    injection eq with eq
    exact lDc_ne hc (by decide) eq.symm
  · rw [eq] at z
    injection z with z
    exact lDc_ne hc (by decide) z
  · rw [eq] at z
    injection z with z
    exact lDc_ne hc (by decide) z
/-- compile() of a PROGRAM -/
theorem lDr.ko (hz : u.1 κ.2.2.1 = none) (k6 : oK6 σ u) (hfr : ∀ q, σ.2.1 ≤ q → σ.1 q = none) (M : lMv x σ ma va ra fm fv gr) (h : lKo x σ u) (D : lDr κ x lo hi dq σ) : lDr κ x lo hi dq u := by
  obtain ⟨⟨gs, g1, g2⟩, ⟨g3, -, g4, -⟩, g5, -⟩ := M
  obtain ⟨p', y', kd, w6, w7, w9, w10⟩ := h.un g1 g2 g3 g4
  refine D.to hz k6.2 (fun fs e => ?_) (fun fs ta e f0 q c eq hq ht hc => (w10 q (Nat.lt_of_not_le (fun w => by rw [hfr q w] at eq; cases eq)) hq (fun z => ?_) (fun z => ?_) (fun f z => ?_) (fun f z => ?_)).trans eq)
  · rw [g1] at e
    injection e with e; injection e with e; injection e with _ e
    subst e
    exact ⟨_, w6, fun k hk => by
      rw [List.getElem?_set_ne (by omega), List.getElem?_set_ne (by omega), List.getElem?_set_ne (by omega), List.getElem?_set_ne (by omega), List.getElem?_set_ne (by omega), List.getElem?_set_ne (by omega), List.getElem?_set_ne (by omega)]⟩
  · rw [z, g3] at eq
    injection eq with eq
    exact lDc_ne hc (by decide) eq.symm
  · rw [z, g5] at eq
    injection eq with eq
    exact lDc_nr hc (fun w => by cases w) (fun w => by cases w) eq.symm
  · rw [eq] at z
    injection z with z
    exact lDc_ne hc (by decide) z
  · rw [eq] at z
    injection z with z
    exact lDc_ne hc (by decide) z
/-- INPUTS are given -/
theorem lDr.gi (hz : u.1 κ.2.2.1 = none) (k6 : oK6 σ u) (hfr : ∀ q, σ.2.1 ≤ q → σ.1 q = none) (M : lMv x σ ma va ra fm fv gr) (h7 : lKi x σ u) (h8 : ∀ q ci fs, σ.1 q = some (.inr (ci, fs)) → u.1 q = σ.1 q) (D : lDr κ x lo hi dq σ) : lDr κ x lo hi dq u := by
  have R := h7 ma va ra fm fv gr M
  obtain ⟨⟨gs, g1, g2⟩, ⟨g3, -, g4, -⟩, g5, g6, g7, -⟩ := M
  refine D.to hz k6.2 (fun fs e => ⟨fs, (h8 _ _ _ e).trans e, fun _ _ => rfl⟩) (fun fs ta e f0 q c eq hq ht hc => (R q (Nat.lt_of_not_le (fun w => by rw [hfr q w] at eq; cases eq)) (fun z => ?_) (fun z => ?_) (fun i b hi hb z => ?_)).trans eq)
  · rw [z, g5] at eq
    injection eq with eq
    exact lDc_nr hc (fun w => by cases w) (fun w => by cases w) eq.symm
  · rw [z, g6] at eq
    injection eq with eq
    exact lDc_nr hc (fun w => by cases w) (fun w => by cases w) eq.symm
  · obtain ⟨h, e9⟩ := g7 i b hi hb
    rw [z, e9] at eq
    injection eq with eq
    exact lDc_nr hc (fun w => by cases w) (fun w => by cases w) eq.symm
/-- run() -/
theorem lDr.rn (hz : u.1 κ.2.2.1 = none) (k6 : oK6 σ u) (hfr : ∀ q, σ.2.1 ≤ q → σ.1 q = none) {lo' hi' : Nat} (hM : hMq x lo' hi' hl σ) (h : hKr x σ u) (D : lDr κ x lo hi dq σ) : lDr κ x lo hi dq u := by
  have ux := (h.xx hfr ⟨_, _, _, hM⟩).1
  obtain ⟨fs, ma, gm, ha, wn, ws, wa, ha2, ⟨a1, a2⟩, ⟨a3, a5, w1, w2, w3⟩, K, gm', u1, u2, u3⟩ := h
  obtain ⟨fs', ma', fm', va', hh, hp, wn', ws', wa', WN, WS, WA, ⟨b1, b2⟩, ⟨b3, -, -⟩, ⟨b6, b7, -⟩, ⟨⟨v1, v2, v3⟩, ⟨q1, q2, q3⟩, -⟩, -⟩ := hM
  rw [a1] at b1
  injection b1 with b1; injection b1 with b1; injection b1 with _ b1
  subst b1
  rw [a2] at b2
  injection b2 with b2; injection b2 with b2
  subst b2
  rw [a3] at b3
  injection b3 with b3; injection b3 with b3; injection b3 with _ b3
  subst b3
  rw [w1] at v1
  injection v1 with v1; injection v1 with v1
  subst v1
  rw [w2] at v2
  injection v2 with v2; injection v2 with v2
  subst v2
  rw [w3] at v3
  injection v3 with v3; injection v3 with v3
  subst v3
  rw [a5] at b6
  injection b6 with b6; injection b6 with b6
  subst b6
  refine D.to hz k6.2 (fun fs e => ⟨fs, by rw [ux]; exact e, fun _ _ => rfl⟩) (fun fs ta e f0 q c eq hq ht hc => (K.1 q (Nat.lt_of_not_le (fun w => by rw [hfr q w] at eq; cases eq)) (fun z => ?_) (fun z => ?_) (fun z => ?_)).trans eq)
  · rw [z, a3] at eq
    injection eq with eq
    exact lDc_ne hc (by decide) eq.symm
  · rw [z, b7] at eq
    injection eq with eq
    exact lDc_nr hc (fun w => by cases w) (fun w => by cases w) eq.symm
  · rcases z with z | z | z
    · rw [z, q1] at eq
      injection eq with eq
      exact lDc_nr hc (fun w => by cases w) (fun w => by injection w with w; exact absurd w (by decide)) eq.symm
    · rw [z, q2] at eq
      injection eq with eq
      exact lDc_nr hc (fun w => by cases w) (fun w => by cases w) eq.symm
    · rw [z, q3] at eq
      injection eq with eq
      exact lDc_nr hc (fun w => by cases w) (fun w => by cases w) eq.symm
/-- all of it is older than what comes -/
theorem lDr.ol {b0 : Nat} (hfr : ∀ q, σ.2.1 ≤ q → σ.1 q = none) (hκ : κ.2.2.1 < σ.2.1) (D : lDr κ x b0 0 dq σ) (hi' : Nat) : lDr κ x σ.2.1 hi' dq σ := by
  obtain ⟨fs, ta, oa, da, nl, d, len, mc, go, gb, g, e1, ff, ⟨ro, rd⟩, bb, -, n, b8⟩ := D
  have lt : ∀ {q : Nat} {c : oC}, σ.1 q = some c → q < σ.2.1 := fun {q c} z => Nat.lt_of_not_le (fun w => by rw [hfr q w] at z; cases z)
  refine ⟨fs, ta, oa, da, nl, d, len, mc, go, gb, g, e1, ff, ⟨ro, rd⟩, bb, ⟨Or.inl (lt rd), Or.inl (lt ro), lt n.1, Or.inl ?_⟩, n, b8⟩
  rcases n.2.1 with ⟨-, -, w3, -⟩ | ⟨w1, -⟩
  · rw [w3]; exact hκ
  · exact lt w1
end LDR
