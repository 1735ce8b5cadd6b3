/-! the class's gather(): types in cells, and what keeps them -/
/-- rows of terms that NAMES hold -/
def tmS (b0 : Nat) (σ : oSt) (x : Nat) : Prop := ∃ a fs, b0 ≤ a ∧ σ.1 a = some (.inr (6, fs)) ∧ fs[5]? = some (.ref x)
/-- rows of the four lists -/
def ldS (l : Nat → Nat) (σ : oSt) (x : Nat) : Prop := ∃ i mc n, i < 4 ∧ σ.1 (l i) = some (.inr (1, [.int mc, .ref x, .int n]))
/-- a row that gather() does not write -/
def qA (st : Nat) (l : Nat → Nat) (b0 : Nat) (σ : oSt) (x : Nat) : Prop := x ≠ st ∧ ¬ ldS l σ x ∧ ¬ tmS b0 σ x
/-- a cell that gather() does not write -/
def qtG (st : Nat) (l : Nat → Nat) (b0 : Nat) (σ : oSt) (x : Nat) (cc : oC) : Prop := match cc with
  | .inr o => (o.1 ≠ 2 ∧ o.1 ≠ 6 ∧ o.1 ≠ 7) ∧ (o.1 = 1 → ∀ i, i < 4 → x ≠ l i)
  | .inl _ => qA st l b0 σ x
/-- **what gather() leaves as it was**; W: NAMES of which something else may be known -/
def gKp (st : Nat) (l : Nat → Nat) (b0 : Nat) (W : Nat → Prop) (σ σ' : oSt) : Prop := (∀ x cc, σ.1 x = some cc → qtG st l b0 σ x cc → σ'.1 x = some cc ∧ qtG st l b0 σ' x cc) ∧ (∀ x fs, σ.1 x = some (.inr (6, fs)) → ∃ fs', σ'.1 x = some (.inr (6, fs')) ∧ fs'.length = fs.length ∧ ∀ i, i ≠ 5 → (i = 4 → ¬ W x) → fs'[i]? = fs[i]?) ∧ (∀ x fs, σ.1 x = some (.inr (7, fs)) → ∃ fs', σ'.1 x = some (.inr (7, fs')) ∧ fs'.length = fs.length ∧ ∀ i, i ≠ 20 → fs'[i]? = fs[i]?) ∧ σ.2.1 ≤ σ'.2.1
section GKP
variable {st b0 : Nat} {l : Nat → Nat} {W W' : Nat → Prop} {σ σ' σ2 : oSt}
theorem gKp.rf : gKp st l b0 W σ σ := ⟨fun x cc h q => ⟨h, q⟩, fun x fs h => ⟨fs, h, rfl, fun _ _ _ => rfl⟩, fun x fs h => ⟨fs, h, rfl, fun _ _ => rfl⟩, Nat.le_refl _⟩
theorem gKp.mo (h : gKp st l b0 W σ σ') (hW : ∀ x, W x → W' x) : gKp st l b0 W' σ σ' := ⟨h.1, fun x fs e => by
  obtain ⟨fs', a, b, c⟩ := h.2.1 x fs e
  exact ⟨fs', a, b, fun i h5 h4 => c i h5 (fun z w => h4 z (hW x w))⟩, h.2.2⟩
theorem gKp.tr (h : gKp st l b0 W σ σ') (g : gKp st l b0 W σ' σ2) : gKp st l b0 W σ σ2 := ⟨fun x cc e q => g.1 x cc (h.1 x cc e q).1 (h.1 x cc e q).2, fun x fs e => by
  obtain ⟨fs', a, b, c⟩ := h.2.1 x fs e
  obtain ⟨fs2, a2, b2, c2⟩ := g.2.1 x fs' a
  exact ⟨fs2, a2, b2.trans b, fun i h5 h4 => (c2 i h5 h4).trans (c i h5 h4)⟩, fun x fs e => by
  obtain ⟨fs', a, b, c⟩ := h.2.2.1 x fs e
  obtain ⟨fs2, a2, b2, c2⟩ := g.2.2.1 x fs' a
  exact ⟨fs2, a2, b2.trans b, fun i h5 => (c2 i h5).trans (c i h5)⟩, Nat.le_trans h.2.2.2 g.2.2.2⟩
/-- only new cells: none of them a NAME with a row of terms, none of the four lists -/
theorem gKp.of (ho : ∀ x, x < σ.2.1 → σ'.1 x = σ.1 x) (hfr : ∀ q, σ.2.1 ≤ q → σ.1 q = none) (h6 : ∀ x fs, σ.2.1 ≤ x → σ'.1 x = some (.inr (6, fs)) → ∀ y, fs[5]? ≠ some (.ref y)) (hl : ∀ i, i < 4 → l i < σ.2.1) (hn : σ.2.1 ≤ σ'.2.1) : gKp st l b0 W σ σ' := by
  have lt : ∀ {x cc}, σ.1 x = some cc → x < σ.2.1 := fun h => Nat.lt_of_not_le (fun e => by rw [hfr _ e] at h; cases h)
  have q : ∀ x, qA st l b0 σ x → qA st l b0 σ' x := fun x ⟨h1, h2, h3⟩ => by
    refine ⟨h1, fun ⟨i, mc, n, hi, e⟩ => h2 ⟨i, mc, n, hi, by rw [← ho _ (hl i hi)]; exact e⟩, fun ⟨a, fs, eb, e, e5⟩ => ?_⟩
    by_cases c : a < σ.2.1
    · exact h3 ⟨a, fs, eb, by rw [← ho a c]; exact e, e5⟩
    · exact h6 a fs (by omega) e x e5
  refine ⟨fun x cc e w => ⟨by rw [ho x (lt e)]; exact e, ?_⟩, fun x fs e => ⟨fs, by rw [ho x (lt e)]; exact e, rfl, fun _ _ _ => rfl⟩, fun x fs e => ⟨fs, by rw [ho x (lt e)]; exact e, rfl, fun _ _ => rfl⟩, hn⟩
  match cc, w with
  | .inr o, w => exact w
  | .inl y, w => exact q x w
theorem gKp.ob (h : gKp st l b0 W σ σ') {x k : Nat} {fs : List Value} (e : σ.1 x = some (.inr (k, fs))) (h1 : k ≠ 1) (h2 : k ≠ 2) (h6 : k ≠ 6) (h7 : k ≠ 7) : σ'.1 x = some (.inr (k, fs)) := (h.1 x _ e ⟨⟨h2, h6, h7⟩, fun z => absurd z h1⟩).1
theorem gKp.ar (h : gKp st l b0 W σ σ') {x : Nat} {y} (e : σ.1 x = some (.inl y)) (hq : qA st l b0 σ x) : σ'.1 x = some (.inl y) ∧ qA st l b0 σ' x := h.1 x _ e hq
theorem gKp.n6 (h : gKp st l b0 W σ σ') {x : Nat} {fs : List Value} (e : σ.1 x = some (.inr (6, fs))) : ∃ fs', σ'.1 x = some (.inr (6, fs')) := by
  obtain ⟨fs', a, _⟩ := h.2.1 x fs e
  exact ⟨fs', a⟩
end GKP
/-- ghosts: NAMES' cells, places of TEMPLATES, rows of FACTS, keys that are made -/
abbrev kGh : Type := (gN → Nat) × (Nat × List Bool → Nat) × (Nat → Prop) × (Nat → Prop)
/-- a NAME that is there -/
def gMd (Ms : Nat → Prop) (x : gN) : Prop := match x with
  | .inl _ => True
  | .inr kp => Ms kp.1
/-- ghosts go on -/
def gAg (σ : oSt) (Ψ Ψ' : kGh) : Prop := (∀ x, gMd Ψ.2.2.2 x → Ψ'.1 x = Ψ.1 x) ∧ (∀ k p, Ψ.2.2.2 k → Ψ'.2.1 (k, p) = Ψ.2.1 (k, p)) ∧ (∀ x, x < σ.2.1 → (Ψ'.2.2.1 x ↔ Ψ.2.2.1 x)) ∧ ∀ k, Ψ.2.2.2 k → Ψ'.2.2.2 k
theorem gAg.rf (σ : oSt) (Ψ : kGh) : gAg σ Ψ Ψ := ⟨fun _ _ => rfl, fun _ _ _ => rfl, fun _ _ => Iff.rfl, fun _ h => h⟩
theorem gMd.mo {Ms Ms' : Nat → Prop} {x : gN} (h : gMd Ms x) (hm : ∀ k, Ms k → Ms' k) : gMd Ms' x := by
  cases x with
  | inl w => trivial
  | inr kp => exact hm _ h
theorem gAg.tr {σ σ' : oSt} {Ψ Ψ' Ψ2 : kGh} (h : gAg σ Ψ Ψ') (g : gAg σ' Ψ' Ψ2) (hn : σ.2.1 ≤ σ'.2.1) : gAg σ Ψ Ψ2 := ⟨fun x hx => (g.1 x (hx.mo h.2.2.2)).trans (h.1 x hx), fun k p hk => (g.2.1 k p (h.2.2.2 k hk)).trans (h.2.1 k p hk), fun x hx => (g.2.2.1 x (Nat.lt_of_lt_of_le hx hn)).trans (h.2.2.1 x hx), fun k hk => g.2.2.2 k (h.2.2.2 k hk)⟩
/-- a term, NAMES as cells -/
def kTm (na : gN → Nat) (t : gTe) : kTe := (t.1.map (fun x => (na x.1, x.2)), t.2)
/-- a Sum that is a term, in rows that stay -/
def cTq (st : Nat) (l : Nat → Nat) (b0 : Nat) (Q : Nat → Prop) (σ : oSt) (su : Nat) (t : kTe) : Prop := ∃ na ta cap Ls pl, cSm σ su na ta cap Ls pl ∧ pl.toInt = t.2 ∧ ((-1125899906842624 ≤ t.2 ∧ t.2 ≤ 1125899906842624) ∧ b0 ≤ na ∧ b0 ≤ ta ∧ ¬ Q ta) ∧ ((t.1 = none ∧ Ls = []) ∨ ∃ a v, t.1 = some (a, v.toInt) ∧ Ls = [(a, v)] ∧ (v.toInt = 1 ∨ v.toInt = -1)) ∧ qA st l b0 σ na ∧ qA st l b0 σ ta
section CTQ
variable {st b0 : Nat} {l : Nat → Nat} {W : Nat → Prop} {σ σ' : oSt} {Q Q' : Nat → Prop} {su : Nat} {t : kTe}
theorem cTq.tm (h : cTq st l b0 Q σ su t) : cTm (b0, Q) σ su t := by
  obtain ⟨na, ta, cap, Ls, pl, h1, h2, h3, h4, -⟩ := h
  exact ⟨na, ta, cap, Ls, pl, h1, h2, h3, h4⟩
theorem cTq.sm (h : cTq st l b0 Q σ su t) : ∃ fs, σ.1 su = some (.inr (11, fs)) := by
  obtain ⟨na, ta, cap, Ls, pl, ⟨g, h', s1, -⟩, -⟩ := h
  exact ⟨_, s1⟩
theorem cTq.sp (k : gKp st l b0 W σ σ') (hq : ∀ x, x < σ.2.1 → (Q' x ↔ Q x)) (hfr : ∀ q, σ.2.1 ≤ q → σ.1 q = none) (h : cTq st l b0 Q σ su t) : cTq st l b0 Q' σ' su t := by
  obtain ⟨na, ta, cap, Ls, pl, ⟨g, h', s1, s2, s3, s4, s5⟩, h2, ⟨h3, h3', h3'', h3q⟩, h4, q1, q2⟩ := h
  have lt : ta < σ.2.1 := Nat.lt_of_not_le (fun e => by rw [hfr _ e] at s3; cases s3)
  obtain ⟨a1, a2⟩ := k.ar s2 q1
  obtain ⟨b1, b2⟩ := k.ar s3 q2
  refine ⟨na, ta, cap, Ls, pl, ⟨g, h', k.ob s1 (by decide) (by decide) (by decide) (by decide), a1, b1, s4, fun i b c e => ?_⟩, h2, ⟨h3, h3', h3'', fun z => h3q ((hq ta lt).mp z)⟩, h4, a2, b2⟩
  obtain ⟨c1, c2, fs, c3⟩ := s5 i b c e
  exact ⟨c1, c2, k.n6 c3⟩
end CTQ
/-- FACTS of an origin, in rows that stay -/
def kOq (st : Nat) (l : Nat → Nat) (b0 : Nat) (Q : Nat → Prop) (σ : oSt) (w : Nat) (F : List kFc) : Prop := ∃ fs, σ.1 w = some (.inr (4, fs)) ∧ fs.length = 15 ∧ fs[7]? = some (.int (nI F.length)) ∧ F.length ≤ 50000 ∧ (F = [] ∨ ∃ ra sa cap hr gs, fs[5]? = some (.ref ra) ∧ fs[6]? = some (.ref sa) ∧ σ.1 ra = some (.inl (.int, cap, .inl hr)) ∧ σ.1 sa = some (.inl (.object "LiquidTongue$Sum", cap, .inr (.inr (.inr (.inr gs))))) ∧ ((F.length ≤ cap ∧ cap ≤ 50000) ∧ b0 ≤ ra ∧ b0 ≤ sa ∧ Q ra ∧ Q sa) ∧ (qA st l b0 σ ra ∧ qA st l b0 σ sa) ∧ ∀ (i : Nat) (x : kFc), F[i]? = some x → hr i = jRc x.1 ∧ x.1 ≤ 4 ∧ ∃ su, gs i = some su ∧ cTq st l b0 Q σ su x.2)
/-- a Known, its origin, and what stands in the place of what is gone, in rows that stay -/
def kGq (st : Nat) (l : Nat → Nat) (b0 : Nat) (Q : Nat → Prop) (σ : oSt) (k w : Nat) (kd : Int32) (G : List (Nat × kTe)) : Prop := ∃ fs gn ins, σ.1 k = some (.inr (4, fs)) ∧ fs.length = 15 ∧ fs[0]? = some (.int kd) ∧ fs[1]? = some (.ref w) ∧ G.length < 1000 ∧ fs[9]? = some (va_rf gn) ∧ fs[10]? = some (va_rf ins) ∧ ((G = [] ∧ gn = none) ∨ ∃ x y g g', gn = some x ∧ ins = some y ∧ (b0 ≤ x ∧ b0 ≤ y ∧ ¬ Q y) ∧ σ.1 x = some (.inl (.object "LiquidTongue$Name", G.length, .inr (.inr (.inr (.inr g))))) ∧ σ.1 y = some (.inl (.object "LiquidTongue$Sum", G.length, .inr (.inr (.inr (.inr g'))))) ∧ (qA st l b0 σ x ∧ qA st l b0 σ y ∧ 0 < G.length) ∧ ∀ (i : Nat) (z : Nat × kTe), G[i]? = some z → (g i = some z.1 ∧ ∃ f, σ.1 z.1 = some (.inr (6, f))) ∧ ∃ su, g' i = some su ∧ cTq st l b0 Q σ su z.2)
section KOQ
variable {st b0 : Nat} {l : Nat → Nat} {W : Nat → Prop} {σ σ' : oSt} {Q Q' : Nat → Prop} {w k : Nat} {kd : Int32} {F : List kFc} {G : List (Nat × kTe)}
theorem kOq.or (h : kOq st l b0 Q σ w F) : ∃ ra sa, kOr (b0, Q) σ w ra sa F := by
  obtain ⟨fs, h1, h2, h3, h4, h5⟩ := h
  rcases h5 with h5 | ⟨ra, sa, cap, hr, gs, a1, a2, a3, a4, a5, -, a6⟩
  · exact ⟨0, 0, fs, 0, fun _ => 0, fun _ => none, h1, h2, h3, by omega, Or.inl h5⟩
  · exact ⟨ra, sa, fs, cap, hr, gs, h1, h2, h3, by omega, Or.inr ⟨a1, a2, a3, a4, ⟨⟨a5.1.1, by omega⟩, a5.2⟩, fun i x e => ⟨(a6 i x e).1, (a6 i x e).2.1, (a6 i x e).2.2.imp fun su z => ⟨z.1, z.2.tm⟩⟩⟩⟩
theorem kGq.go (h : kGq st l b0 Q σ k w kd G) : kGo (b0, Q) σ k w G := by
  obtain ⟨fs, gn, ins, h1, h2, h0, h3, h4, h5, h6, h7⟩ := h
  refine ⟨fs, h1, h2, h3, by omega, ?_⟩
  rcases h7 with ⟨e, z⟩ | ⟨x, y, g, g', z1, z2, a1, a2, a3, -, a4⟩
  · exact Or.inl ⟨e, by rw [h5, z]⟩
  · exact Or.inr ⟨x, y, g, g', a1, by rw [h5, z1]; rfl, by rw [h6, z2]; rfl, a2, a3, fun i z e => ⟨(a4 i z e).1.1, (a4 i z e).2.imp fun su w => ⟨w.1, w.2.tm⟩⟩⟩
theorem kOq.sp (kk : gKp st l b0 W σ σ') (hq : ∀ x, x < σ.2.1 → (Q' x ↔ Q x)) (hfr : ∀ q, σ.2.1 ≤ q → σ.1 q = none) (h : kOq st l b0 Q σ w F) : kOq st l b0 Q' σ' w F := by
  have lt : ∀ {x cc}, σ.1 x = some cc → x < σ.2.1 := fun h => Nat.lt_of_not_le (fun e => by rw [hfr _ e] at h; cases h)
  obtain ⟨fs, h1, h2, h3, h4, h5⟩ := h
  refine ⟨fs, kk.ob h1 (by decide) (by decide) (by decide) (by decide), h2, h3, h4, ?_⟩
  rcases h5 with h5 | ⟨ra, sa, cap, hr, gs, a1, a2, a3, a4, ⟨a5, a5', a5'', qa, qb⟩, ⟨q1, q2⟩, a6⟩
  · exact Or.inl h5
  · obtain ⟨b1, b2⟩ := kk.ar a3 q1
    obtain ⟨c1, c2⟩ := kk.ar a4 q2
    exact Or.inr ⟨ra, sa, cap, hr, gs, a1, a2, b1, c1, ⟨a5, a5', a5'', (hq ra (lt a3)).mpr qa, (hq sa (lt a4)).mpr qb⟩, ⟨b2, c2⟩, fun i x e => ⟨(a6 i x e).1, (a6 i x e).2.1, (a6 i x e).2.2.imp fun su z => ⟨z.1, z.2.sp kk hq hfr⟩⟩⟩
theorem kGq.sp (kk : gKp st l b0 W σ σ') (hq : ∀ x, x < σ.2.1 → (Q' x ↔ Q x)) (hfr : ∀ q, σ.2.1 ≤ q → σ.1 q = none) (h : kGq st l b0 Q σ k w kd G) : kGq st l b0 Q' σ' k w kd G := by
  have lt : ∀ {x cc}, σ.1 x = some cc → x < σ.2.1 := fun h => Nat.lt_of_not_le (fun e => by rw [hfr _ e] at h; cases h)
  obtain ⟨fs, gn, ins, h1, h2, h0, h3, h4, h5, h6, h7⟩ := h
  refine ⟨fs, gn, ins, kk.ob h1 (by decide) (by decide) (by decide) (by decide), h2, h0, h3, h4, h5, h6, ?_⟩
  rcases h7 with h7 | ⟨x, y, g, g', z1, z2, ⟨a1, a1', a1q⟩, a2, a3, ⟨q1, q2, q3⟩, a4⟩
  · exact Or.inl h7
  · obtain ⟨b1, b2⟩ := kk.ar a2 q1
    obtain ⟨c1, c2⟩ := kk.ar a3 q2
    exact Or.inr ⟨x, y, g, g', z1, z2, ⟨a1, a1', fun z => a1q ((hq y (lt a3)).mp z)⟩, b1, c1, ⟨b2, c2, q3⟩, fun i z e => ⟨⟨(a4 i z e).1.1, kk.n6 (a4 i z e).1.2.choose_spec⟩, (a4 i z e).2.imp fun su w => ⟨w.1, w.2.sp kk hq hfr⟩⟩⟩
end KOQ
