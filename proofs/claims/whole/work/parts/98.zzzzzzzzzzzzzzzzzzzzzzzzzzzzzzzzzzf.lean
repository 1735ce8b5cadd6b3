/-! one step of a script: the Judge and the Machine's rows -/
/-- the Judge: its cells, and its row of longs is none of the Machine's -/
def lJd (x b0 jd o ol : Nat) (σ : oSt) : Prop := ∃ fs ma fm va ha ca pa ph ta th len W b cl fa f rd wk ps P Tr, (σ.1 x = some (.inr (14, fs)) ∧ fs[11]? = some (.ref jd) ∧ fs[12]? = some (.ref ma)) ∧ (σ.1 ma = some (.inr (5, fm)) ∧ fm[2]? = some (.ref va) ∧ fm[4]? = some (.ref ha)) ∧ jSt σ jd o ca pa ph ta th len W b cl fa f rd wk ps P Tr ∧ (len ≤ 201600 ∧ len = ol) ∧ (pa < b0 ∧ ph < b0 ∧ ta < b0 ∧ th < b0) ∧ ca ≠ va ∧ ca ≠ ha
/-- rows that stay -/
def lRj (x : Nat) (σ u : oSt) : Prop := ∀ fs ma fm va ha, σ.1 x = some (.inr (14, fs)) → fs[12]? = some (.ref ma) → σ.1 ma = some (.inr (5, fm)) → fm[2]? = some (.ref va) → fm[4]? = some (.ref ha) → ∀ q ty n g, σ.1 q = some (.inl (ty, n, g)) → (ty = .boolean ∨ (∃ s, ty = .object s ∧ n = 40) ∨ (ty = .long ∧ q ≠ va ∧ q ≠ ha)) → u.1 q = some (.inl (ty, n, g))
/-- the class's own object and its Machine -/
def lFx (x : Nat) (σ u : oSt) : Prop := ∀ fs ma fm va ha, σ.1 x = some (.inr (14, fs)) → fs[12]? = some (.ref ma) → σ.1 ma = some (.inr (5, fm)) → fm[2]? = some (.ref va) → fm[4]? = some (.ref ha) → ∃ fs' fm' ha', u.1 x = some (.inr (14, fs')) ∧ fs'[11]? = fs[11]? ∧ fs'[12]? = some (.ref ma) ∧ u.1 ma = some (.inr (5, fm')) ∧ fm'[2]? = some (.ref va) ∧ fm'[4]? = some (.ref ha') ∧ (ha' = ha ∨ σ.2.1 ≤ ha')
section LZA
variable {κ : oKv} {T x sz b0 jd o ol hl : Nat} {σ u : oSt} {τ v : zSt}
theorem lJd.to (J : lJd x b0 jd o ol σ) (hfr : ∀ q, σ.2.1 ≤ q → σ.1 q = none) (uj : u.1 jd = σ.1 jd) (uo : u.1 o = σ.1 o) (hr : lRj x σ u) (hx : lFx x σ u) : lJd x b0 jd o ol u := by
  obtain ⟨fs, ma, fm, va, ha, ca, pa, ph, ta, th, len, W, b, cl, fa, f, rd, wk, ps, P, Tr, ⟨a1, a2, a3⟩, ⟨a4, a5, a6⟩, J, jl, jp, c1, c2⟩ := J
  have R := hr fs ma fm va ha a1 a3 a4 a5 a6
  obtain ⟨fs', fm', ha', b1, b2, b3, b4, b5, b6, b7⟩ := hx fs ma fm va ha a1 a3 a4 a5 a6
  obtain ⟨j1, ⟨j2, j3⟩, ⟨gp, hp, j4, j5, -⟩, ⟨gt, ht, j6, j7, -⟩, -⟩ := id J
  have lt : ca < σ.2.1 := Nat.lt_of_not_le (fun w => by rw [hfr ca w] at j3; cases j3)
  have e3 := R ca _ _ _ j3 (Or.inr (Or.inr ⟨rfl, c1, c2⟩))
  have e4 := R pa _ _ _ j4 (Or.inr (Or.inl ⟨_, rfl, rfl⟩))
  have e5 := R ph _ _ _ j5 (Or.inl rfl)
  have e6 := R ta _ _ _ j6 (Or.inr (Or.inl ⟨_, rfl, rfl⟩))
  have e7 := R th _ _ _ j7 (Or.inl rfl)
  refine ⟨fs', ma, fm', va, ha', ca, pa, ph, ta, th, len, W, b, cl, fa, f, rd, wk, ps, P, Tr, ⟨b1, b2.trans a2, b3⟩, ⟨b4, b5, b6⟩, J.cg (fun z hz => ?_), jl, jp, c1, ?_⟩
  · rcases hz with r | r | r | r | r | r | r
    · rw [r]; exact uj
    · rw [r]; exact uo
    · rw [r, e3, j3]
    · rw [r, e4, j4]
    · rw [r, e5, j5]
    · rw [r, e6, j6]
    · rw [r, e7, j7]
  · rcases b7 with r | r
    · rw [r]; exact c2
    · omega
/-- the Machine's rows where its fields and they are as they were -/
theorem hMq.to {lo hi : Nat} (h : hMq x lo hi hl σ) (hc : ∀ fs ma fm, σ.1 x = some (.inr (14, fs)) → fs[12]? = some (.ref ma) → σ.1 ma = some (.inr (5, fm)) → fm.length = 18 → ∃ fs' fm', u.1 x = some (.inr (14, fs')) ∧ fs'[12]? = some (.ref ma) ∧ u.1 ma = some (.inr (5, fm')) ∧ fm'.length = 18 ∧ ∀ k, k = 2 ∨ k = 4 ∨ k = 6 ∨ k = 7 ∨ k = 8 → fm'[k]? = fm[k]?) (hr : ∀ fs ma fm va, σ.1 x = some (.inr (14, fs)) → fs[12]? = some (.ref ma) → σ.1 ma = some (.inr (5, fm)) → fm[2]? = some (.ref va) → ∀ q ty n g, σ.1 q = some (.inl (ty, n, g)) → ((ty = .int ∧ n = 1683) ∨ (∃ s, ty = .object s) ∨ (ty = .long ∧ q ≠ va)) → u.1 q = some (.inl (ty, n, g))) : hMq x lo hi hl u := by
  obtain ⟨fs, ma, fm, va, ha, hp, wn, ws, wa, WN, WS, WA, ⟨a1, a2⟩, ⟨a3, a4, a5⟩, ⟨a6, a7, a8, a9, a10⟩, ⟨⟨w1, w2, w3⟩, ⟨q1, q2, q3⟩, d⟩, c⟩ := h
  obtain ⟨fs', fm', b1, b2, b3, b4, b5⟩ := hc fs ma fm a1 a2 a3 a4
  have R := hr fs ma fm va a1 a2 a3 a5
  exact ⟨fs', ma, fm', va, ha, hp, wn, ws, wa, WN, WS, WA, ⟨b1, b2⟩, ⟨b3, b4, (b5 2 (by omega)).trans a5⟩, ⟨(b5 4 (by omega)).trans a6, R ha _ _ _ a7 (Or.inr (Or.inr ⟨rfl, a9⟩)), a8, a9, a10⟩, ⟨⟨(b5 6 (by omega)).trans w1, (b5 7 (by omega)).trans w2, (b5 8 (by omega)).trans w3⟩, ⟨R wn _ _ _ q1 (Or.inr (Or.inl ⟨_, rfl⟩)), R ws _ _ _ q2 (Or.inl ⟨rfl, rfl⟩), R wa _ _ _ q3 (Or.inl ⟨rfl, rfl⟩)⟩, d⟩, c⟩
/-- two ways to say where the rows are -/
theorem hMq.ch {lo hi lo' hi' : Nat} (h : hMq x lo hi hl σ) (hw : lo ≤ lo') (ha : ∀ fs ma fm ha, σ.1 x = some (.inr (14, fs)) → fs[12]? = some (.ref ma) → σ.1 ma = some (.inr (5, fm)) → fm[4]? = some (.ref ha) → ha < lo' ∨ hi' ≤ ha) : hMq x lo' hi' hl σ := by
  obtain ⟨fs, ma, fm, va, hh, hp, wn, ws, wa, WN, WS, WA, ⟨a1, a2⟩, ⟨a3, a4, a5⟩, ⟨a6, a7, a8, a9, a10⟩, w, c1, c2, c3⟩ := h
  exact ⟨fs, ma, fm, va, hh, hp, wn, ws, wa, WN, WS, WA, ⟨a1, a2⟩, ⟨a3, a4, a5⟩, ⟨a6, a7, a8, a9, ha fs ma fm hh a1 a2 a3 a6⟩, w, by omega, by omega, by omega⟩
-- feed() and end()
theorem lKeep.fc (hr' : lRel x u v) (h : lKeep x σ τ u v) {fs : List Value} (e : σ.1 x = some (.inr (14, fs))) : ∃ fs', u.1 x = some (.inr (14, fs')) ∧ ∀ k, k ≠ 1 → fs'[k]? = fs[k]? := by
  obtain ⟨gs, -, -, -, -, -, -, -, ⟨g1, -⟩, -⟩ := hr'
  refine ⟨gs, g1, fun k hk => ?_⟩
  have := h.1 k hk
  rw [ofd_at g1, ofd_at e] at this
  exact this
theorem lKeep.rj (hr : lRel x σ τ) (h : lKeep x σ τ u v) : lRj x σ u := fun fs ma fm va ha a1 a2 a3 a4 a5 q ty n g e hq => by
  rw [h.o hr e (fun z => by rw [z, a1] at e; cases e) (fun n' f' z => ?_)]
  · exact e
  · injection z with z; injection z with z _
    rcases hq with r | ⟨s, r, -⟩ | ⟨r, -⟩ <;> (rw [r] at z; cases z)
theorem lKeep.fx (hr : lRel x σ τ) (hr' : lRel x u v) (h : lKeep x σ τ u v) : lFx x σ u := fun fs ma fm va ha a1 a2 a3 a4 a5 => by
  obtain ⟨fs', b1, b2⟩ := h.fc hr' a1
  exact ⟨fs', fm, ha, b1, b2 11 (by decide), (b2 12 (by decide)).trans a2, (h.o hr a3 (fun z => by rw [z, a1] at a3; cases a3) (fun _ _ z => by cases z)).trans a3, a4, a5, Or.inl rfl⟩
theorem lKeep.mq {lo hi : Nat} (hr : lRel x σ τ) (hr' : lRel x u v) (h : lKeep x σ τ u v) (m : hMq x lo hi hl σ) : hMq x lo hi hl u := m.to (fun fs ma fm a1 a2 a3 a4 => by
  obtain ⟨fs', b1, b2⟩ := h.fc hr' a1
  exact ⟨fs', fm, b1, (b2 12 (by decide)).trans a2, (h.o hr a3 (fun z => by rw [z, a1] at a3; cases a3) (fun _ _ z => by cases z)).trans a3, a4, fun _ _ => rfl⟩) (fun fs ma fm va a1 a2 a3 a4 q ty n g e hq => by
  rw [h.o hr e (fun z => by rw [z, a1] at e; cases e) (fun n' f' z => ?_)]
  · exact e
  · injection z with z; injection z with z _
    rcases hq with ⟨r, -⟩ | ⟨s, r⟩ | ⟨r, -⟩ <;> (rw [r] at z; cases z))
-- compile()
theorem lKc.rj (h : lKc x σ u) (hfr : ∀ q, σ.2.1 ≤ q → σ.1 q = none) : lRj x σ u := fun fs ma fm va ha a1 a2 a3 a4 a5 q ty n g e hq => by
  obtain ⟨gs, gm, ma', pl, g1, g2, g3, g4, g5, g6, g7, g8⟩ := h
  rw [g8 q (Nat.lt_of_not_le (fun w => by rw [hfr q w] at e; cases e)) (fun z => by rw [z, g1] at e; cases e) (fun z => by rw [z, g3] at e; cases e) (fun _ z => by rw [e] at z; cases z) (fun _ z => by rw [e] at z; cases z)]
  exact e
theorem lKc.fx (h : lKc x σ u) : lFx x σ u := fun fs ma fm va ha a1 a2 a3 a4 a5 => by
  obtain ⟨gs, gm, ma', pl, g1, g2, g3, g4, g5, g6, g7, g8⟩ := h
  rw [a1] at g1
  injection g1 with g1; injection g1 with g1; injection g1 with _ g1
  subst g1
  rw [a2] at g2
  injection g2 with g2; injection g2 with g2
  subst g2
  rw [a3] at g3
  injection g3 with g3; injection g3 with g3; injection g3 with _ g3
  subst g3
  refine ⟨_, _, ha, g5, ?_, ?_, g6, ?_, ?_, Or.inl rfl⟩
  · simp only [List.getElem?_set_ne (show (5 : Nat) ≠ 11 by decide), List.getElem?_set_ne (show (4 : Nat) ≠ 11 by decide), List.getElem?_set_ne (show (3 : Nat) ≠ 11 by decide), List.getElem?_set_ne (show (2 : Nat) ≠ 11 by decide), List.getElem?_set_ne (show (1 : Nat) ≠ 11 by decide)]
  · simp only [List.getElem?_set_ne (show (5 : Nat) ≠ 12 by decide), List.getElem?_set_ne (show (4 : Nat) ≠ 12 by decide), List.getElem?_set_ne (show (3 : Nat) ≠ 12 by decide), List.getElem?_set_ne (show (2 : Nat) ≠ 12 by decide), List.getElem?_set_ne (show (1 : Nat) ≠ 12 by decide)]
    exact a2
  · rw [List.getElem?_set_ne (by decide), List.getElem?_set_ne (by decide)]; exact a4
  · rw [List.getElem?_set_ne (by decide), List.getElem?_set_ne (by decide)]; exact a5
theorem lKc.mq {lo hi : Nat} (h : lKc x σ u) (hfr : ∀ q, σ.2.1 ≤ q → σ.1 q = none) (m : hMq x lo hi hl σ) : hMq x lo hi hl u := m.to (fun fs ma fm a1 a2 a3 a4 => by
  obtain ⟨gs, gm, ma', pl, g1, g2, g3, g4, g5, g6, g7, g8⟩ := h
  rw [a1] at g1
  injection g1 with g1; injection g1 with g1; injection g1 with _ g1
  subst g1
  rw [a2] at g2
  injection g2 with g2; injection g2 with g2
  subst g2
  rw [a3] at g3
  injection g3 with g3; injection g3 with g3; injection g3 with _ g3
  subst g3
  refine ⟨_, _, g5, ?_, g6, by rw [List.length_set, List.length_set]; exact a4, fun k hk => by rw [List.getElem?_set_ne (by omega), List.getElem?_set_ne (by omega)]⟩
  simp only [List.getElem?_set_ne (show (5 : Nat) ≠ 12 by decide), List.getElem?_set_ne (show (4 : Nat) ≠ 12 by decide), List.getElem?_set_ne (show (3 : Nat) ≠ 12 by decide), List.getElem?_set_ne (show (2 : Nat) ≠ 12 by decide), List.getElem?_set_ne (show (1 : Nat) ≠ 12 by decide)]
  exact a2) (fun fs ma fm va a1 a2 a3 a4 q ty n g e hq => by
  obtain ⟨gs, gm, ma', pl, g1, g2, g3, g4, g5, g6, g7, g8⟩ := h
  rw [g8 q (Nat.lt_of_not_le (fun w => by rw [hfr q w] at e; cases e)) (fun z => by rw [z, g1] at e; cases e) (fun z => by rw [z, g3] at e; cases e) (fun _ z => by rw [e] at z; cases z) (fun _ z => by rw [e] at z; cases z)]
  exact e)
theorem lKo.un {ma va : Nat} {fs fm : List Value} (h : lKo x σ u) (a1 : σ.1 x = some (.inr (14, fs))) (a2 : fs[12]? = some (.ref ma)) (a3 : σ.1 ma = some (.inr (5, fm))) (a4 : fm[2]? = some (.ref va)) : ∃ p y kd, u.1 x = some (.inr (14, ((((((fs.set 1 (.int 0)).set 2 .null).set 3 .null).set 4 .null).set 5 (.int (-1))).set 2 (.ref p)).set 3 (.ref y))) ∧ u.1 ma = some (.inr (5, (((fm.set 0 .null).set 16 (.long 0)).set 0 (.ref p)).set 1 (.int kd))) ∧ σ.2.1 ≤ u.2.1 ∧ ∀ p, p < σ.2.1 → p ≠ x → p ≠ ma → p ≠ va → (∀ fs, σ.1 p ≠ some (.inr (7, fs))) → (∀ fs, σ.1 p ≠ some (.inr (6, fs))) → u.1 p = σ.1 p := by
  obtain ⟨gs, gm, ma', va', p, y', kd, f', g1, g2, g3, g4, g5, g6, g7, g8, g9, g10⟩ := h
  rw [a1] at g1
  injection g1 with g1; injection g1 with g1; injection g1 with _ g1
  subst g1
  rw [a2] at g2
  injection g2 with g2; injection g2 with g2
  subst g2
  rw [a3] at g3
  injection g3 with g3; injection g3 with g3; injection g3 with _ g3
  subst g3
  rw [a4] at g5
  injection g5 with g5; injection g5 with g5
  subst g5
  exact ⟨p, y', kd, g6, g7, g9, g10⟩
theorem lMv.va {ma va ra ma' va' : Nat} {fm fm' fs : List Value} {fv : Nat → Int64} {gr : Nat → Option Nat} (h : lMv x σ ma va ra fm fv gr) (a1 : σ.1 x = some (.inr (14, fs))) (a2 : fs[12]? = some (.ref ma')) (a3 : σ.1 ma' = some (.inr (5, fm'))) (a4 : fm'[2]? = some (.ref va')) : ma' = ma ∧ fm' = fm ∧ va' = va := by
  obtain ⟨⟨gs, g1, g2⟩, ⟨g3, -, g4, -⟩, -⟩ := h
  rw [a1] at g1
  injection g1 with g1; injection g1 with g1; injection g1 with _ g1
  subst g1
  rw [a2] at g2
  injection g2 with g2; injection g2 with g2
  subst g2
  rw [a3] at g3
  injection g3 with g3; injection g3 with g3; injection g3 with _ g3
  subst g3
  rw [a4] at g4
  injection g4 with g4; injection g4 with g4
  exact ⟨rfl, rfl, g4⟩
theorem lKo.rj {ma va ra : Nat} {fm : List Value} {fv : Nat → Int64} {gr : Nat → Option Nat} (hM : lMv x σ ma va ra fm fv gr) (h : lKo x σ u) (hfr : ∀ q, σ.2.1 ≤ q → σ.1 q = none) : lRj x σ u := fun fs ma' fm' va' ha a1 a2 a3 a4 a5 q ty n g e hq => by
  obtain ⟨p, y', kd, -, -, -, g10⟩ := h.un a1 a2 a3 a4
  obtain ⟨rfl, rfl, rfl⟩ := hM.va a1 a2 a3 a4
  rw [g10 q (Nat.lt_of_not_le (fun w => by rw [hfr q w] at e; cases e)) (fun z => by rw [z, a1] at e; cases e) (fun z => by rw [z, a3] at e; cases e) (fun z => ?_) (fun _ z => by rw [e] at z; cases z) (fun _ z => by rw [e] at z; cases z)]
  · exact e
  · have m7 := hM.2.2.1
    rw [← z, e] at m7
    injection m7 with m7; injection m7 with m7; injection m7 with m7 _
    rcases hq with r | ⟨s, r, -⟩ | ⟨-, r, -⟩
    · rw [r] at m7; cases m7
    · rw [r] at m7; cases m7
    · exact r z
theorem lKo.fx (h : lKo x σ u) : lFx x σ u := fun fs ma fm va ha a1 a2 a3 a4 a5 => by
  obtain ⟨p, y', kd, g6, g7, -, -⟩ := h.un a1 a2 a3 a4
  refine ⟨_, _, ha, g6, ?_, ?_, g7, ?_, ?_, Or.inl rfl⟩
  · simp only [List.getElem?_set_ne (show (5 : Nat) ≠ 11 by decide), List.getElem?_set_ne (show (4 : Nat) ≠ 11 by decide), List.getElem?_set_ne (show (3 : Nat) ≠ 11 by decide), List.getElem?_set_ne (show (2 : Nat) ≠ 11 by decide), List.getElem?_set_ne (show (1 : Nat) ≠ 11 by decide)]
  · simp only [List.getElem?_set_ne (show (5 : Nat) ≠ 12 by decide), List.getElem?_set_ne (show (4 : Nat) ≠ 12 by decide), List.getElem?_set_ne (show (3 : Nat) ≠ 12 by decide), List.getElem?_set_ne (show (2 : Nat) ≠ 12 by decide), List.getElem?_set_ne (show (1 : Nat) ≠ 12 by decide)]
    exact a2
  · rw [List.getElem?_set_ne (by decide), List.getElem?_set_ne (by decide), List.getElem?_set_ne (by decide), List.getElem?_set_ne (by decide)]; exact a4
  · rw [List.getElem?_set_ne (by decide), List.getElem?_set_ne (by decide), List.getElem?_set_ne (by decide), List.getElem?_set_ne (by decide)]; exact a5
theorem lKo.mq {ma va ra : Nat} {fm : List Value} {fv : Nat → Int64} {gr : Nat → Option Nat} {lo hi : Nat} (hM : lMv x σ ma va ra fm fv gr) (h : lKo x σ u) (hfr : ∀ q, σ.2.1 ≤ q → σ.1 q = none) (m : hMq x lo hi hl σ) : hMq x lo hi hl u := m.to (fun fs ma' fm' a1 a2 a3 a4 => by
  have a5 : fm'[2]? = some (.ref va) := by
    obtain ⟨⟨gs, g1, g2⟩, ⟨g3, -, g4, -⟩, -⟩ := hM
    rw [a1] at g1
    injection g1 with g1; injection g1 with g1; injection g1 with _ g1
    subst g1
    rw [a2] at g2
    injection g2 with g2; injection g2 with g2
    subst g2
    rw [a3] at g3
    injection g3 with g3; injection g3 with g3; injection g3 with _ g3
    subst g3
    exact g4
  obtain ⟨p, y', kd, g6, g7, -, -⟩ := h.un a1 a2 a3 a5
  refine ⟨_, _, g6, ?_, g7, by simp only [List.length_set]; exact a4, fun k hk => by rw [List.getElem?_set_ne (by omega), List.getElem?_set_ne (by omega), List.getElem?_set_ne (by omega), List.getElem?_set_ne (by omega)]⟩
  simp only [List.getElem?_set_ne (show (5 : Nat) ≠ 12 by decide), List.getElem?_set_ne (show (4 : Nat) ≠ 12 by decide), List.getElem?_set_ne (show (3 : Nat) ≠ 12 by decide), List.getElem?_set_ne (show (2 : Nat) ≠ 12 by decide), List.getElem?_set_ne (show (1 : Nat) ≠ 12 by decide)]
  exact a2) (fun fs ma' fm' va' a1 a2 a3 a4 q ty n g e hq => by
  obtain ⟨p, y', kd, -, -, -, g10⟩ := h.un a1 a2 a3 a4
  obtain ⟨rfl, rfl, rfl⟩ := hM.va a1 a2 a3 a4
  rw [g10 q (Nat.lt_of_not_le (fun w => by rw [hfr q w] at e; cases e)) (fun z => by rw [z, a1] at e; cases e) (fun z => by rw [z, a3] at e; cases e) (fun z => ?_) (fun _ z => by rw [e] at z; cases z) (fun _ z => by rw [e] at z; cases z)]
  · exact e
  · have m7 := hM.2.2.1
    rw [← z, e] at m7
    injection m7 with m7; injection m7 with m7; injection m7 with m7 _
    rcases hq with ⟨r, -⟩ | ⟨s, r⟩ | ⟨-, r⟩
    · rw [r] at m7; cases m7
    · rw [r] at m7; cases m7
    · exact r z)
-- give() and element()
theorem lKi.rj {ma va ra : Nat} {fm : List Value} {fv : Nat → Int64} {gr : Nat → Option Nat} (hM : lMv x σ ma va ra fm fv gr) (h : lKi x σ u) (hfr : ∀ q, σ.2.1 ≤ q → σ.1 q = none) : lRj x σ u := fun fs ma' fm' va' ha a1 a2 a3 a4 a5 q ty n g e hq => by
  obtain ⟨rfl, rfl, rfl⟩ := hM.va a1 a2 a3 a4
  rw [h ma' va' ra fm' fv gr hM q (Nat.lt_of_not_le (fun w => by rw [hfr q w] at e; cases e)) (fun z => ?_) (fun z => ?_) (fun i c hi hc z => ?_)]
  · exact e
  · have m7 := hM.2.2.1
    rw [← z, e] at m7
    injection m7 with m7; injection m7 with m7; injection m7 with m7 _
    rcases hq with r | ⟨s, r, -⟩ | ⟨-, r, -⟩
    · rw [r] at m7; cases m7
    · rw [r] at m7; cases m7
    · exact r z
  · have m7 := hM.2.2.2.1
    rw [← z, e] at m7
    injection m7 with m7; injection m7 with m7; injection m7 with m7 _
    rcases hq with r | ⟨s, r, -⟩ | ⟨r, -⟩ <;> (rw [r] at m7; cases m7)
  · obtain ⟨hh, m7⟩ := hM.2.2.2.2.1 i c hi hc
    rw [← z, e] at m7
    injection m7 with m7; injection m7 with m7; injection m7 with m7 _
    rcases hq with r | ⟨s, r, -⟩ | ⟨r, -⟩ <;> (rw [r] at m7; cases m7)
theorem lKi.mq {ma va ra : Nat} {fm : List Value} {fv : Nat → Int64} {gr : Nat → Option Nat} {lo hi : Nat} (hM : lMv x σ ma va ra fm fv gr) (h : lKi x σ u) (ho : ∀ q ci fs, σ.1 q = some (.inr (ci, fs)) → u.1 q = σ.1 q) (hfr : ∀ q, σ.2.1 ≤ q → σ.1 q = none) (m : hMq x lo hi hl σ) : hMq x lo hi hl u := m.to (fun fs ma' fm' a1 a2 a3 a4 => ⟨fs, fm', (ho _ _ _ a1).trans a1, a2, (ho _ _ _ a3).trans a3, a4, fun _ _ => rfl⟩) (fun fs ma' fm' va' a1 a2 a3 a4 q ty n g e hq => by
  obtain ⟨rfl, rfl, rfl⟩ := hM.va a1 a2 a3 a4
  rw [h ma' va' ra fm' fv gr hM q (Nat.lt_of_not_le (fun w => by rw [hfr q w] at e; cases e)) (fun z => ?_) (fun z => ?_) (fun i c hi hc z => ?_)]
  · exact e
  · have m7 := hM.2.2.1
    rw [← z, e] at m7
    injection m7 with m7; injection m7 with m7; injection m7 with m7 _
    rcases hq with ⟨r, -⟩ | ⟨s, r⟩ | ⟨-, r⟩
    · rw [r] at m7; cases m7
    · rw [r] at m7; cases m7
    · exact r z
  · have m7 := hM.2.2.2.1
    rw [← z, e] at m7
    injection m7 with m7; injection m7 with m7; injection m7 with m7 _
    rcases hq with ⟨r, -⟩ | ⟨s, r⟩ | ⟨r, -⟩ <;> (rw [r] at m7; cases m7)
  · obtain ⟨hh, m7⟩ := hM.2.2.2.2.1 i c hi hc
    rw [← z, e] at m7
    injection m7 with m7; injection m7 with m7; injection m7 with m7 m8; injection m8 with m8 _
    rcases hq with ⟨-, r⟩ | ⟨s, r⟩ | ⟨r, -⟩
    · rw [r] at m8; cases m8
    · rw [r] at m7; cases m7
    · rw [r] at m7; cases m7)
-- run()
theorem hKr.rj (h : hKr x σ u) (hm : ∃ lo hi hl, hMq x lo hi hl σ) (hfr : ∀ q, σ.2.1 ≤ q → σ.1 q = none) : lRj x σ u := fun fs ma fm va ha a1 a2 a3 a4 a5 q ty n g e hq => by
  obtain ⟨gs, ma', gm, ha', wn, ws, wa, ha2, ⟨g1, g2⟩, ⟨g3, g4, w1, w2, w3⟩, K, -⟩ := h
  rw [a1] at g1
  injection g1 with g1; injection g1 with g1; injection g1 with _ g1
  subst g1
  rw [a2] at g2
  injection g2 with g2; injection g2 with g2
  subst g2
  rw [a3] at g3
  injection g3 with g3; injection g3 with g3; injection g3 with _ g3
  subst g3
  rw [a5] at g4
  injection g4 with g4; injection g4 with g4
  subst g4
  obtain ⟨lo, hi, hl, fs', ma', fm', va', hh, hp, wn', ws', wa', WN, WS, WA, ⟨b1, b2⟩, ⟨b3, -, -⟩, ⟨b6, b7, -⟩, ⟨⟨v1, v2, v3⟩, ⟨q1, q2, q3⟩, -⟩, -⟩ := hm
  rw [a1] at b1
  injection b1 with b1; injection b1 with b1; injection b1 with _ b1
  subst b1
  rw [a2] at b2
  injection b2 with b2; injection b2 with b2
  subst b2
  rw [a3] at b3
  injection b3 with b3; injection b3 with b3; injection b3 with _ b3
  subst b3
  rw [w1] at v1
  injection v1 with v1; injection v1 with v1
  subst v1
  rw [w2] at v2
  injection v2 with v2; injection v2 with v2
  subst v2
  rw [w3] at v3
  injection v3 with v3; injection v3 with v3
  subst v3
  rw [a5] at b6
  injection b6 with b6; injection b6 with b6
  subst b6
  rw [K.1 q (Nat.lt_of_not_le (fun w => by rw [hfr q w] at e; cases e)) (fun z => by rw [z, a3] at e; cases e) (fun z => ?_) (fun z => ?_)]
  · exact e
  · rcases hq with r | ⟨s, r, -⟩ | ⟨-, -, r⟩
    · rw [z, b7] at e
      injection e with e; injection e with e; injection e with e _
      rw [r] at e; cases e
    · rw [z, b7] at e
      injection e with e; injection e with e; injection e with e _
      rw [r] at e; cases e
    · exact r z
  · rcases z with z | z | z
    · rw [z, q1] at e
      injection e with e; injection e with e; injection e with e e2; injection e2 with e2 _
      rcases hq with r | ⟨s, -, r⟩ | ⟨r, -⟩
      · rw [r] at e; cases e
      · rw [r] at e2; cases e2
      · rw [r] at e; cases e
    · rw [z, q2] at e
      injection e with e; injection e with e; injection e with e _
      rcases hq with r | ⟨s, r, -⟩ | ⟨r, -⟩ <;> (rw [r] at e; cases e)
    · rw [z, q3] at e
      injection e with e; injection e with e; injection e with e _
      rcases hq with r | ⟨s, r, -⟩ | ⟨r, -⟩ <;> (rw [r] at e; cases e)
theorem hKr.fx (h : hKr x σ u) (hfr : ∀ q, σ.2.1 ≤ q → σ.1 q = none) (hW : ∃ lo hi hl, hMq x lo hi hl σ) : lFx x σ u := fun fs ma fm va ha a1 a2 a3 a4 a5 => by
  obtain ⟨gs, ma', gm, ha', wn, ws, wa, ha2, ⟨g1, g2⟩, ⟨g3, g4, w1, w2, w3⟩, K, gm', u1, u2, u3⟩ := h
  rw [a1] at g1
  injection g1 with g1; injection g1 with g1; injection g1 with _ g1
  subst g1
  rw [a2] at g2
  injection g2 with g2; injection g2 with g2
  subst g2
  rw [a3] at g3
  injection g3 with g3; injection g3 with g3; injection g3 with _ g3
  subst g3
  rw [a5] at g4
  injection g4 with g4; injection g4 with g4
  subst g4
  obtain ⟨lo, hi, hl, fs', ma', fm', va', hh, hp, wn', ws', wa', WN, WS, WA, ⟨b1, b2⟩, ⟨b3, -, -⟩, ⟨b6, b7, -⟩, ⟨⟨v1, v2, v3⟩, ⟨q1, q2, q3⟩, -⟩, -⟩ := hW
  rw [a1] at b1
  injection b1 with b1; injection b1 with b1; injection b1 with _ b1
  subst b1
  rw [a2] at b2
  injection b2 with b2; injection b2 with b2
  subst b2
  rw [a3] at b3
  injection b3 with b3; injection b3 with b3; injection b3 with _ b3
  subst b3
  rw [w1] at v1
  injection v1 with v1; injection v1 with v1
  subst v1
  rw [w2] at v2
  injection v2 with v2; injection v2 with v2
  subst v2
  rw [w3] at v3
  injection v3 with v3; injection v3 with v3
  subst v3
  rw [a5] at b6
  injection b6 with b6; injection b6 with b6
  subst b6
  refine ⟨fs, gm', ha2, ?_, rfl, a2, u1, (u3 2 (by omega)).trans a4, u2, K.2.2.2.1⟩
  rw [K.1 x (Nat.lt_of_not_le (fun w => by rw [hfr x w] at a1; cases a1)) (fun z => by rw [z, a3] at a1; cases a1) (fun z => by rw [z, b7] at a1; cases a1) (fun z => ?_)]
  · exact a1
  · rcases z with z | z | z
    · rw [z, q1] at a1; cases a1
    · rw [z, q2] at a1; cases a1
    · rw [z, q3] at a1; cases a1
end LZA
