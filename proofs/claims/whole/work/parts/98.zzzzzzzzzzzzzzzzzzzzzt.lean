/-! the class's gather(): the PROGRAM's cells -/
/-- the PROGRAM's cells as they were read, but for what is found later -/
def vM (lo : Nat) (V σ : oSt) : Prop := (∀ a fs, lo ≤ a → V.1 a = some (.inr (7, fs)) → ∃ v w, σ.1 a = some (.inr (7, (fs.set 8 v).set 20 w))) ∧ (∀ a fs, lo ≤ a → V.1 a = some (.inr (6, fs)) → ∃ gs, σ.1 a = some (.inr (6, gs)) ∧ gs.length = fs.length ∧ gs[0]? = fs[0]? ∧ gs[1]? = fs[1]?) ∧ ∀ a cc, lo ≤ a → V.1 a = some cc → (∀ fs, cc ≠ .inr (7, fs)) → (∀ fs, cc ≠ .inr (6, fs)) → (∀ k fs, cc = .inr (k, fs) → k ∉ [2, 3, 4, 8, 14]) → (∀ y, cc ≠ .inl (.long, y)) → σ.1 a = some cc
/-- gather() does not write them -/
def pgQ (lo : Nat) (V : oSt) (st : Nat) (l : Nat → Nat) (b0 : Nat) (σ : oSt) : Prop := ∀ a cc, lo ≤ a → V.1 a = some cc → (∀ fs, cc ≠ .inr (7, fs)) → (∀ fs, cc ≠ .inr (6, fs)) → (∀ k fs, cc = .inr (k, fs) → k ∉ [2, 3, 4, 8, 14]) → (∀ y, cc ≠ .inl (.long, y)) → qtG st l b0 σ a cc
section VMM
variable {lo : Nat} {V σ σ' : oSt} {st : Nat} {l : Nat → Nat} {b0 : Nat} {W : Nat → Prop}
theorem vL.m (h : vL lo V σ) : vM lo V σ := ⟨h.1, h.2.1, h.2.2.1⟩
theorem set20 {fs gs : List Value} {w : Value} (hl : gs.length = fs.length) (h : ∀ i, i ≠ 20 → gs[i]? = (fs.set 20 w)[i]?) : ∃ w', gs = fs.set 20 w' := by
  by_cases c : 20 < gs.length
  · refine ⟨gs[20], List.ext_getElem? (fun i => ?_)⟩
    by_cases z : i = 20
    · rw [z, List.getElem?_set_self (by omega), List.getElem?_eq_getElem c]
    · rw [h i z, List.getElem?_set_ne (fun q => z q.symm), List.getElem?_set_ne (fun q => z q.symm)]
  · refine ⟨w, List.ext_getElem? (fun i => ?_)⟩
    by_cases z : i = 20
    · rw [z, List.getElem?_eq_none (by omega), List.getElem?_eq_none (by rw [List.length_set]; omega)]
    · exact h i z
/-- **gather() keeps the PROGRAM** -/
theorem vM.kp (h : vM lo V σ) (q : pgQ lo V st l b0 σ) (k : gKp st l b0 W σ σ') : vM lo V σ' ∧ pgQ lo V st l b0 σ' := by
  obtain ⟨h1, h2, h3⟩ := h
  refine ⟨⟨fun a fs hl e => ?_, fun a fs hl e => ?_, fun a cc hl e a7 a6 a2 a8 => (k.1 a cc (h3 a cc hl e a7 a6 a2 a8) (q a cc hl e a7 a6 a2 a8)).1⟩, fun a cc hl e a7 a6 a2 a8 => (k.1 a cc (h3 a cc hl e a7 a6 a2 a8) (q a cc hl e a7 a6 a2 a8)).2⟩
  · obtain ⟨v, w, e1⟩ := h1 a fs hl e
    obtain ⟨gs, g1, g2, g3⟩ := k.2.2.1 a _ e1
    obtain ⟨w', g4⟩ := set20 (fs := fs.set 8 v) (gs := gs) (w := w) (by rw [g2, List.length_set]) g3
    exact ⟨v, w', by rw [g1, g4]⟩
  · obtain ⟨gs, e1, e2, e3, e4⟩ := h2 a fs hl e
    obtain ⟨gs', g1, g2, g3⟩ := k.2.1 a _ e1
    exact ⟨gs', g1, g2.trans e2, (g3 0 (by decide) (fun z => absurd z (by decide))).trans e3, (g3 1 (by decide) (fun z => absurd z (by decide))).trans e4⟩
/-- a node's fields -/
theorem vM.nd (h : vM lo V σ) {a : Nat} {fs : List Value} (hl : lo ≤ a) (e : V.1 a = some (.inr (7, fs))) : ∃ gs, σ.1 a = some (.inr (7, gs)) ∧ gs.length = fs.length ∧ ∀ i, i ≠ 8 → i ≠ 20 → gs[i]? = fs[i]? := by
  obtain ⟨v, w, e1⟩ := h.1 a fs hl e
  exact ⟨_, e1, by rw [List.length_set, List.length_set], fun i h8 h20 => by rw [List.getElem?_set_ne (fun z => h20 z.symm), List.getElem?_set_ne (fun z => h8 z.symm)]⟩
/-- a Sum -/
theorem vM.sm (h : vM lo V σ) {su na ta cap : Nat} {L : List (Nat × Int32)} {pl : Int64} (s : cSm V su na ta cap L pl) (hs : lo ≤ su ∧ lo ≤ na ∧ lo ≤ ta) (hN : ∀ p, p ∈ L → lo ≤ p.1) : cSm σ su na ta cap L pl := by
  obtain ⟨g, h', s1, s2, s3, s4, s5⟩ := s
  refine ⟨g, h', h.2.2 _ _ hs.1 s1 (fun _ z => by cases z) (fun _ z => by cases z) (fun _ _ z => by cases z <;> decide) (fun _ z => by cases z), h.2.2 _ _ hs.2.1 s2 (fun _ z => by cases z) (fun _ z => by cases z) (fun _ _ z => by cases z <;> decide) (fun _ z => by cases z), h.2.2 _ _ hs.2.2 s3 (fun _ z => by cases z) (fun _ z => by cases z) (fun _ _ z => by cases z <;> decide) (fun _ z => by cases z), s4, fun k b c e => ⟨(s5 k b c e).1, (s5 k b c e).2.1, ?_⟩⟩
  obtain ⟨fs, z⟩ := (s5 k b c e).2.2
  obtain ⟨gs, z1, -⟩ := h.2.1 b fs (hN _ (List.mem_of_getElem? e)) z
  exact ⟨gs, z1⟩
/-- a Sum that is a term -/
theorem vM.tq (h : vM lo V σ) (q : pgQ lo V st l b0 σ) {Q : Nat → Prop} {su na ta cap : Nat} {L : List (Nat × Int32)} {pl : Int64} (s : cSm V su na ta cap L pl) (hs : lo ≤ su ∧ lo ≤ na ∧ lo ≤ ta) (hN : ∀ p, p ∈ L → lo ≤ p.1) (hb : b0 ≤ lo) (hQ : ¬ Q ta) (hp : -1125899906842624 ≤ pl.toInt ∧ pl.toInt ≤ 1125899906842624) {u : kTe} (hu : u.2 = pl.toInt) (hL : (u.1 = none ∧ L = []) ∨ ∃ a v, u.1 = some (a, v.toInt) ∧ L = [(a, v)] ∧ (v.toInt = 1 ∨ v.toInt = -1)) : cTq st l b0 Q σ su u := by
  obtain ⟨g, h', s1, s2, s3, s4, s5⟩ := id s
  exact ⟨na, ta, cap, L, pl, h.sm s hs hN, hu.symm, ⟨by rw [hu]; exact hp, by omega, by omega, hQ⟩, hL, q _ _ hs.2.1 s2 (fun _ z => by cases z) (fun _ z => by cases z) (fun _ _ z => by cases z <;> decide) (fun _ z => by cases z), q _ _ hs.2.2 s3 (fun _ z => by cases z) (fun _ z => by cases z) (fun _ _ z => by cases z <;> decide) (fun _ z => by cases z)⟩
/-- a list of the PROGRAM -/
theorem vM.ls (h : vM lo V σ) {κ : oKv} {x d cap len ci : Nat} {mc : Int32} {gl : Nat → Option Nat} (c : cLs κ V x d cap len mc gl ci) (hx : lo ≤ x) (hd : lo ≤ d) (hl : 0 < len) (hg : ∀ j b, j < len → gl j = some b → lo ≤ b) (hc : ci = 6 ∨ ci = 7) : cLs κ σ x d cap len mc gl ci := by
  obtain ⟨c1, c2, c3⟩ := c
  refine ⟨h.2.2 _ _ hx c1 (fun _ z => by injection z with z; injection z with z _; exact absurd z (by decide)) (fun _ z => by injection z with z; injection z with z _; exact absurd z (by decide)) (fun _ _ z => by cases z <;> decide) (fun _ z => by cases z), Or.inr ?_, fun j hj => ?_⟩
  · rcases c2 with ⟨z, -⟩ | ⟨z, z2⟩
    · omega
    · exact ⟨h.2.2 _ _ hd z (fun _ w => by cases w) (fun _ w => by cases w) (fun _ _ z => by cases z <;> decide) (fun _ w => by cases w), z2⟩
  · obtain ⟨b, fs, z1, z2⟩ := c3 j hj
    rcases hc with c | c
    · subst c
      obtain ⟨gs, w, -⟩ := h.2.1 b fs (hg j b hj z1) z2
      exact ⟨b, gs, z1, w⟩
    · subst c
      obtain ⟨gs, w, -⟩ := h.nd (hg j b hj z1) z2
      exact ⟨b, gs, z1, w⟩
end VMM
