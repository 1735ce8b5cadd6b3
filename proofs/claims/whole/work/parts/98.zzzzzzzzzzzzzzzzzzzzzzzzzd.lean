/-! weakenAll(): what stays while INSTANCES are lost -/
/-- what stays; rows of FACTS may change -/
def wFr (Q : Nat → Prop) (pa ph ta th : Nat) (σ σ' : oSt) : Prop := (∀ x cc, σ.1 x = some cc → jFr pa ph ta th x cc → (∀ fs, cc ≠ .inr (4, fs)) → (∀ fs, cc ≠ .inr (6, fs)) → (∀ fs, cc ≠ .inr (2, fs)) → (∀ y, cc = .inl y → (y.1 = .int ∨ y.1 = .object "LiquidTongue$Sum") → ¬ Q x) → σ'.1 x = some cc) ∧ (∀ x fs, σ.1 x = some (.inr (4, fs)) → ∃ fs', σ'.1 x = some (.inr (4, fs')) ∧ fs'.length = fs.length ∧ ∀ i, i < 11 → i ≠ 7 → i ≠ 8 → fs'[i]? = fs[i]?) ∧ (∀ x fs, σ.1 x = some (.inr (6, fs)) → ∃ fs', σ'.1 x = some (.inr (6, fs')) ∧ fs'.length = fs.length ∧ ∀ i, i ≠ 6 → i ≠ 7 → fs'[i]? = fs[i]?) ∧ σ.2.1 ≤ σ'.2.1
theorem ft_ns : ¬ ((FieldType.object "LiquidTongue$Name" : FieldType) = .int ∨ (FieldType.object "LiquidTongue$Name" : FieldType) = .object "LiquidTongue$Sum") := fun z => z.elim (fun w => by cases w) (fun w => by
  injection w with w
  exact absurd w (by decide +kernel))
theorem ft_nl : (FieldType.object "LiquidTongue$Name" : FieldType) ≠ .long ∧ (FieldType.object "LiquidTongue$Sum" : FieldType) ≠ .long ∧ (FieldType.int : FieldType) ≠ .long := ⟨fun w => (by cases w), fun w => (by cases w), fun w => (by cases w)⟩
section WFR
variable {Q : Nat → Prop} {pa ph ta th : Nat} {σ σ' σ2 : oSt} {X : Nat → Prop} {b0 : Nat}
theorem wFr.rf : wFr Q pa ph ta th σ σ := ⟨fun _ _ h _ _ _ _ _ => h, fun _ fs h => ⟨fs, h, rfl, fun _ _ _ _ => rfl⟩, fun _ fs h => ⟨fs, h, rfl, fun _ _ _ => rfl⟩, Nat.le_refl _⟩
/-- a question of the Judge -/
theorem wFr.kx (h : wFr Q pa ph ta th σ σ') (k : jKx X pa ph ta th σ' σ2) (hX : ∀ x y, σ'.1 x = some (.inl y) → (y.1 = .int ∨ y.1 = .object "LiquidTongue$Sum") → X x → Q x) : wFr Q pa ph ta th σ σ2 := by
  obtain ⟨h1, h2, h3, h4⟩ := h
  refine ⟨fun x cc e f n4 n6 n2 nq => ?_, fun x fs e => ?_, fun x fs e => ?_, Nat.le_trans h4 k.2.2.2.2⟩
  · have e' := h1 x cc e f n4 n6 n2 nq
    exact k.1 x cc e' f n4 n6 (fun y ey ty hx => nq y ey ty (hX x y (by rw [e', ey]) ty hx))
  · obtain ⟨fs', e1, e2, e3⟩ := h2 x fs e
    obtain ⟨fs2, g1, g2, g3⟩ := k.2.1 x fs' e1
    exact ⟨fs2, g1, g2.trans e2, fun i a b c => (g3 i a (fun z => absurd z b)).trans (e3 i a b c)⟩
  · obtain ⟨fs', e1, e2, e3⟩ := h3 x fs e
    obtain ⟨fs2, g1, g2, g3⟩ := k.2.2.1 x fs' e1
    exact ⟨fs2, g1, g2.trans e2, fun i a b => (g3 i a b).trans (e3 i a b)⟩
/-- cells that are new -/
theorem wFr.nw (h : wFr Q pa ph ta th σ σ') (hfr : ∀ q, σ.2.1 ≤ q → σ.1 q = none) (hk : ∀ x, x < σ.2.1 → σ2.1 x = σ'.1 x) (hl : σ'.2.1 ≤ σ2.2.1) : wFr Q pa ph ta th σ σ2 := by
  obtain ⟨h1, h2, h3, h4⟩ := h
  have lt : ∀ {x cc}, σ.1 x = some cc → x < σ.2.1 := fun {x cc} e => Nat.lt_of_not_le (fun z => by rw [hfr x z] at e; cases e)
  refine ⟨fun x cc e f n4 n6 n2 nq => (hk x (lt e)).trans (h1 x cc e f n4 n6 n2 nq), fun x fs e => ?_, fun x fs e => ?_, Nat.le_trans h4 hl⟩
  · obtain ⟨fs', e1, e2⟩ := h2 x fs e
    exact ⟨fs', (hk x (lt e)).trans e1, e2⟩
  · obtain ⟨fs', e1, e2⟩ := h3 x fs e
    exact ⟨fs', (hk x (lt e)).trans e1, e2⟩
/-- a Known's last change; the Checker -/
theorem wFr.ch (h : wFr Q pa ph ta th σ σ') {a : Nat} {fs : List Value} {v : Value} (e : σ'.1 a = some (.inr (4, fs))) : wFr Q pa ph ta th σ (oput σ' a (.inr (4, fs.set 8 v))) := by
  obtain ⟨h1, h2, h3, h4⟩ := h
  have ne : ∀ {x cc}, σ'.1 x = some cc → (∀ f, cc ≠ .inr (4, f)) → x ≠ a := fun {x cc} e' n z => by
    rw [z, e] at e'
    injection e' with e'
    exact n fs e'.symm
  refine ⟨fun x cc ex f n4 n6 n2 nq => ?_, fun x gs ex => ?_, fun x gs ex => ?_, h4⟩
  · have e' := h1 x cc ex f n4 n6 n2 nq
    rw [oput_ne (ne e' n4)]; exact e'
  · obtain ⟨fs', e1, e2, e3⟩ := h2 x gs ex
    by_cases z : x = a
    · rw [z, e] at e1
      injection e1 with e1; injection e1 with e1; injection e1 with _ e1
      subst e1
      exact ⟨_, by rw [z, oput_eq], by rw [List.length_set]; exact e2, fun i p q r => by rw [List.getElem?_set_ne (fun w => r w.symm)]; exact e3 i p q r⟩
    · exact ⟨fs', by rw [oput_ne z]; exact e1, e2, e3⟩
  · obtain ⟨fs', e1, e2⟩ := h3 x gs ex
    exact ⟨fs', by rw [oput_ne (ne e1 (fun f z => by cases z))]; exact e1, e2⟩
theorem wFr.ck (h : wFr Q pa ph ta th σ σ') {a : Nat} {fs fs' : List Value} (e : σ'.1 a = some (.inr (2, fs))) : wFr Q pa ph ta th σ (oput σ' a (.inr (2, fs'))) := by
  obtain ⟨h1, h2, h3, h4⟩ := h
  have ne : ∀ {x cc}, σ'.1 x = some cc → (∀ f, cc ≠ .inr (2, f)) → x ≠ a := fun {x cc} e' n z => by
    rw [z, e] at e'
    injection e' with e'
    exact n fs e'.symm
  refine ⟨fun x cc ex f n4 n6 n2 nq => ?_, fun x gs ex => ?_, fun x gs ex => ?_, h4⟩
  · have e' := h1 x cc ex f n4 n6 n2 nq
    rw [oput_ne (ne e' n2)]; exact e'
  · obtain ⟨fs', e1, e2⟩ := h2 x gs ex
    exact ⟨fs', by rw [oput_ne (ne e1 (fun f z => by cases z))]; exact e1, e2⟩
  · obtain ⟨fs', e1, e2⟩ := h3 x gs ex
    exact ⟨fs', by rw [oput_ne (ne e1 (fun f z => by cases z))]; exact e1, e2⟩
theorem wFr.o (h : wFr Q pa ph ta th σ σ') {x k : Nat} {fs : List Value} (e : σ.1 x = some (.inr (k, fs))) (h3 : k ≠ 3) (h8 : k ≠ 8) (h4 : k ≠ 4) (h6 : k ≠ 6) (h2 : k ≠ 2) : σ'.1 x = some (.inr (k, fs)) := h.1 x _ e ⟨h3, h8⟩ (fun f z => by injection z with z; injection z with z _; exact h4 z) (fun f z => by injection z with z; injection z with z _; exact h6 z) (fun f z => by injection z with z; injection z with z _; exact h2 z) (fun y z => by cases z)
theorem wFr.a (h : wFr Q pa ph ta th σ σ') {x : Nat} {y} (e : σ.1 x = some (.inl y)) (hl : y.1 ≠ .long) (hx : x ≠ pa ∧ x ≠ ph ∧ x ≠ ta ∧ x ≠ th) (hq : (y.1 = .int ∨ y.1 = .object "LiquidTongue$Sum") → ¬ Q x) : σ'.1 x = some (.inl y) := h.1 x _ e ⟨hl, hx⟩ (fun f z => by cases z) (fun f z => by cases z) (fun f z => by cases z) (fun y' z => by injection z with z; rw [← z]; exact hq)
variable (hJ : pa < b0 ∧ ph < b0 ∧ ta < b0 ∧ th < b0)
theorem cTm.wf (hJ : pa < b0 ∧ ph < b0 ∧ ta < b0 ∧ th < b0) (h : wFr Q pa ph ta th σ σ') {su : Nat} {t : kTe} (c : cTm (b0, Q) σ su t) : cTm (b0, Q) σ' su t := by
  obtain ⟨na, tb, cap, Ls, pl, ⟨g, h', s1, s2, s3, s4, s5⟩, h2, ⟨h3, h4, h5, h6⟩, h7⟩ := c
  have h4 : b0 ≤ na := h4
  have h5 : b0 ≤ tb := h5
  have h6 : ¬ Q tb := h6
  refine ⟨na, tb, cap, Ls, pl, ⟨g, h', h.o s1 (by decide) (by decide) (by decide) (by decide) (by decide), h.a s2 ft_nl.1 ⟨by omega, by omega, by omega, by omega⟩ (fun z => absurd z ft_ns), h.a s3 ft_nl.2.2 ⟨by omega, by omega, by omega, by omega⟩ (fun _ => h6), s4, fun k b c e => ?_⟩, h2, ⟨h3, h4, h5, h6⟩, h7⟩
  obtain ⟨p1, p2, fs, p3⟩ := s5 k b c e
  obtain ⟨fs', p4, -⟩ := h.2.2.1 b fs p3
  exact ⟨p1, p2, fs', p4⟩
theorem kGo.wf (hJ : pa < b0 ∧ ph < b0 ∧ ta < b0 ∧ th < b0) (h : wFr Q pa ph ta th σ σ') {k w : Nat} {G : List (Nat × kTe)} (c : kGo (b0, Q) σ k w G) : kGo (b0, Q) σ' k w G := by
  obtain ⟨fs, h1, h2, h3, h4, h5⟩ := c
  obtain ⟨fs', e1, e2, e3⟩ := h.2.1 k fs h1
  refine ⟨fs', e1, e2.trans h2, (e3 1 (by decide) (by decide) (by decide)).trans h3, h4, ?_⟩
  rcases h5 with ⟨h5, h6⟩ | ⟨gn, ins, g, g', ⟨h5, h6, h7⟩, h8, h9, h10, h11, h12⟩
  · exact Or.inl ⟨h5, (e3 9 (by decide) (by decide) (by decide)).trans h6⟩
  · have h5 : b0 ≤ gn := h5
    have h6 : b0 ≤ ins := h6
    have h7 : ¬ Q ins := h7
    refine Or.inr ⟨gn, ins, g, g', ⟨h5, h6, h7⟩, (e3 9 (by decide) (by decide) (by decide)).trans h8, (e3 10 (by decide) (by decide) (by decide)).trans h9, h.a h10 ft_nl.1 ⟨by omega, by omega, by omega, by omega⟩ (fun z => absurd z ft_ns), h.a h11 ft_nl.2.1 ⟨by omega, by omega, by omega, by omega⟩ (fun _ => h7), fun i x hx => ?_⟩
    obtain ⟨p1, su, p2, p3⟩ := h12 i x hx
    exact ⟨p1, su, p2, p3.wf hJ h⟩
theorem cScp.wf (h : wFr Q pa ph ta th σ σ') {bs : Nat → Int32} {kn : Nat → Nat} : ∀ (Sc : List sEn) (s : Option Nat), cScp bs kn σ Sc s → cScp bs kn σ' Sc s
  | [], _, c => c
  | .inl a :: r, s, ⟨q, ou, v2, c1, c2, ⟨fs, c3, c4, c5, c6⟩, c7⟩ => by
    obtain ⟨fs', e1, e2, e3⟩ := h.2.2.1 a fs c3
    exact ⟨q, ou, v2, c1, h.o c2 (by decide) (by decide) (by decide) (by decide) (by decide), ⟨fs', e1, e2.trans c4, (e3 3 (by decide) (by decide)).trans c5, fun z => (e3 4 (by decide) (by decide)).trans (c6 z)⟩, cScp.wf h r ou c7⟩
  | .inr (m, hh) :: r, s, ⟨q, ou, c1, c2, c3⟩ => ⟨q, ou, c1, h.o c2 (by decide) (by decide) (by decide) (by decide) (by decide), cScp.wf h r ou c3⟩
/-- FACTS of another Known -/
theorem kOr.kx (hJ : pa < b0 ∧ ph < b0 ∧ ta < b0 ∧ th < b0) (k : jKx X pa ph ta th σ σ') (hX : ∀ x y, σ.1 x = some (.inl y) → (y.1 = .int ∨ y.1 = .object "LiquidTongue$Sum") → X x → Q x) {w ra sa : Nat} {F : List kFc} (c : kOr (b0, Q) σ w ra sa F) (hw : ¬ X w) (hr : F ≠ [] → ¬ X ra ∧ ¬ X sa) : kOr (b0, Q) σ' w ra sa F := by
  obtain ⟨fs, cap, hr', gs, c1, c2, c3, c4, c5⟩ := c
  obtain ⟨fs', e1, e2, e3⟩ := k.2.1 w fs c1
  refine ⟨fs', cap, hr', gs, e1, e2.trans c2, (e3 7 (by decide) (fun _ => hw)).trans c3, c4, ?_⟩
  by_cases cF : F = []
  · exact Or.inl cF
  · rcases c5 with c5 | ⟨p1, p2, p3, p4, ⟨p5, p6, p7, p8, p9⟩, p10⟩
    · exact absurd c5 cF
    · have p6 : b0 ≤ ra := p6
      have p7 : b0 ≤ sa := p7
      obtain ⟨x1, x2⟩ := hr cF
      refine Or.inr ⟨(e3 5 (by decide) (fun z => absurd z (by decide))).trans p1, (e3 6 (by decide) (fun z => absurd z (by decide))).trans p2, k.1 ra _ p3 ⟨ft_nl.2.2, by omega, by omega, by omega, by omega⟩ (fun f z => by cases z) (fun f z => by cases z) (fun y ey _ => x1), k.1 sa _ p4 ⟨ft_nl.2.1, by omega, by omega, by omega, by omega⟩ (fun f z => by cases z) (fun f z => by cases z) (fun y ey _ => x2), ⟨p5, p6, p7, p8, p9⟩, fun i x hx => ?_⟩
      obtain ⟨q1, q2, su, q3, q4⟩ := p10 i x hx
      refine ⟨q1, q2, su, q3, ?_⟩
      obtain ⟨na, tb, cap', Ls, pl, ⟨g, h', s1, s2, s3, s4, s5⟩, h2, ⟨h3, h4, h5, h6⟩, h7⟩ := q4
      have h4 : b0 ≤ na := h4
      have h5 : b0 ≤ tb := h5
      have h6 : ¬ Q tb := h6
      refine ⟨na, tb, cap', Ls, pl, ⟨g, h', k.1 su _ s1 ⟨by show (11 : Nat) ≠ 3; decide, by show (11 : Nat) ≠ 8; decide⟩ (fun f z => by injection z with z; injection z with z; exact absurd z (by decide)) (fun f z => by injection z with z; injection z with z; exact absurd z (by decide)) (fun y ey => by cases ey), k.1 na _ s2 ⟨ft_nl.1, by omega, by omega, by omega, by omega⟩ (fun f z => by cases z) (fun f z => by cases z) (fun y ey ty => by injection ey with ey; rw [← ey] at ty; exact absurd ty ft_ns), k.1 tb _ s3 ⟨ft_nl.2.2, by omega, by omega, by omega, by omega⟩ (fun f z => by cases z) (fun f z => by cases z) (fun y ey ty hx => h6 (hX tb y (by rw [s3, ← ey]) ty hx)), s4, fun k' b c e => ?_⟩, h2, ⟨h3, h4, h5, h6⟩, h7⟩
      obtain ⟨p1, p2, fs, p3⟩ := s5 k' b c e
      obtain ⟨fs', p4, -⟩ := k.2.2.1 b fs p3
      exact ⟨p1, p2, fs', p4⟩
/-- single writes that do not touch FACTS -/
theorem kOr.ag {w ra sa : Nat} {F : List kFc} (c : kOr (b0, Q) σ w ra sa F) (hk : ∀ x cc, σ.1 x = some cc → (∀ fs, cc ≠ .inr (4, fs)) → (∃ z, cc = .inr (11, z)) ∨ (∃ z, cc = .inr (6, z)) ∨ (∃ y, cc = .inl y) → σ'.1 x = some cc) (h4 : ∀ x fs, σ.1 x = some (.inr (4, fs)) → ∃ fs', σ'.1 x = some (.inr (4, fs')) ∧ fs'.length = fs.length ∧ ∀ i, i ≠ 8 → fs'[i]? = fs[i]?) : kOr (b0, Q) σ' w ra sa F := by
  obtain ⟨fs, cap, hr', gs, c1, c2, c3, c4, c5⟩ := c
  obtain ⟨fs', e1, e2, e3⟩ := h4 w fs c1
  refine ⟨fs', cap, hr', gs, e1, e2.trans c2, (e3 7 (by decide)).trans c3, c4, c5.imp id (fun ⟨p1, p2, p3, p4, p5, p10⟩ => ⟨(e3 5 (by decide)).trans p1, (e3 6 (by decide)).trans p2, hk _ _ p3 (fun f z => by cases z) (Or.inr (Or.inr ⟨_, rfl⟩)), hk _ _ p4 (fun f z => by cases z) (Or.inr (Or.inr ⟨_, rfl⟩)), p5, fun i x hx => ?_⟩)⟩
  obtain ⟨q1, q2, su, q3, na, tb, cap', Ls, pl, ⟨g, h', s1, s2, s3, s4, s5⟩, h2⟩ := p10 i x hx
  refine ⟨q1, q2, su, q3, na, tb, cap', Ls, pl, ⟨g, h', hk _ _ s1 (fun f z => by injection z with z; injection z with z; exact absurd z (by decide)) (Or.inl ⟨_, rfl⟩), hk _ _ s2 (fun f z => by cases z) (Or.inr (Or.inr ⟨_, rfl⟩)), hk _ _ s3 (fun f z => by cases z) (Or.inr (Or.inr ⟨_, rfl⟩)), s4, fun k' b c e => ?_⟩, h2⟩
  obtain ⟨p1, p2, fs, p3⟩ := s5 k' b c e
  exact ⟨p1, p2, fs, hk _ _ p3 (fun f z => by injection z with z; injection z with z; exact absurd z (by decide)) (Or.inr (Or.inl ⟨_, rfl⟩))⟩
end WFR
