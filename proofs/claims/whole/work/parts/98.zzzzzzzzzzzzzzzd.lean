/-! read trees: an ARG in brackets that is no S is a fun; let rec has a parameter -/
/-- let rec has a parameter -/
def tR1 : tT → Prop
  | .leaf => True
  | .inner g d _ a b => (g = 2 → 1 ≤ d.2.1) ∧ (if g = 4 ∨ g = 5 then True else tR1 a) ∧ tR1 b
section RDF
variable {kk : Nat → Int32} {T cnt : Nat}
theorem aSm_206 {i j : Nat} {S : tS} (h : kk i = nI 206) (e : aSm kk T i = .inr (S, j)) : False := by
  have f : ∀ c, ¬ (nI 206 : Int32) = nI c → aIs kk c i = false := fun c hc => decide_eq_false (by rw [h]; exact hc)
  unfold aSm aPt at e
  rw [f 45 (by decide)] at e
  simp only [Bool.false_eq_true, if_false, f 211 (by decide), f 221 (by decide), f 2 (by decide)] at e
  unfold aMs at e
  rw [f 1 (by decide)] at e
  cases e
theorem aE_fn3 (k i : Nat) (t : tT) (j : Nat) (h : aE kk T k i = .inr (t, j)) : (tF3 t ∧ tR1 t) ∧ (kk i = nI 206 → ∃ d' z' a' b', t = .inner 3 d' z' a' b') := by
  have no : ∀ {c i : Nat} {X : Prop}, kk i = nI c → ¬ (nI c : Int32) = nI 206 → kk i = nI 206 → X := fun h1 h2 h3 => absurd (h1.symm.trans h3) h2
  refine aE_ind (P := fun k i t j => (tF3 t ∧ tR1 t) ∧ (kk i = nI 206 → ∃ d' z' a' b', t = .inner 3 d' z' a' b')) (Q := fun k q i t j => tF3 t ∧ tR1 t) ?_ ?_ ?_ ?_ ?_ ?_ ?_ ?_ ?_ ?_ ?_ ?_ ?_ ?_ ?_ ?_ ?_ ?_ ?_ ?_ k i t j h
  · intro k i a l b j h1 _ Pa _ Pb
    exact ⟨⟨⟨fun z => (by cases z), Pa.1.1, Pb.1.1⟩, ⟨fun z => (by cases z), Pa.1.2, Pb.1.2⟩⟩, no h1 (by decide)⟩
  · intro k i q a l b j h1 _ _ hq _ _ Pa _ Pb
    exact ⟨⟨⟨fun z => (by cases z), Pa.1.1, Pb.1.1⟩, ⟨fun _ => hq, Pa.1.2, Pb.1.2⟩⟩, no h1 (by decide)⟩
  · intro k i a j h1 _ _ Pa
    exact ⟨⟨⟨fun z => (by cases z), Pa.1.1, trivial⟩, ⟨fun z => (by cases z), Pa.1.2, trivial⟩⟩, fun _ => ⟨_, _, _, _, rfl⟩⟩
  · intro k i c l a m b j h1 _ _ Pa _ Pb
    exact ⟨⟨⟨fun z => (by cases z), trivial, fun z => (by cases z), Pa.1.1, Pb.1.1⟩, ⟨fun z => (by cases z), trivial, fun z => (by cases z), Pa.1.2, Pb.1.2⟩⟩, no h1 (by decide)⟩
  · intro k i c l a j h1 _ _ Pa
    exact ⟨⟨⟨fun z => (by cases z), trivial, Pa.1.1⟩, ⟨fun z => (by cases z), trivial, Pa.1.2⟩⟩, no h1 (by decide)⟩
  · intro k i S l S' m a j h1 _ _ _ _ _ _ _ Pa
    exact ⟨⟨⟨fun z => (by cases z), Pa.1.1, trivial⟩, ⟨fun z => (by cases z), Pa.1.2, trivial⟩⟩, no h1 (by decide)⟩
  · intro k i S j h1 _
    exact ⟨⟨⟨fun z => (by cases z), trivial, trivial⟩, ⟨fun z => (by cases z), trivial, trivial⟩⟩, no h1 (by decide)⟩
  · intro k i g hg
    rcases hg with ⟨h1, rfl⟩ | ⟨h1, rfl⟩ | ⟨h1, rfl⟩
    all_goals exact ⟨⟨⟨fun z => (by cases z), trivial, trivial⟩, ⟨fun z => (by cases z), trivial, trivial⟩⟩, no h1 (by decide)⟩
  · intro k i S j _ hS
    exact ⟨⟨⟨fun z => (by cases z), trivial, trivial⟩, ⟨fun z => (by cases z), trivial, trivial⟩⟩, fun z => (aSm_206 z hS).elim⟩
  · intro k i g S l S' j hg hS _
    rcases hg with ⟨-, rfl⟩ | ⟨-, rfl⟩ | ⟨-, rfl⟩
    all_goals exact ⟨⟨⟨fun z => (by cases z), trivial, trivial⟩, ⟨fun z => (by cases z), trivial, trivial⟩⟩, fun z => (aSm_206 z hS).elim⟩
  · intro k i S l h1 _ _ _
    exact ⟨⟨⟨fun z => (by cases z), trivial, trivial⟩, ⟨fun z => (by cases z), trivial, trivial⟩⟩, no h1 (by decide)⟩
  · intro k i as j h1 _ Qa
    exact ⟨⟨⟨fun z => (by cases z), Qa.1, trivial⟩, ⟨fun z => (by cases z), Qa.2, trivial⟩⟩, no h1 (by decide)⟩
  · intro k i a l h1 Pa _
    exact ⟨⟨⟨fun z => (by cases z), Pa.1.1, trivial⟩, ⟨fun z => (by cases z), Pa.1.2, trivial⟩⟩, no h1 (by decide)⟩
  · intro k i S l h1 _ _
    exact ⟨⟨⟨fun z => (by cases z), trivial, trivial⟩, ⟨fun z => (by cases z), trivial, trivial⟩⟩, no h1 (by decide)⟩
  · intro k i a l b j h1 _ Pa _ _ _ _ Pb
    exact ⟨⟨⟨fun z => (by cases z), Pa.1.1, Pb.1.1⟩, ⟨fun z => (by cases z), Pa.1.2, Pb.1.2⟩⟩, no h1 (by decide)⟩
  · intro k q i _
    exact ⟨trivial, trivial⟩
  · intro k q i b j _ _ _ Qb
    exact ⟨⟨fun z => (by cases z), trivial, Qb.1⟩, ⟨fun z => (by cases z), trivial, Qb.2⟩⟩
  · intro k q i S l b j _ _ _ _ Qb
    exact ⟨⟨fun z => (by cases z), trivial, Qb.1⟩, ⟨fun z => (by cases z), trivial, Qb.2⟩⟩
  · intro k q i e l b j _ h2 Pe _ Qb
    exact ⟨⟨fun _ => Pe.2 h2, Pe.1.1, Qb.1⟩, ⟨fun z => (by cases z), Pe.1.2, Qb.2⟩⟩
  · intro k q i v b j _ Qb
    exact ⟨⟨fun z => (by cases z), trivial, Qb.1⟩, ⟨fun z => (by cases z), trivial, Qb.2⟩⟩
end RDF
