/-! type(): draft, the list of NAMES, and NAMES' letters for the class -/
/-- draft and the list of NAMES that have no word -/
def tyD (κ : oKv) (x lo hi cap cl : Nat) (σ : oSt) : Prop := ∃ fs oa da gb nl d len mc g, σ.1 x = some (.inr (14, fs)) ∧ (fs[6]? = some (.ref oa) ∧ fs[7]? = some (.ref da) ∧ fs[10]? = some (.ref nl)) ∧ σ.1 da = some (.inl (.byte, cap, .inl gb)) ∧ (tCk cap ∧ cap ≤ 16000 ∧ (da < lo ∨ hi ≤ da) ∧ da ≠ oa) ∧ cLs κ σ nl d cl len mc g 6 ∧ len ≤ 2451 ∧ cl ≤ 3690
/-- the letters of a NAME, as the class puts them -/
def tyV (pp ee fc : Nat → Int32) (w : Nat) : List Int32 := tTx (fun j => fc (wA pp w + j) &&& 255) (wL pp ee w) 0
section TYN
variable {κ : oKv} {x nl da d lo w cl len b q r : Nat} {pp ee fc h : Nat → Int32} {σ u : oSt} {gs : List Value} {mc : Int32} {g : Nat → Option Nat} {cap : Nat} {gb : Nat → Int32} {fs : List Value}
/-- what type() begins with leaves cells that are not its own -/
theorem tBg.at {z : Nat} {c : oC} (hx : σ.1 x = some (.inr (14, fs))) (hnl : cLs κ σ nl d cl len mc g 6) (t : tBg x nl d σ u) (e : σ.1 z = some c) (h1 : ∀ f, c ≠ .inr (14, f)) (h2 : ∀ f, c ≠ .inr (1, f)) (h3 : ∀ n f, c ≠ .inl (.object "java/lang/Object", n, f)) : u.1 z = some c := by
  rw [t.1 z (fun w => by rw [w, hx] at e; injection e with e; exact h1 _ e.symm) (fun w => by rw [w, hnl.1] at e; injection e with e; exact h2 _ e.symm) (Or.inl (fun w => ?_))]
  · exact e
  · rcases hnl.2.1 with ⟨-, -, -, m4⟩ | ⟨m1, -⟩
    · rw [w, m4] at e; cases e
    · rw [w, m1] at e; injection e with e; exact h3 _ _ e.symm
theorem tyA.bg {lo : Nat × (Nat → Prop)} (hx : σ.1 x = some (.inr (14, fs))) (hnl : cLs κ σ nl d cl len mc g 6) (t : tBg x nl d σ u) : tyA lo σ u := ⟨fun z k f hk e => t.at hx hnl e (fun _ z => by injection z with z; injection z with z _; omega) (fun _ z => by injection z with z; injection z with z _; omega) (fun _ _ z => by cases z), fun z f e => ⟨f, t.at hx hnl e (fun _ z => by injection z with z; injection z with z _; omega) (fun _ z => by injection z with z; injection z with z _; omega) (fun _ _ z => by cases z), rfl, fun _ _ => rfl⟩, fun z ty n g' _ e hc => t.at hx hnl e (fun _ z => by cases z) (fun _ z => by cases z) (fun _ _ z => by
  injection z with z; injection z with z _
  rcases hc with r | r | ⟨r, -⟩
  · rw [r] at z; injection z with z; exact absurd z (by decide)
  · rw [r] at z; injection z with z; exact absurd z (by decide)
  · rw [r] at z; cases z)⟩
/-- a told NAME's letters, while type() prints -/
theorem ty_nc (hfr : ∀ q, σ.2.1 ≤ q → σ.1 q = none) (hx : σ.1 x = some (.inr (14, fs))) (hnl : cLs κ σ nl d cl len mc g 6) (hda : σ.1 da = some (.inl (.byte, cap, .inl gb))) (t : tBg x nl d σ u) (e1 : σ.1 b = some (.inr (6, gs))) (e2 : gs[0]? = some (.ref q)) (hr : r ≠ da) (c : cTx σ q r (wL pp ee w) h) (hh : ∀ i, i < wL pp ee w → h i = fc (wA pp w + i)) (hl : wL pp ee w ≤ 3000) : tNc κ x nl da d u b (tyV pp ee fc w) := by
  have lt : ∀ {z : Nat} {c : oC}, σ.1 z = some c → z < u.2.1 := fun {z c} e => by
    rw [t.2]
    exact Nat.lt_of_not_le (fun w => by rw [hfr z w] at e; cases e)
  have nd : ∀ {z : Nat} {c : oC}, σ.1 z = some c → (∀ n f, c ≠ .inl (.object "java/lang/Object", n, f)) → z ≠ d := fun {z c} e h3 w => by
    rcases hnl.2.1 with ⟨-, -, -, m4⟩ | ⟨m1, -⟩
    · rw [w, m4] at e; cases e
    · rw [w, m1] at e; injection e with e; exact h3 _ _ e.symm
  refine ⟨gs, q, wL pp ee w, h, t.at hx hnl e1 (fun _ z => by injection z with z; injection z with z _; omega) (fun _ z => by injection z with z; injection z with z _; omega) (fun _ _ z => by cases z), e2, hl, tTx_cg _ _ (fun i _ hi => by rw [hh i (by omega)]), fun da' d' u' k => ?_⟩
  have uq := t.at hx hnl c.1 (fun _ z => by injection z with z; injection z with z _; omega) (fun _ z => by injection z with z; injection z with z _; omega) (fun _ _ z => by cases z)
  have ur := t.at hx hnl c.2.1 (fun _ z => by cases z) (fun _ z => by cases z) (fun _ _ z => by injection z with z; injection z with z _; cases z)
  have c' : cTx u' q r (wL pp ee w) h := by
    refine ⟨?_, ?_, c.2.2⟩
    · rw [k.1 q (lt c.1) (fun z => by have := c.1; rw [z, hx] at this; cases this) (fun z => by have := c.1; rw [z, hda] at this; cases this) (fun z => by have := c.1; rw [z, hnl.1] at this; cases this) (Or.inl (nd c.1 (fun _ _ z => by cases z))) (fun f z => by rw [uq] at z; cases z)]
      exact uq
    · rw [k.1 r (lt c.2.1) (fun z => by have := c.2.1; rw [z, hx] at this; cases this) hr (fun z => by have := c.2.1; rw [z, hnl.1] at this; cases this) (Or.inl (nd c.2.1 (fun _ _ z => by injection z with z; injection z with z _; cases z))) (fun f z => by rw [ur] at z; cases z)]
      exact ur
  exact (c'.tv (κ := κ)).tx
end TYN
