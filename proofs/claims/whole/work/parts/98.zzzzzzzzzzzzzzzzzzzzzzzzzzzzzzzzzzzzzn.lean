/-! type(): told NAMES over type() itself -/
section TYW
variable {κ : oKv} {x nl da d da' d' cl len cap : Nat} {σ u : oSt} {mc : Int32} {g : Nat → Option Nat} {gb : Nat → Int32} {fs : List Value} {τ τ1 τ2 v : zSt} {Q : Nat → Prop}
theorem tFww.at {z : Nat} {c : oC} (hfr : ∀ q, σ.2.1 ≤ q → σ.1 q = none) (hx : σ.1 x = some (.inr (14, fs))) (hnl : cLs κ σ nl d cl len mc g 6) (hda : σ.1 da = some (.inl (.byte, cap, .inl gb))) (t : tFww x nl da d σ da' d' u) (e : σ.1 z = some c) (h1 : ∀ f, c ≠ .inr (14, f)) (h2 : ∀ f, c ≠ .inr (1, f)) (h3 : ∀ n f, c ≠ .inl (.object "java/lang/Object", n, f)) (h4 : ∀ n f, c ≠ .inl (.byte, n, f)) (h5 : ∀ f, c ≠ .inr (4, f)) : u.1 z = some c := by
  rw [t.1 z (Nat.lt_of_not_le (fun w => by rw [hfr z w] at e; cases e)) (fun w => by rw [w, hx] at e; injection e with e; exact h1 _ e.symm) (fun w => by rw [w, hda] at e; injection e with e; exact h4 _ _ e.symm) (fun w => by rw [w, hnl.1] at e; injection e with e; exact h2 _ e.symm) (Or.inl (fun w => ?_)) (fun f w => by rw [e] at w; injection w with w; exact h5 _ w)]
  · exact e
  · rcases hnl.2.1 with ⟨-, -, -, m4⟩ | ⟨m1, -⟩
    · rw [w, m4] at e; cases e
    · rw [w, m1] at e; injection e with e; exact h3 _ _ e.symm
theorem tyA.fw {lo : Nat × (Nat → Prop)} (hfr : ∀ q, σ.2.1 ≤ q → σ.1 q = none) (hx : σ.1 x = some (.inr (14, fs))) (hnl : cLs κ σ nl d cl len mc g 6) (hda : σ.1 da = some (.inl (.byte, cap, .inl gb))) (t : tFww x nl da d σ da' d' u) : tyA lo σ u := ⟨fun z k f hk e => t.at hfr hx hnl hda e (fun _ z => by injection z with z; injection z with z _; omega) (fun _ z => by injection z with z; injection z with z _; omega) (fun _ _ z => by cases z) (fun _ _ z => by cases z) (fun _ z => by injection z with z; injection z with z _; omega), t.2.2.2.2.2, fun z ty n g' _ e hc => t.at hfr hx hnl hda e (fun _ z => by cases z) (fun _ z => by cases z) (fun _ _ z => by
  injection z with z; injection z with z _
  rcases hc with r | r | ⟨r, -⟩
  · rw [r] at z; injection z with z; exact absurd z (by decide)
  · rw [r] at z; injection z with z; exact absurd z (by decide)
  · rw [r] at z; cases z) (fun _ _ z => by
  injection z with z; injection z with z _
  rcases hc with r | r | ⟨r, -⟩ <;> (rw [r] at z; cases z)) (fun _ z => by cases z)⟩
/-- the reference, over type() -/
theorem tyQ.ty {gn : gN → Nat} {Nm : gN → Prop} {s : tPs} (h2 : rTv gn Nm τ s τ2) (h : v = τ2 ∨ rOu τ2 v) : tyQ τ v := by
  have q2 : tyQ τ τ2 := ⟨fun k _ h => h2.2.2.2.1 k (by omega) (by omega), by rw [h2.2.2.2.2], by rw [h2.2.2.2.2]⟩
  rcases h with h | h
  · rw [h]; exact q2
  · exact q2.tr ⟨fun k h1 _ => h.2.2.1 k (fun z => h1 (by rw [z]; decide)), by rw [h.2.2.2], by rw [h.2.2.2]⟩
end TYW
