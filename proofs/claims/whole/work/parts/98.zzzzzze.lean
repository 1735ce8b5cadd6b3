/-! the reference's typeOfCall: real() of what is called -/
section RRL
variable {ks : Nat → Nat} {qs : List Nat} {Tt h0 k0 c0 am n B : Nat} {Z : List (Nat × Nat)} {L env W : List Nat} {τ0 τ : zSt} {s : mS} {g0 : gG} {T0 : Nat → mF} {Q : List (Int32 × mF)} {v : Int32} {t : mF}
theorem rS.rl (hT : 9010 ≤ Tt) (G : rS k0 Z L env W Q τ0 g0 T0 c0 am B s τ) (hs : mSat s.1) (hv : (v, t) ∈ Q) (hi : ∀ α, mAll s.1 α → yIs (t α)) : ∃ r l r', zF h0 qs ks Tt (n + 1) 42 [.ref h0, .int v] τ = some (some (.int (nI r)), τ) ∧ r < 9000 ∧ (r < (τ.1 59).toNatClampNeg ∧ τ.2.2.1 34 r = 4 ∧ τ.2.2.1 35 r = nI l ∧ τ.2.2.1 36 r = nI r') ∧ rS k0 Z L env W ((nI l, fun α => yL (t α)) :: (nI r', fun α => yR (t α)) :: Q) τ0 g0 T0 c0 am B s τ := by
  obtain ⟨g, T, c, h1, h2, h3, h4, h5, h6, h7⟩ := G
  obtain ⟨x, rfl, y1⟩ := h5 _ hv hs
  obtain ⟨⟨p1, p2, p3⟩, p⟩ := id h1.1
  rcases p with ⟨q1, q2, q3, q4, k, b1, b2, b3, b4, b5⟩ | ⟨pl', q1, -⟩
  · obtain ⟨kr, yr⟩ := b4.fn b2 b3 hs y1 hi
    have lr := gY.lr b4 b2 yr kr
    have row := b1.2.2 _ yr.1
    have rr := yr.1
    refine ⟨gR g x, g.L (gR g x), g.R (gR g x), r_real hT b1 b2.1 y1.1, by omega, ⟨by rw [p1, nI_clamp (show c < 2 ^ 31 by omega)]; omega, by rw [row.1.2, kr]; rfl, (row.2.1 kr).1, (row.2.1 kr).2⟩, g, T, c, h1, h2, h3, h4, fun q hq z => ?_, h6, h7⟩
    rcases List.mem_cons.mp hq with e | e
    · rw [e]; exact ⟨_, rfl, lr.1⟩
    · rcases List.mem_cons.mp e with e | e
      · rw [e]; exact ⟨_, rfl, lr.2⟩
      · exact h5 q e z
  · exact absurd hs q1.no
/-- the equations of mOp -/
theorem mOp_is (pl : Int32) : ∀ (q : Nat) (t : mF) (s : mS) (k : Nat), k < q → ∀ α, mAll (mOp pl q t s).1 α → yIs (mRs k t α)
  | 0, t, s, k, h => by omega
  | q + 1, t, s, 0, h => fun α hα => by
    obtain ⟨l, e⟩ := (mLe.op pl q (fun α => yR (t α)) (mAdd (fun α => yIs (t α)) pl s)).1
    have hα : mAll (mOp pl q (fun α => yR (t α)) (mAdd (fun α => yIs (t α)) pl s)).1 α := hα
    rw [e, mAll_ap] at hα
    have h1 : mAll (s.1 ++ [_]) α := hα.1
    rw [mAll_ap, mAll_one] at h1
    exact h1.2
  | q + 1, t, s, k + 1, h => fun α hα => mOp_is pl q (fun α => yR (t α)) (mAdd (fun α => yIs (t α)) pl s) k (by omega) α hα
end RRL
