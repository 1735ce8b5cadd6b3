/-! the class's Judge: postpone(), choose() -/
section JPO
variable {κ : oKv} {T n m : Nat} {σ : oSt} {j o ca pa ph ta th len W b : Nat} {cl fa : Int32} {f : Nat → Int64} {rd : Int32} {wk : Option Nat} {ps : Int32} {P Tr : List (Nat × Bool)}
theorem b01_01 (h : Bool) : b01 h = 0 ∨ b01 h = 1 := by cases h <;> decide
/-- two rows and the Judge itself are written -/
theorem jKp.three {x y z : Nat} {cx cy cz : oC} (h : jSt σ j o ca pa ph ta th len W b cl fa f rd wk ps P Tr) (hx : x = pa ∨ x = ta) (hy : y = ph ∨ y = th) (hz : z = j) : jKp pa ph ta th σ (oput (oput (oput σ x cx) y cy) z cz) := by
  subst hz
  obtain ⟨h1, ⟨h2, h3⟩, ⟨gp, hp, h4, h5, h6⟩, ⟨gt, ht, h7, h8, h9⟩, -⟩ := h
  have nx : ∀ u cc, σ.1 u = some cc → jFr pa ph ta th u cc → u ≠ x ∧ u ≠ y ∧ u ≠ z := fun u cc e k => by
    refine ⟨fun q => ?_, fun q => ?_, fun q => ?_⟩
    · subst q
      rcases hx with rfl | rfl
      · rw [h4] at e; injection e with e; subst e; exact k.2.1 rfl
      · rw [h7] at e; injection e with e; subst e; exact k.2.2.2.1 rfl
    · subst q
      rcases hy with rfl | rfl
      · rw [h5] at e; injection e with e; subst e; exact k.2.2.1 rfl
      · rw [h8] at e; injection e with e; subst e; exact k.2.2.2.2 rfl
    · subst q
      rw [h1] at e; injection e with e; subst e; exact k.1 rfl
  refine ⟨fun u cc e k => ?_, fun u e k => ?_, Nat.le_refl _⟩
  · obtain ⟨q1, q2, q3⟩ := nx u cc e k
    rw [oput_ne q3, oput_ne q2, oput_ne q1]
    exact e
  · have q1 : u ≠ x := fun q => by
      subst q
      rcases hx with rfl | rfl
      · rw [h4] at e; cases e
      · rw [h7] at e; cases e
    have q2 : u ≠ y := fun q => by
      subst q
      rcases hy with rfl | rfl
      · rw [h5] at e; cases e
      · rw [h8] at e; cases e
    have q3 : u ≠ z := fun q => by subst q; rw [h1] at e; cases e
    rw [oput_ne q3, oput_ne q2, oput_ne q1]
    exact e
/-- postpone(c, holds) -/
theorem c_post {h : Bool} {fs : List Value} (H : jSt σ j o ca pa ph ta th len W b cl fa f rd wk ps P Tr) (hm : σ.1 m = some (.inr (7, fs))) (hl : P.length < 40) : ∃ σ', oF κ T (n + 1) 51 [va_rf (some j), va_rf (some m), .int (b01 h)] σ = some (none, σ') ∧ jSt σ' j o ca pa ph ta th len W b cl fa f rd wk ps (P ++ [(m, h)]) Tr ∧ jKp pa ph ta th σ σ' ∧ σ'.2 = σ.2 := by
  obtain ⟨⟨n1, n2, n3, n4, n5, n6⟩, ⟨m1, m2, m3, m4, m5⟩, ⟨k1, k2, k3, k4⟩, ⟨l1, l2, l3⟩, ⟨p1, p2⟩, p3⟩ := H.ne
  have H' := H
  obtain ⟨h1, ⟨h2, h3⟩, ⟨gp, hp, h4, h5, h6⟩, ⟨gt, ht, h7, h8, h9⟩, ⟨h10, h10'⟩, h11⟩ := H
  have zi : zin (nI P.length) 40 = true := zin_n hl (by decide)
  have cl40 : (nI P.length).toNatClampNeg = P.length := nI_clamp (by omega)
  have s1 : osr σ (some pa) (nI P.length) (some m) = some (oput σ pa (.inl (.object "LiquidTongue$Node", 40, .inr (.inr (.inr (.inr (va_up gp P.length (some m)))))))) := by
    simp only [osr, h4, hm, zi, if_true, cl40, show ofits "LiquidTongue$Node" 7 = true from rfl]
  have e1 : (oput σ pa (.inl (.object "LiquidTongue$Node", 40, .inr (.inr (.inr (.inr (va_up gp P.length (some m)))))))).1 j = _ := (oput_ne n3).trans h1
  have e2 : (oput σ pa (.inl (.object "LiquidTongue$Node", 40, .inr (.inr (.inr (.inr (va_up gp P.length (some m)))))))).1 ph = _ := (oput_ne (Ne.symm l1)).trans h5
  have s2 : osi (oput σ pa (.inl (.object "LiquidTongue$Node", 40, .inr (.inr (.inr (.inr (va_up gp P.length (some m)))))))) (some ph) .boolean (nI P.length) (vp_nar .boolean (b01 h)) = some (oput (oput σ pa (.inl (.object "LiquidTongue$Node", 40, .inr (.inr (.inr (.inr (va_up gp P.length (some m)))))))) ph (.inl (.boolean, 40, .inl (upd hp P.length (b01 h))))) := by
    simp only [osi, e2, zi, and_self, if_true, cl40, nar01 _ (b01_01 h)]
  have e3 : (oput (oput σ pa (.inl (.object "LiquidTongue$Node", 40, .inr (.inr (.inr (.inr (va_up gp P.length (some m)))))))) ph (.inl (.boolean, 40, .inl (upd hp P.length (b01 h))))).1 j = _ := (oput_ne n4).trans e1
  have el : (P ++ [(m, h)]).length = P.length + 1 := List.length_append
  refine ⟨oput (oput (oput σ pa (.inl (.object "LiquidTongue$Node", 40, .inr (.inr (.inr (.inr (va_up gp P.length (some m)))))))) ph (.inl (.boolean, 40, .inl (upd hp P.length (b01 h))))) j (.inr (3, [.ref o, .ref pa, .ref ph, .int (nI (P.length + 1)), .ref ta, .ref th, .int (nI Tr.length), .int rd, va_rf wk, .int ps])), ?_, ⟨by rw [el]; exact oput_eq _ _ _, ⟨?_, ?_⟩, ⟨va_up gp P.length (some m), upd hp P.length (b01 h), ?_, ?_, fun k x e => ?_⟩, ⟨gt, ht, ?_, ?_, h9⟩, ⟨?_, h10'⟩, h11⟩, jKp.three H' (Or.inl rfl) (Or.inl rfl) rfl, rfl⟩
  · rw [oE_X1_postpone]
    unfold ob_X1_postpone
    rw [show ofd σ (some j) 3 3 = some (.int (nI P.length)) from ofd_at h1, ovi_i, obn_at, if_neg (show ¬ (40 : Int32) ≤ nI P.length from nI_ge (b := 40) (by omega) (by decide)), show ofd σ (some j) 3 1 = some (.ref pa) from ofd_at h1, ovr_rf, obn_at, obn_at, s1, obn_at, show ofd (oput σ pa (.inl (.object "LiquidTongue$Node", 40, .inr (.inr (.inr (.inr (va_up gp P.length (some m)))))))) (some j) 3 2 = some (.ref ph) from ofd_at e1, ovr_rf, obn_at, show ofd (oput σ pa (.inl (.object "LiquidTongue$Node", 40, .inr (.inr (.inr (.inr (va_up gp P.length (some m)))))))) (some j) 3 3 = some (.int (nI P.length)) from ofd_at e1, ovi_i, obn_at, s2, obn_at, show ofd (oput (oput σ pa (.inl (.object "LiquidTongue$Node", 40, .inr (.inr (.inr (.inr (va_up gp P.length (some m)))))))) ph (.inl (.boolean, 40, .inl (upd hp P.length (b01 h))))) (some j) 3 3 = some (.int (nI P.length)) from ofd_at e3, ovi_i, obn_at, nI_p1, opf_at e3 (by simp only [List.length_cons, List.length_nil]; omega), obn_at]
    rfl
  · rw [oput_ne (Ne.symm n1), oput_ne m3, oput_ne m2]; exact h2
  · rw [oput_ne (Ne.symm n2), oput_ne k2, oput_ne k1]; exact h3
  · rw [oput_ne (Ne.symm n3), oput_ne l1, oput_eq]
  · rw [oput_ne (Ne.symm n4), oput_eq]
  · rcases get_ap e with ⟨rfl, rfl⟩ | ⟨z, e⟩
    · exact ⟨by show (if P.length = P.length then _ else _) = _; rw [if_pos rfl], by show (if P.length = P.length then _ else _) = _; rw [if_pos rfl]⟩
    · obtain ⟨q1, q2⟩ := h6 k x e
      refine ⟨?_, ?_⟩
      · show (if k = P.length then _ else gp k) = _
        rw [if_neg (by omega)]; exact q1
      · show (if k = P.length then _ else hp k) = _
        rw [if_neg (by omega)]; exact q2
  · rw [oput_ne (Ne.symm n5), oput_ne (Ne.symm p1), oput_ne (Ne.symm l2)]; exact h7
  · rw [oput_ne (Ne.symm n6), oput_ne (Ne.symm p2), oput_ne (Ne.symm l3)]; exact h8
  · rw [el]; omega
end JPO
