/-! TERMS that can be put in -/
section TMO
variable {f kk pp ee : Nat → Int32} {T len cnt : Nat} {V : zSt} {Γ : uGm} {C B : Int} {tN : Nat → tY} {env : List Nat}
theorem jAbs_pm {v : Int32} (h : jAbs v = 1) : v.toInt = 1 ∨ v.toInt = -1 := by
  unfold jAbs at h
  split at h
  · left; rw [h]; rfl
  · right
    have : v = -1 := by
      have h' : 0 - v + v = 1 + v := by rw [h]
      rw [Int32.sub_add_cancel] at h'
      have h3 : (0 : Int32) - 1 = 1 + v - 1 := by rw [← h']
      rw [Int32.add_comm 1 v, Int32.add_sub_cancel] at h3
      rw [← h3]
      rfl
    rw [this]
    rfl
theorem tmW_of {ps : List tP} (hu : ∀ u, u ∈ env → uNm Γ (.inl u)) (hT : 2010 ≤ T) (h : rW V T len cnt kk pp ee f) (hg : sGd cnt ps) (hk : sKn kk ps) (hs : gSo f pp ee tN env ps) (ht : gTs f pp ee env ps = true) (hC : 10010000 ≤ C) (hB : 20020002 ≤ B) : tmW Γ C B (gSv tN env) (gOf T f pp ee env ps) := by
  unfold gTs at ht
  have hl := (sTe_iff _).mp ht
  have hm : rIn (fun u => Sum.inl u ∈ gSv tN env) (sL (nFind f pp ee env) ps) := by rw [sL_eq]; exact ln_1 hs
  obtain ⟨b1, b2⟩ := sPl_sm hT h hg hk
  have e2 : (gOf T f pp ee env ps).2 = (sPl T f pp ee ps).toInt := rfl
  have bd : gTb B (gOf T f pp ee env ps) := by
    unfold gTb
    rw [e2]
    omega
  have hd : ∀ y e, (gOf T f pp ee env ps).1 = some (y, e) → ∃ q, q ∈ sL (nFind f pp ee env) ps ∧ y = .inl q.1 ∧ e = q.2.toInt := fun y e w => by
    unfold gOf at w
    cases e0 : sL (nFind f pp ee env) ps with
    | nil => rw [e0] at w; cases w
    | cons q r =>
      rw [e0] at w
      injection w with w
      injection w with w1 w2
      exact ⟨q, List.mem_cons_self .., w1.symm, w2.symm⟩
  refine ⟨fun y e w => ?_, bd, by rw [e2]; omega, fun y e w => ?_⟩
  · obtain ⟨q, hq, rfl, rfl⟩ := hd y e w
    obtain ⟨u, u1, -, u2⟩ := gSv_me.mp (hm q hq)
    have : q.1 = u := Sum.inl.inj u2
    refine ⟨hu _ (this ▸ u1), ?_⟩
    rcases hl with z | ⟨-, z⟩
    · rw [List.length_eq_zero_iff.mp z] at hq; cases hq
    · exact jAbs_pm (z q hq)
  · obtain ⟨q, hq, rfl, rfl⟩ := hd y e w
    exact hm q hq
end TMO
