/-! what must FIT and be SO only grows as gWk goes -/
/-- no fewer than before -/
def sGr (s s' : gSt) : Prop := s.2.1.length ≤ s'.2.1.length ∧ s.2.2.length ≤ s'.2.2.length
section SGR
variable {T : Nat} {f pp ee : Nat → Int32} {tE tN : Nat → tY} {s s' s'' : gSt}
theorem sGr.rf : sGr s s := ⟨Nat.le_refl _, Nat.le_refl _⟩
theorem sGr.tr (h : sGr s s') (g : sGr s' s'') : sGr s s'' := ⟨Nat.le_trans h.1 g.1, Nat.le_trans h.2 g.2⟩
theorem sGr.ft {l : List gFit} (h : sGr s s') : sGr s (gFt l s') := ⟨by
  show _ ≤ (s'.2.1 ++ l).length
  rw [List.length_append]
  have := h.1
  omega, h.2⟩
theorem sGr.ne (x : gNd) : sGr s (gNe x s) := ⟨Nat.le_refl _, by
  show _ ≤ (s.2.2 ++ [x]).length
  rw [List.length_append]
  omega⟩
theorem sGr.tn {w : Nat} {A : gTy} (h : sGr s s') : sGr s (gTn w A s') := h
theorem sGr.tn' {w : Nat} {A : gTy} (h : sGr (gTn w A s) s') : sGr s s' := h
theorem sGr.ft' {l : List gFit} (h : sGr (gFt l s) s') : sGr s s' := (sGr.rf.ft).tr h
theorem gPa_2 : ∀ (q w : Nat) (A : gTy) (sc : List gEn) (s : gSt), (gPa q w A sc s).2.2.2 = s.2
  | 0, _, _, _, _ => rfl
  | q + 1, w, A, sc, s => gPa_2 q (w + 1) (gAn A) (gNm (.inl w) (gTk A) sc) (gTn w (gTk A) s)
theorem gWk_gr : ∀ (t : tT) (env : List Nat) (sc : List gEn) (A : gTy) (s : gSt), sGr s (gWk T f pp ee tE tN t env sc A s).1
  | .leaf, _, _, _, s => sGr.rf
  | .inner g d _ a b, env, sc, A, s => by
    have Ia := gWk_gr a
    have Ib := gWk_gr b
    unfold gWk
    by_cases c1 : g = 1
    · rw [if_pos c1]
      exact (((Ia env sc A s).tn).tr (Ib _ _ _ _)).ft
    rw [if_neg c1]
    by_cases c2 : g = 2
    · rw [if_pos c2]
      refine (sGr.tr ?_ (Ib _ _ _ _)).ft
      refine (sGr.tr ?_ (Ia _ _ _ _)).ft
      unfold sGr
      rw [gPa_2]
      exact sGr.rf (s := s)
    rw [if_neg c2]
    by_cases c3 : g = 3
    · rw [if_pos c3]
      exact ((sGr.rf (s := s)).tn.tr (Ia _ _ _ _)).ft
    rw [if_neg c3]
    by_cases c4 : g = 4
    · rw [if_pos c4]
      exact Ib _ _ _ _
    rw [if_neg c4]
    by_cases c5 : g = 5
    · rw [if_pos c5]
      exact (sGr.ne _).tr (Ib _ _ _ _)
    rw [if_neg c5]
    by_cases c6 : g = 6
    · rw [if_pos c6]
      exact (sGr.ne _).tr (Ia _ _ _ _)
    rw [if_neg c6]
    by_cases c7 : g = 7
    · rw [if_pos c7]
      exact sGr.ne _
    rw [if_neg c7]
    by_cases c8 : g = 8 ∨ g = 9
    · rw [if_pos c8]
      exact sGr.rf
    rw [if_neg c8]
    by_cases c10 : g = 10
    · rw [if_pos c10]
      exact sGr.rf
    rw [if_neg c10]
    by_cases c11 : g = 11 ∨ g = 12 ∨ g = 13
    · rw [if_pos c11]
      show sGr s (if g = 11 then s else _)
      by_cases c : g = 11
      · rw [if_pos c]; exact sGr.rf
      · rw [if_neg c]; exact sGr.ne _
    rw [if_neg c11]
    by_cases c14 : g = 14
    · rw [if_pos c14]
      exact sGr.ne _
    rw [if_neg c14]
    by_cases c15 : g = 15
    · rw [if_pos c15]
      exact Ia _ _ _ _
    rw [if_neg c15]
    by_cases c16 : g = 16
    · rw [if_pos c16]
      exact Ia _ _ _ _
    rw [if_neg c16]
    by_cases c17 : g = 17
    · rw [if_pos c17]
      exact sGr.rf
    rw [if_neg c17]
    by_cases c18 : g = 18
    · rw [if_pos c18]
      exact sGr.rf
    rw [if_neg c18]
    by_cases c19 : g = 19
    · rw [if_pos c19]
      exact ((((Ia _ _ _ _).ft).tn.tn).tr (Ib _ _ _ _)).ft
    rw [if_neg c19]
    by_cases c31 : g = 31
    · rw [if_pos c31]
      exact (((Ia _ _ _ _).ft).tr (Ib _ _ _ _)).ft
    rw [if_neg c31]
    by_cases c33 : g = 33
    · rw [if_pos c33]
      exact ((sGr.rf (s := s)).ft).tr (Ib _ _ _ _)
    rw [if_neg c33]
    by_cases c34 : g = 34
    · rw [if_pos c34]
      exact ((Ia _ _ _ _).ft).tr (Ib _ _ _ _)
    rw [if_neg c34]
    by_cases c35 : g = 35
    · rw [if_pos c35]
      exact Ib _ _ _ _
    rw [if_neg c35]
    exact sGr.rf
end SGR
