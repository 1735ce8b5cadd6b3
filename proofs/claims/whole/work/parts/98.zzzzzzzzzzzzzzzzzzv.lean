/-! forms that are right: what the answer 0 of compile() says of the tree -/
/-- comparisons of a C are of the right form -/
def cRtF (ns : Nat → Option Nat) : tT → Prop
  | .leaf => True
  | .inner g d _ a b => if g = 25 then sFa (sDf (sL ns d.2.2.2.1.2) (sL ns d.2.2.2.2.2)) = true else cRtF ns a ∧ cRtF ns b
/-- forms of an E are right; cn: ATOMS gone through -/
def fRt (f pp ee : Nat → Int32) : tT → List Nat → Int32 → Prop
  | .leaf, _, _ => True
  | .inner g d _ a b, env, cn =>
    if g = 1 then fRt f pp ee a env cn ∧ fRt f pp ee b (env ++ [d.1 + 1]) cn
    else if g = 2 then fRt f pp ee a (env ++ ([d.1 + 2] ++ List.range' (d.1 + 3) d.2.1)) cn ∧ fRt f pp ee b (env ++ [d.1 + 2]) cn
    else if g = 3 then fRt f pp ee a (env ++ [d.1 + 1]) cn
    else if g = 4 ∨ g = 5 then (cn + nI (tAt a) ≤ 6 ∧ cRtF (nFind f pp ee env) a) ∧ fRt f pp ee b env (cn + nI (tAt a))
    else if g = 19 then fRt f pp ee a env cn ∧ fRt f pp ee b (env ++ [d.2.1, d.2.1 + 1]) cn
    else if g = 33 then (d.2.1 = 1 → sTe (sL (nFind f pp ee env) d.2.2.2.1.2) = true) ∧ fRt f pp ee b env cn
    else fRt f pp ee a env cn ∧ fRt f pp ee b env cn
section FOK
variable {f pp ee : Nat → Int32}
theorem fMin_lt {a b : Int32} (h : fMin a b < 0) : a < 0 ∧ b < 0 := by
  rw [Int32.lt_iff_toInt_lt, fMin_t] at h
  rw [Int32.lt_iff_toInt_lt, Int32.lt_iff_toInt_lt]
  have z : (0 : Int32).toInt = 0 := rfl
  rw [z] at h ⊢
  split at h
  · rename_i c; exact ⟨h, c⟩
  · split at h
    · omega
    · split at h <;> omega
theorem fMin_no {a b : Int32} (hb : 0 ≤ b) (h : fMin a b < 0) : False := by
  have := (fMin_lt h).2
  rw [Int32.lt_iff_toInt_lt] at this
  rw [Int32.le_iff_toInt_le] at hb
  omega
theorem fCt_ok {ns : Nat → Option Nat} (hp : ∀ w, 0 ≤ pp w) : ∀ (t : tT) (ff : Int32), fCt pp ns t ff < 0 → ff < 0 ∧ cRtF ns t
  | .leaf, ff, h => ⟨h, trivial⟩
  | .inner g d z a b, ff, h => by
    unfold fCt at h
    unfold cRtF
    by_cases c : g = 25
    · rw [if_pos c] at h ⊢
      by_cases w : sFa (sDf (sL ns d.2.2.2.1.2) (sL ns d.2.2.2.2.2)) = true
      · rw [if_pos w] at h; exact ⟨h, w⟩
      · rw [if_neg w] at h; exact (fMin_no (hp _) h).elim
    · rw [if_neg c] at h ⊢
      obtain ⟨h1, h2⟩ := fCt_ok hp b _ h
      obtain ⟨h3, h4⟩ := fCt_ok hp a _ h1
      exact ⟨h3, h4, h2⟩
/-- **no wrong form** -/
theorem fE_ok (hp : ∀ w, 0 ≤ pp w) : ∀ (t : tT) (env : List Nat) (cn ff : Int32), fE f pp ee t env cn ff < 0 → ff < 0 ∧ fRt f pp ee t env cn
  | .leaf, _, _, ff, h => ⟨h, trivial⟩
  | .inner g d z a b, env, cn, ff, h => by
    have two : ∀ e1 e2 c1 c2, fE f pp ee b e2 c2 (fE f pp ee a e1 c1 ff) < 0 → ff < 0 ∧ fRt f pp ee a e1 c1 ∧ fRt f pp ee b e2 c2 := fun e1 e2 c1 c2 h => by
      obtain ⟨h1, h2⟩ := fE_ok hp b _ _ _ h
      obtain ⟨h3, h4⟩ := fE_ok hp a _ _ _ h1
      exact ⟨h3, h4, h2⟩
    unfold fE at h
    unfold fRt
    by_cases c1 : g = 1
    · rw [if_pos c1] at h ⊢; exact two _ _ _ _ h
    rw [if_neg c1] at h ⊢
    by_cases c2 : g = 2
    · rw [if_pos c2] at h ⊢; exact two _ _ _ _ h
    rw [if_neg c2] at h ⊢
    by_cases c3 : g = 3
    · rw [if_pos c3] at h ⊢; exact fE_ok hp a _ _ _ h
    rw [if_neg c3] at h ⊢
    by_cases c4 : g = 4 ∨ g = 5
    · rw [if_pos c4] at h ⊢
      obtain ⟨h1, h2⟩ := fE_ok hp b _ _ _ h
      by_cases w : cn + nI (tAt a) ≤ 6
      · rw [if_pos w] at h1
        obtain ⟨h3, h4⟩ := fCt_ok hp a _ h1
        exact ⟨h3, ⟨w, h4⟩, h2⟩
      · rw [if_neg w] at h1
        exact (fMin_no (hp _) h1).elim
    rw [if_neg c4] at h ⊢
    by_cases c19 : g = 19
    · rw [if_pos c19] at h ⊢; exact two _ _ _ _ h
    rw [if_neg c19] at h ⊢
    by_cases c33 : g = 33
    · rw [if_pos c33] at h ⊢
      obtain ⟨h1, h2⟩ := fE_ok hp b _ _ _ h
      by_cases w : d.2.1 = 1 ∧ ¬ sTe (sL (nFind f pp ee env) d.2.2.2.1.2) = true
      · rw [if_pos w] at h1
        exact (fMin_no (hp _) h1).elim
      · rw [if_neg w] at h1
        exact ⟨h1, fun e => Classical.byContradiction fun z => w ⟨e, z⟩, h2⟩
    rw [if_neg c33] at h ⊢
    exact two _ _ _ _ h
end FOK
