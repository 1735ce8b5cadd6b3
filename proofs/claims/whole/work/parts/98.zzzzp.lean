/-! the types of a tree -/
section MTE
variable (f pp ee : Nat → Int32)
/-- the type of the NAME that the word w means -/
def mNm (env : List Nat) (w : Nat) (s : mS) : mF := s.2.2.1 ((nFind f pp ee env w).getD 0)
def mPk (g : Nat) : Nat := if g = 2 then 2 else if g = 3 then 3 else 0
def mPt (env : List Nat) (p : tP) (s : mS) : mS := if p.1 = 0 then s else mMu (mNm f pp ee env p.2.2 s) (mB (mPk p.1)) (pp p.2.2) s
def mPs (env : List Nat) (ps : List tP) (s : mS) : mS := ps.foldl (fun s p => mPt f pp ee env p s) s
def mCt (env : List Nat) : tT → mS → mS
  | .leaf, s => s
  | .inner g d _ a b, s => if g = 24 then mMu (mNm f pp ee env d.1 s) (mB 1) (pp d.1) s else if g = 25 then mPs f pp ee env d.2.2.2.2.2 (mPs f pp ee env d.2.2.2.1.2 s) else mCt env b (mCt env a s)
/-- an S that is a NAME alone -/
def isN (ps : List tP) : Bool := decide (ps.length = 1 ∧ (ps.headD (0, false, 0)).1 = 1 ∧ (ps.headD (0, false, 0)).2.1 = false)
def mSu (env : List Nat) (ps : List tP) (s : mS) : mS × mF := if isN ps = true then (s, mNm f pp ee env (ps.headD (0, false, 0)).2.2 s) else (mPs f pp ee env ps s, mB 0)
/-- q parameters from word w on, free ones from v on -/
def mPa : Nat → Nat → Nat → mS → mS
  | 0, _, _, s => s
  | q + 1, w, v, s => mPa q (w + 1) (v + 1) (mNt w (mV v) s)
/-- a function of q free ones from v on -/
def mFu : Nat → Nat → mF → mF
  | 0, _, t => t
  | q + 1, v, t => mA (mV v) (mFu q (v + 1) t)
/-- how many ARGS -/
def tQn : tT → Nat
  | .leaf => 0
  | .inner _ _ _ _ b => tQn b + 1
/-- t takes q ARGS -/
def mOp (pl : Int32) : Nat → mF → mS → mS
  | 0, _, s => s
  | q + 1, t, s => mOp pl q (fun α => yR (t α)) (mAdd (fun α => yIs (t α)) pl s)
def mRs : Nat → mF → mF
  | 0, t => t
  | q + 1, t => mRs q (fun α => yR (t α))
/-- the first word of an E -/
def tFw : tT → Nat
  | .leaf => 0
  | .inner _ d _ _ _ => d.1
def mE : tT → List Nat → mS → mS × mF
  | .leaf, _, s => (s, mB 0)
  | .inner g d _ a b, env, s =>
    if g = 1 then
      (mEt d.1 (mE b (env ++ [d.1 + 1]) (mNt (d.1 + 1) (mE a env s).2 (mE a env s).1)).2 (mE b (env ++ [d.1 + 1]) (mNt (d.1 + 1) (mE a env s).2 (mE a env s).1)).1, (mE b (env ++ [d.1 + 1]) (mNt (d.1 + 1) (mE a env s).2 (mE a env s).1)).2)
    else if g = 2 then
      (fun s1 : mS => (fun r1 : mS × mF => (fun r2 : mS × mF => (mEt d.1 r2.2 r2.1, r2.2)) (mE b (env ++ [d.1 + 2]) (mMu r1.2 (mV (s.2.1 + d.2.1)) (pp (tFw a)) r1.1))) (mE a (env ++ ([d.1 + 2] ++ List.range' (d.1 + 3) d.2.1)) s1)) (mNt (d.1 + 2) (mFu d.2.1 s.2.1 (mV (s.2.1 + d.2.1))) (mFr (d.2.1 + 1) (mPa d.2.1 (d.1 + 3) s.2.1 s)))
    else if g = 3 then
      (fun r1 : mS × mF => (mEt d.1 (mA (mV s.2.1) r1.2) r1.1, mA (mV s.2.1) r1.2)) (mE a (env ++ [d.1 + 1]) (mNt (d.1 + 1) (mV s.2.1) (mFr 1 s)))
    else if g = 4 ∨ g = 5 then
      (fun r : mS × mF => (mEt d.1 r.2 r.1, r.2)) (mE b env (mCt f pp ee env a s))
    else if g = 6 then
      (fun r : mS × mF => (mEt d.1 r.2 r.1, r.2)) (mE a env (mPs f pp ee env d.2.2.2.2.2 (mPs f pp ee env d.2.2.2.1.2 (mMu (mNm f pp ee env (d.1 + 1) s) (mB 2) (pp (d.1 + 1)) s))))
    else if g = 7 then (mEt d.1 (mB 2) (mPs f pp ee env d.2.2.2.1.2 s), mB 2)
    else if g = 8 ∨ g = 9 then (mEt d.1 (mB 1) s, mB 1)
    else if g = 10 then (fun r : mS × mF => (mEt d.1 r.2 r.1, r.2)) (mSu f pp ee env d.2.2.2.1.2 s)
    else if g = 11 ∨ g = 12 ∨ g = 13 then (mEt d.1 (mB 0) (mPs f pp ee env d.2.2.2.2.2 (mPs f pp ee env d.2.2.2.1.2 s)), mB 0)
    else if g = 14 then (mEt d.1 (mB 0) (mPs f pp ee env d.2.2.2.1.2 (mMu (mNm f pp ee env d.1 s) (mB 2) (pp d.1) s)), mB 0)
    else if g = 15 then
      (fun r : mS × mF => (mEt d.1 (mRs (tQn a) (mNm f pp ee env d.1 s)) r.1, mRs (tQn a) (mNm f pp ee env d.1 s))) (mE a env (mCu (mNm f pp ee env d.1 s) (mOp (pp d.1) (tQn a) (mNm f pp ee env d.1 s) s)))
    else if g = 16 then (fun r : mS × mF => (mEt d.1 r.2 r.1, r.2)) (mE a env s)
    else if g = 17 then (mEt d.1 (mB 3) s, mB 3)
    else if g = 18 then (fun s1 : mS => (mEt d.1 (mB 3) (mMu (mNm f pp ee env d.2.1 s1) (mB 3) (pp d.2.1) s1), mB 3)) (mPs f pp ee env d.2.2.2.1.2 s)
    else if g = 19 then
      (fun r1 : mS × mF => (fun r2 : mS × mF => (mEt d.1 r1.2 (mMu r2.2 r1.2 (pp (tFw b)) r2.1), r1.2)) (mE b (env ++ [d.2.1, d.2.1 + 1]) (mNt (d.2.1 + 1) (mB 3) (mNt d.2.1 (mB 0) r1.1)))) (mE a env (mMu (mNm f pp ee env (d.1 + 1) s) (mB 3) (pp (d.1 + 1)) s))
    else if g = 31 then
      (fun r1 : mS × mF => (fun r2 : mS × mF => (mMu r2.2 r1.2 (pp (tFw b)) r2.1, r1.2)) (mE b env r1.1)) (mE a env s)
    else if g = 33 then
      (fun r : mS × mF => mE b env (mCu (fun α => yR (s.2.2.2.2 α)) (mMu r.2 (fun α => yL (s.2.2.2.2 α)) (pp d.1) r.1))) (if d.2.1 = 1 then (mPs f pp ee env d.2.2.2.1.2 s, mB 0) else mSu f pp ee env d.2.2.2.1.2 s)
    else if g = 34 then
      (fun r : mS × mF => mE b env (mCu (fun α => yR (s.2.2.2.2 α)) (mMu r.2 (fun α => yL (s.2.2.2.2 α)) (pp d.1) r.1))) (mE a env s)
    else
      mE b env (mCu (fun α => yR (s.2.2.2.2 α)) (mMu (mB 1) (fun α => yL (s.2.2.2.2 α)) (pp d.1) s))
end MTE
/-- more equations, no fewer free ones, and NAMES but those of W as they were -/
def mLe (W : List Nat) (s s' : mS) : Prop := (∃ l, s'.1 = s.1 ++ l) ∧ s.2.1 ≤ s'.2.1 ∧ ∀ u, u ∉ W → s'.2.2.1 u = s.2.2.1 u
section MLE
variable {f pp ee : Nat → Int32} {W W' : List Nat} {s s' s'' : mS}
theorem mLe.rf (W : List Nat) (s : mS) : mLe W s s := ⟨⟨[], (List.append_nil _).symm⟩, Nat.le_refl _, fun _ _ => rfl⟩
theorem mLe.tr (h : mLe W s s') (g : mLe W s' s'') : mLe W s s'' := by
  obtain ⟨⟨l, e⟩, h2, h3⟩ := h
  obtain ⟨⟨l', e'⟩, g2, g3⟩ := g
  exact ⟨⟨l ++ l', by rw [e', e, List.append_assoc]⟩, by omega, fun u hu => (g3 u hu).trans (h3 u hu)⟩
theorem mLe.mo (h : mLe W s s') (hw : ∀ u, u ∈ W → u ∈ W') : mLe W' s s' := ⟨h.1, h.2.1, fun u hu => h.2.2 u (fun z => hu (hw u z))⟩
theorem mLe.add (P : (Nat → tY) → Prop) (pl : Int32) (s : mS) : mLe [] s (mAdd P pl s) := ⟨⟨_, rfl⟩, Nat.le_refl _, fun _ _ => rfl⟩
theorem mLe.mu (a b : mF) (pl : Int32) (s : mS) : mLe [] s (mMu a b pl s) := mLe.add _ _ s
theorem mLe.nt (w : Nat) (t : mF) (s : mS) : mLe [w] s (mNt w t s) := ⟨⟨[], (List.append_nil _).symm⟩, Nat.le_refl _, fun u hu => mUp_ne _ _ (fun e => hu (by rw [e]; exact List.mem_singleton_self _))⟩
theorem mLe.et (w : Nat) (t : mF) (s : mS) : mLe [] s (mEt w t s) := ⟨⟨[], (List.append_nil _).symm⟩, Nat.le_refl _, fun _ _ => rfl⟩
theorem mLe.cu (t : mF) (s : mS) : mLe [] s (mCu t s) := ⟨⟨[], (List.append_nil _).symm⟩, Nat.le_refl _, fun _ _ => rfl⟩
theorem mLe.fr (k : Nat) (s : mS) : mLe [] s (mFr k s) := ⟨⟨[], (List.append_nil _).symm⟩, Nat.le_add_right _ _, fun _ _ => rfl⟩
theorem mLe.no (h : mLe [] s s') (W : List Nat) : mLe W s s' := h.mo (fun u hu => by cases hu)
theorem mLe.pt (env : List Nat) (p : tP) (s : mS) : mLe [] s (mPt f pp ee env p s) := by
  unfold mPt
  split
  · exact mLe.rf _ _
  · exact mLe.mu _ _ _ _
theorem mLe.ps (env : List Nat) : ∀ (ps : List tP) (s : mS), mLe [] s (mPs f pp ee env ps s)
  | [], s => mLe.rf _ _
  | p :: ps, s => (mLe.pt env p s).tr (mLe.ps env ps _)
theorem mLe.ct (env : List Nat) : ∀ (t : tT) (s : mS), mLe [] s (mCt f pp ee env t s)
  | .leaf, s => mLe.rf _ _
  | .inner g d _ a b, s => by
    unfold mCt
    split
    · exact mLe.mu _ _ _ _
    · split
      · exact (mLe.ps _ _ _).tr (mLe.ps _ _ _)
      · exact (mLe.ct env a s).tr (mLe.ct env b _)
theorem mLe.su (env : List Nat) (ps : List tP) (s : mS) : mLe [] s (mSu f pp ee env ps s).1 := by
  unfold mSu
  split
  · exact mLe.rf _ _
  · exact mLe.ps _ _ _
theorem mLe.pa : ∀ (q w v : Nat) (s : mS), mLe (List.range' w q) s (mPa q w v s)
  | 0, w, v, s => mLe.rf _ _
  | q + 1, w, v, s => by
    rw [List.range'_succ]
    exact ((mLe.nt w (mV v) s).mo (fun u hu => by rw [List.mem_singleton.mp hu]; exact List.mem_cons_self ..)).tr ((mLe.pa q (w + 1) (v + 1) _).mo (fun u hu => List.mem_cons_of_mem _ hu))
theorem mLe.op (pl : Int32) : ∀ (q : Nat) (t : mF) (s : mS), mLe [] s (mOp pl q t s)
  | 0, _, s => mLe.rf _ _
  | q + 1, t, s => (mLe.add _ _ s).tr (mLe.op pl q _ _)
theorem mLe.e : ∀ (t : tT) (env : List Nat) (s : mS), mLe (tW t) s (mE f pp ee t env s).1
  | .leaf, env, s => mLe.rf _ _
  | .inner g d _ a b, env, s => by
    have Ia := mLe.e a
    have Ib := mLe.e b
    unfold mE tW
    by_cases c1 : g = 1
    · rw [if_pos c1, if_pos c1]
      refine (((Ia env s).mo (fun u hu => ?_)).tr ((mLe.nt _ _ _).mo (fun u hu => ?_))).tr (((Ib _ _).mo (fun u hu => ?_)).tr ((mLe.et _ _ _).no _))
      · exact List.mem_cons_of_mem _ (List.mem_append_left _ hu)
      · rw [List.mem_singleton.mp hu]; exact List.mem_cons_self ..
      · exact List.mem_cons_of_mem _ (List.mem_append_right _ hu)
    rw [if_neg c1, if_neg c1]
    by_cases c2 : g = 2
    · rw [if_pos c2, if_pos c2]
      refine ((((mLe.pa _ _ _ _).mo (fun u hu => ?_)).tr ((mLe.fr _ _).no _)).tr ((mLe.nt _ _ _).mo (fun u hu => ?_))).tr (((Ia _ _).mo (fun u hu => ?_)).tr (((mLe.mu _ _ _ _).no _).tr (((Ib _ _).mo (fun u hu => ?_)).tr ((mLe.et _ _ _).no _))))
      · exact List.mem_cons_of_mem _ (List.mem_append_left _ hu)
      · rw [List.mem_singleton.mp hu]; exact List.mem_cons_self ..
      · exact List.mem_cons_of_mem _ (List.mem_append_right _ (List.mem_append_left _ hu))
      · exact List.mem_cons_of_mem _ (List.mem_append_right _ (List.mem_append_right _ hu))
    rw [if_neg c2, if_neg c2]
    by_cases c3 : g = 3
    · rw [if_pos c3, if_pos c3]
      refine (((mLe.fr _ _).no _).tr ((mLe.nt _ _ _).mo (fun u hu => ?_))).tr (((Ia _ _).mo (fun u hu => ?_)).tr ((mLe.et _ _ _).no _))
      · rw [List.mem_singleton.mp hu]; exact List.mem_cons_self ..
      · exact List.mem_cons_of_mem _ hu
    rw [if_neg c3, if_neg c3]
    by_cases c4 : g = 4 ∨ g = 5
    · rw [if_pos c4, if_pos c4]
      exact ((mLe.ct env a s).no _).tr ((Ib _ _).tr ((mLe.et _ _ _).no _))
    rw [if_neg c4, if_neg c4]
    by_cases c6 : g = 6
    · rw [if_pos c6, if_pos (Or.inl c6)]
      exact ((((mLe.mu _ _ _ _).tr (mLe.ps _ _ _)).tr (mLe.ps _ _ _)).no _).tr ((Ia _ _).tr ((mLe.et _ _ _).no _))
    rw [if_neg c6]
    by_cases c7 : g = 7
    · rw [if_pos c7]; exact ((mLe.ps _ _ _).tr (mLe.et _ _ _)).no _
    rw [if_neg c7]
    by_cases c8 : g = 8 ∨ g = 9
    · rw [if_pos c8]; exact (mLe.et _ _ _).no _
    rw [if_neg c8]
    by_cases c10 : g = 10
    · rw [if_pos c10]; exact ((mLe.su _ _ _).tr (mLe.et _ _ _)).no _
    rw [if_neg c10]
    by_cases c11 : g = 11 ∨ g = 12 ∨ g = 13
    · rw [if_pos c11]; exact (((mLe.ps _ _ _).tr (mLe.ps _ _ _)).tr (mLe.et _ _ _)).no _
    rw [if_neg c11]
    by_cases c14 : g = 14
    · rw [if_pos c14]; exact (((mLe.mu _ _ _ _).tr (mLe.ps _ _ _)).tr (mLe.et _ _ _)).no _
    rw [if_neg c14]
    by_cases c15 : g = 15
    · rw [if_pos c15, if_pos (Or.inr c15)]
      exact (((mLe.op _ _ _ _).tr (mLe.cu _ _)).no _).tr ((Ia _ _).tr ((mLe.et _ _ _).no _))
    rw [if_neg c15, if_neg (show ¬ (g = 6 ∨ g = 15) by omega)]
    by_cases c16 : g = 16
    · rw [if_pos c16, if_neg (by omega), if_neg (by omega)]
      exact ((Ia _ _).mo (fun u hu => List.mem_append_left _ hu)).tr ((mLe.et _ _ _).no _)
    rw [if_neg c16]
    by_cases c17 : g = 17
    · rw [if_pos c17]; exact (mLe.et _ _ _).no _
    rw [if_neg c17]
    by_cases c18 : g = 18
    · rw [if_pos c18]; exact (((mLe.ps _ _ _).tr (mLe.mu _ _ _ _)).tr (mLe.et _ _ _)).no _
    rw [if_neg c18, if_neg (show ¬ (g = 14 ∨ g = 18) by omega)]
    by_cases c19 : g = 19
    · rw [if_pos c19, if_pos c19]
      refine (((mLe.mu _ _ _ _).no _).tr ((Ia _ _).mo (fun u hu => ?_))).tr (((((mLe.nt _ _ _).mo (fun u hu => ?_)).tr ((mLe.nt _ _ _).mo (fun u hu => ?_))).tr ((Ib _ _).mo (fun u hu => ?_))).tr (((mLe.mu _ _ _ _).tr (mLe.et _ _ _)).no _))
      · exact List.mem_append_left _ hu
      · rw [List.mem_singleton.mp hu]; exact List.mem_append_right _ (List.mem_append_left _ (List.mem_cons_self ..))
      · rw [List.mem_singleton.mp hu]; exact List.mem_append_right _ (List.mem_append_left _ (List.mem_cons_of_mem _ (List.mem_cons_self ..)))
      · exact List.mem_append_right _ (List.mem_append_right _ hu)
    rw [if_neg c19, if_neg c19]
    by_cases c31 : g = 31
    · rw [if_pos c31]
      exact ((Ia _ _).mo (fun u hu => List.mem_append_left _ hu)).tr (((Ib _ _).mo (fun u hu => List.mem_append_right _ hu)).tr ((mLe.mu _ _ _ _).no _))
    rw [if_neg c31]
    by_cases c33 : g = 33
    · rw [if_pos c33]
      have e : mLe [] s (if d.2.1 = 1 then (mPs f pp ee env d.2.2.2.1.2 s, mB 0) else mSu f pp ee env d.2.2.2.1.2 s).1 := by
        split
        · exact mLe.ps _ _ _
        · exact mLe.su _ _ _
      exact (((e.tr (mLe.mu _ _ _ _)).tr (mLe.cu _ _)).no _).tr ((Ib _ _).mo (fun u hu => List.mem_append_right _ hu))
    rw [if_neg c33]
    by_cases c34 : g = 34
    · rw [if_pos c34]
      exact ((Ia _ _).mo (fun u hu => List.mem_append_left _ hu)).tr ((((mLe.mu _ _ _ _).tr (mLe.cu _ _)).no _).tr ((Ib _ _).mo (fun u hu => List.mem_append_right _ hu)))
    rw [if_neg c34]
    exact (((mLe.mu _ _ _ _).tr (mLe.cu _ _)).no _).tr ((Ib _ _).mo (fun u hu => List.mem_append_right _ hu))
end MLE
