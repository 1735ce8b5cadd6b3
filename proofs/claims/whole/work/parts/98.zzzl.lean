/-! the wrong NAMES of a tree -/
section WRG
variable (FD : List Nat → Nat → Bool)
/-- told at w where env counts: wrong? -/
def tlW (w : Nat) (env : List Nat) : List Nat := if 12 ≤ env.length ∨ FD env w = true then [w] else []
/-- used at w where env counts: wrong? -/
def usW (w : Nat) (env : List Nat) : List Nat := if FD env w = true then [] else [w]
def plW (env : List Nat) (l : List Nat) : List Nat := l.flatMap (fun w => usW FD w env)
def paW : Nat → Nat → List Nat → List Nat
  | 0, _, _ => []
  | q + 1, w, env => tlW FD w env ++ paW q (w + 1) (env ++ [w])
/-- the wrong NAMES of an E, in the order of the text -/
def tWr : tT → List Nat → List Nat
  | .leaf, _ => []
  | .inner g d _ a b, env =>
    if g = 1 then tlW FD (d.1 + 1) env ++ (tWr a env ++ tWr b (env ++ [d.1 + 1]))
    else if g = 2 then (tlW FD (d.1 + 2) env ++ paW FD d.2.1 (d.1 + 3) (env ++ [d.1 + 2])) ++ (tWr a (env ++ ([d.1 + 2] ++ List.range' (d.1 + 3) d.2.1)) ++ tWr b (env ++ [d.1 + 2]))
    else if g = 3 then tlW FD (d.1 + 1) env ++ tWr a (env ++ [d.1 + 1])
    else if g = 4 ∨ g = 5 then plW FD env (cEv a) ++ tWr b env
    else if g = 6 then usW FD (d.1 + 1) env ++ (plW FD env (sEv d.2.2.2.1.2) ++ (plW FD env (sEv d.2.2.2.2.2) ++ tWr a env))
    else if g = 14 then usW FD d.1 env ++ plW FD env (sEv d.2.2.2.1.2)
    else if g = 15 then usW FD d.1 env ++ tWr a env
    else if g = 18 then plW FD env (sEv d.2.2.2.1.2) ++ usW FD d.2.1 env
    else if g = 19 then usW FD (d.1 + 1) env ++ (tWr a env ++ (paW FD 2 d.2.1 env ++ tWr b (env ++ [d.2.1, d.2.1 + 1])))
    else plW FD env (sEv d.2.2.2.1.2) ++ (plW FD env (sEv d.2.2.2.2.2) ++ (tWr a env ++ tWr b env))
end WRG
section WRS
variable {FD FD' : List Nat → Nat → Bool}
theorem tlW_sub (w : Nat) (env : List Nat) : (tlW FD w env).Sublist [w] := by
  unfold tlW
  split
  · exact List.Sublist.refl _
  · exact List.nil_sublist _
theorem usW_sub (w : Nat) (env : List Nat) : (usW FD w env).Sublist [w] := by
  unfold usW
  split
  · exact List.nil_sublist _
  · exact List.Sublist.refl _
theorem plW_sub (env : List Nat) : ∀ (l : List Nat), (plW FD env l).Sublist l
  | [] => List.Sublist.refl _
  | w :: l => by
    have h := (usW_sub (FD := FD) w env).append (plW_sub env l)
    exact h
theorem paW_sub : ∀ (q w : Nat) (env : List Nat), (paW FD q w env).Sublist (List.range' w q)
  | 0, _, _ => List.Sublist.refl _
  | q + 1, w, env => by
    have h := (tlW_sub (FD := FD) w env).append (paW_sub q (w + 1) (env ++ [w]))
    rw [List.range'_succ]
    exact h
theorem tWr_sub : ∀ (t : tT) (env : List Nat), (tWr FD t env).Sublist (tEv t)
  | .leaf, _ => List.Sublist.refl _
  | .inner g d _ a b, env => by
    have Ia := tWr_sub a
    have Ib := tWr_sub b
    unfold tWr tEv
    by_cases c1 : g = 1
    · rw [if_pos c1, if_pos c1]; exact (tlW_sub _ _).append ((Ia _).append (Ib _))
    rw [if_neg c1, if_neg c1]
    by_cases c2 : g = 2
    · rw [if_pos c2, if_pos c2]; exact ((tlW_sub _ _).append (paW_sub _ _ _)).append ((Ia _).append (Ib _))
    rw [if_neg c2, if_neg c2]
    by_cases c3 : g = 3
    · rw [if_pos c3, if_pos c3]; exact (tlW_sub _ _).append (Ia _)
    rw [if_neg c3, if_neg c3]
    by_cases c4 : g = 4 ∨ g = 5
    · rw [if_pos c4, if_pos c4]; exact (plW_sub _ _).append (Ib _)
    rw [if_neg c4, if_neg c4]
    by_cases c6 : g = 6
    · rw [if_pos c6, if_pos c6]; exact (usW_sub _ _).append ((plW_sub _ _).append ((plW_sub _ _).append (Ia _)))
    rw [if_neg c6, if_neg c6]
    by_cases c14 : g = 14
    · rw [if_pos c14, if_pos c14]; exact (usW_sub _ _).append (plW_sub _ _)
    rw [if_neg c14, if_neg c14]
    by_cases c15 : g = 15
    · rw [if_pos c15, if_pos c15]; exact (usW_sub _ _).append (Ia _)
    rw [if_neg c15, if_neg c15]
    by_cases c18 : g = 18
    · rw [if_pos c18, if_pos c18]; exact (plW_sub _ _).append (usW_sub _ _)
    rw [if_neg c18, if_neg c18]
    by_cases c19 : g = 19
    · rw [if_pos c19, if_pos c19]; exact (usW_sub _ _).append ((Ia _).append ((paW_sub 2 _ _).append (Ib _)))
    rw [if_neg c19, if_neg c19]
    exact (plW_sub _ _).append ((plW_sub _ _).append ((Ia _).append (Ib _)))
/-- the first wrong NAME does not hang on what lies behind 12 -/
theorem hd_ap {l l' k k' : List Nat} (h : l.head? = l'.head?) (h' : l = [] → k.head? = k'.head?) : (l ++ k).head? = (l' ++ k').head? := by
  rw [List.head?_append, List.head?_append]
  cases l with
  | nil =>
    cases l' with
    | nil => exact h' rfl
    | cons x xs => cases h
  | cons x xs =>
    cases l' with
    | nil => cases h
    | cons y ys => injection h with h; subst h; rfl
theorem tlW_eq (hF : ∀ env w, env.length ≤ 12 → FD env w = FD' env w) (w : Nat) {env : List Nat} (he : env.length ≤ 12) : tlW FD w env = tlW FD' w env := by unfold tlW; rw [hF env w he]
theorem usW_eq (hF : ∀ env w, env.length ≤ 12 → FD env w = FD' env w) (w : Nat) {env : List Nat} (he : env.length ≤ 12) : usW FD w env = usW FD' w env := by unfold usW; rw [hF env w he]
theorem plW_eq (hF : ∀ env w, env.length ≤ 12 → FD env w = FD' env w) {env : List Nat} (he : env.length ≤ 12) (l : List Nat) : plW FD env l = plW FD' env l := by
  unfold plW
  congr 1
  funext w
  exact usW_eq hF w he
theorem tlW_nil {w : Nat} {env : List Nat} (h : tlW FD w env = []) : env.length < 12 := by
  unfold tlW at h
  split at h
  · cases h
  · omega
theorem paW_hd (hF : ∀ env w, env.length ≤ 12 → FD env w = FD' env w) : ∀ (q w : Nat) (env : List Nat), env.length ≤ 12 → (paW FD q w env).head? = (paW FD' q w env).head? ∧ (paW FD q w env = [] → env.length + q ≤ 12)
  | 0, _, env, he => ⟨rfl, fun _ => he⟩
  | q + 1, w, env, he => by
    unfold paW
    refine ⟨hd_ap (by rw [tlW_eq hF w he]) (fun hn => (paW_hd hF q (w + 1) (env ++ [w]) (by rw [List.length_append]; have := tlW_nil hn; simp; omega)).1), fun hn => ?_⟩
    have h1 := (List.append_eq_nil_iff.mp hn)
    have l1 := tlW_nil h1.1
    have := (paW_hd hF q (w + 1) (env ++ [w]) (by rw [List.length_append]; simp; omega)).2 h1.2
    rw [List.length_append] at this
    simp at this
    omega
theorem tWr_hd (hF : ∀ env w, env.length ≤ 12 → FD env w = FD' env w) : ∀ (t : tT) (env : List Nat), env.length ≤ 12 → (tWr FD t env).head? = (tWr FD' t env).head?
  | .leaf, _, _ => rfl
  | .inner g d _ a b, env, he => by
    have Ia := tWr_hd hF a
    have Ib := tWr_hd hF b
    have l1 : ∀ {w x : Nat}, tlW FD w env = [] → (env ++ [x]).length ≤ 12 := fun h => by rw [List.length_append]; have := tlW_nil h; simp; omega
    unfold tWr
    by_cases c1 : g = 1
    · rw [if_pos c1, if_pos c1]; exact hd_ap (by rw [tlW_eq hF _ he]) (fun h => hd_ap (Ia _ he) (fun _ => Ib _ (l1 h)))
    rw [if_neg c1, if_neg c1]
    by_cases c2 : g = 2
    · rw [if_pos c2, if_pos c2]
      refine hd_ap (hd_ap (by rw [tlW_eq hF _ he]) (fun h => (paW_hd hF _ _ _ (l1 h)).1)) (fun h => ?_)
      obtain ⟨h1, h2⟩ := List.append_eq_nil_iff.mp h
      have w := (paW_hd hF _ _ _ (l1 (x := d.1 + 2) h1)).2 h2
      refine hd_ap (Ia _ ?_) (fun _ => Ib _ (l1 h1))
      rw [List.length_append] at w ⊢
      simp at w ⊢
      omega
    rw [if_neg c2, if_neg c2]
    by_cases c3 : g = 3
    · rw [if_pos c3, if_pos c3]; exact hd_ap (by rw [tlW_eq hF _ he]) (fun h => Ia _ (l1 h))
    rw [if_neg c3, if_neg c3]
    by_cases c4 : g = 4 ∨ g = 5
    · rw [if_pos c4, if_pos c4]; exact hd_ap (by rw [plW_eq hF he]) (fun _ => Ib _ he)
    rw [if_neg c4, if_neg c4]
    by_cases c6 : g = 6
    · rw [if_pos c6, if_pos c6]; exact hd_ap (by rw [usW_eq hF _ he]) (fun _ => hd_ap (by rw [plW_eq hF he]) (fun _ => hd_ap (by rw [plW_eq hF he]) (fun _ => Ia _ he)))
    rw [if_neg c6, if_neg c6]
    by_cases c14 : g = 14
    · rw [if_pos c14, if_pos c14, usW_eq hF _ he, plW_eq hF he]
    rw [if_neg c14, if_neg c14]
    by_cases c15 : g = 15
    · rw [if_pos c15, if_pos c15]; exact hd_ap (by rw [usW_eq hF _ he]) (fun _ => Ia _ he)
    rw [if_neg c15, if_neg c15]
    by_cases c18 : g = 18
    · rw [if_pos c18, if_pos c18, usW_eq hF _ he, plW_eq hF he]
    rw [if_neg c18, if_neg c18]
    by_cases c19 : g = 19
    · rw [if_pos c19, if_pos c19]
      refine hd_ap (by rw [usW_eq hF _ he]) (fun _ => hd_ap (Ia _ he) (fun _ => hd_ap (paW_hd hF _ _ _ he).1 (fun h => Ib _ ?_)))
      have w := (paW_hd hF _ _ _ he).2 h
      rw [List.length_append]
      simp
      omega
    rw [if_neg c19, if_neg c19]
    exact hd_ap (by rw [plW_eq hF he]) (fun _ => hd_ap (by rw [plW_eq hF he]) (fun _ => hd_ap (Ia _ he) (fun _ => Ib _ he)))
end WRS
section WRN
variable {f pp ee : Nat → Int32}
/-- as the class looks a NAME up -/
def cFd (f pp ee : Nat → Int32) (env : List Nat) (w : Nat) : Bool := (nFind f pp ee env w).isSome
theorem nOr (ν : nSt) (l l' : List Nat) (h : ν.2.2 = l.head?) (x : Option Nat) (hx : x = (match ν.2.2 with | some w => some w | none => l'.head?)) : x = (l ++ l').head? := by
  rw [hx, h, List.head?_append]
  cases l with
  | nil => rfl
  | cons y ys => rfl
/-- the fault of NAMES behind a list of wrong ones -/
def nHd (o : Option Nat) (l : List Nat) : Option Nat := o.or l.head?
theorem nHd_ap (o : Option Nat) (l l' : List Nat) : nHd (nHd o l) l' = nHd o (l ++ l') := by
  unfold nHd
  rw [List.head?_append, Option.or_assoc]
theorem nHd_nil (o : Option Nat) : nHd o [] = o := by cases o <;> rfl
theorem nTell_3 (w : Nat) (ν : nSt) : (nTell f pp ee w ν).2.2 = nHd ν.2.2 (tlW (cFd f pp ee) w ν.1) := by
  unfold nTell tlW cFd nHd
  have e : ((nFind f pp ee ν.1 w).isSome = true) ↔ nFind f pp ee ν.1 w ≠ none := by
    cases nFind f pp ee ν.1 w <;> simp
  cases h : ν.2.2 with
  | some u => simp
  | none =>
    by_cases c : 12 ≤ ν.1.length ∨ nFind f pp ee ν.1 w ≠ none
    · rw [if_pos ⟨rfl, c⟩, if_pos (by rw [e]; exact c)]; rfl
    · rw [if_neg (fun z => c z.2), if_neg (by rw [e]; exact c)]; rfl
theorem nUse_3 (w : Nat) (ν : nSt) : (nUse f pp ee w ν).2.2 = nHd ν.2.2 (usW (cFd f pp ee) w ν.1) := by
  unfold nUse usW cFd nHd nBad
  cases h1 : nFind f pp ee ν.1 w with
  | none =>
    rw [if_pos rfl, if_neg (by simp)]
    cases h : ν.2.2 with
    | none => rfl
    | some u => simp only [h]; rfl
  | some u =>
    rw [if_neg (by simp), if_pos (by simp)]
    cases ν.2.2 <;> rfl
theorem nPs_3 : ∀ (ps : List tP) (ν : nSt), (nPs f pp ee ps ν).2.2 = nHd ν.2.2 (plW (cFd f pp ee) ν.1 (sEv ps))
  | [], ν => (nHd_nil _).symm
  | p :: ps, ν => by
    have h := nPs_3 ps (nPt f pp ee p ν)
    have h1 := nPt_12 (f := f) (pp := pp) (ee := ee) p ν
    show (nPs f pp ee ps (nPt f pp ee p ν)).2.2 = _
    rw [h, h1.1, sEv_cons]
    have e : (nPt f pp ee p ν).2.2 = nHd ν.2.2 (plW (cFd f pp ee) ν.1 (sEv [p])) := by
      unfold nPt sEv sNm
      by_cases c : p.1 = 0
      · rw [if_pos c, List.filter_cons_of_neg (by simp [c])]
        exact (nHd_nil _).symm
      · rw [if_neg c, List.filter_cons_of_pos (by simp; omega), nUse_3]
        show _ = nHd ν.2.2 (usW (cFd f pp ee) p.2.2 ν.1 ++ [])
        rw [List.append_nil]
    rw [e, nHd_ap]
    unfold plW
    rw [List.flatMap_append]
theorem nCt_3 : ∀ (t : tT) (ν : nSt), (nCt f pp ee t ν).2.2 = nHd ν.2.2 (plW (cFd f pp ee) ν.1 (cEv t))
  | .leaf, ν => (nHd_nil _).symm
  | .inner g d _ a b, ν => by
    unfold nCt cEv
    by_cases c : g = 24
    · rw [if_pos c, if_pos c, nUse_3]
      show _ = nHd ν.2.2 (usW (cFd f pp ee) d.1 ν.1 ++ [])
      rw [List.append_nil]
    rw [if_neg c, if_neg c]
    by_cases c2 : g = 25
    · rw [if_pos c2, if_pos c2, nPs_3, nPs_3, (nPs_12 _ _).1, nHd_ap]
      unfold plW
      rw [List.flatMap_append]
    · rw [if_neg c2, if_neg c2, nCt_3 b, nCt_3 a, nCt_1, nHd_ap]
      unfold plW
      rw [List.flatMap_append]
theorem nPar_3 : ∀ (q w : Nat) (ν : nSt), (nPar f pp ee q w ν).2.2 = nHd ν.2.2 (paW (cFd f pp ee) q w ν.1)
  | 0, _, ν => (nHd_nil _).symm
  | q + 1, w, ν => by
    unfold nPar paW
    rw [nPar_3 q]
    have e1 : (nCnt w (nTell f pp ee w ν)).1 = ν.1 ++ [w] := by show (nTell f pp ee w ν).1 ++ [w] = _; rw [(nTell_12 w ν).1]
    rw [e1, show (nCnt w (nTell f pp ee w ν)).2.2 = (nTell f pp ee w ν).2.2 from rfl, nTell_3, nHd_ap]
/-- **NAMES' fault behind a tree: its first wrong one** -/
theorem nT_3 : ∀ (t : tT) (ν : nSt), (nT f pp ee t ν).2.2 = nHd ν.2.2 (tWr (cFd f pp ee) t ν.1)
  | .leaf, ν => (nHd_nil _).symm
  | .inner g d _ a b, ν => by
    have Ia := nT_3 a
    have Ib := nT_3 b
    unfold nT tWr
    by_cases c1 : g = 1
    · rw [if_pos c1, if_pos c1]
      have e0 := nTell_12 (f := f) (pp := pp) (ee := ee) (d.1 + 1) ν
      have e1 : (nCnt (d.1 + 1) (nT f pp ee a (nTell f pp ee (d.1 + 1) ν))).1 = ν.1 ++ [d.1 + 1] := by
        show (nT f pp ee a (nTell f pp ee (d.1 + 1) ν)).1 ++ _ = _
        rw [(nT_12 _ _).1, e0.1]
      show (nT f pp ee b (nCnt (d.1 + 1) (nT f pp ee a (nTell f pp ee (d.1 + 1) ν)))).2.2 = _
      rw [Ib, e1, show (nCnt (d.1 + 1) (nT f pp ee a (nTell f pp ee (d.1 + 1) ν))).2.2 = (nT f pp ee a (nTell f pp ee (d.1 + 1) ν)).2.2 from rfl, Ia, e0.1, nTell_3, nHd_ap, nHd_ap]
    rw [if_neg c1, if_neg c1]
    by_cases c2 : g = 2
    · rw [if_pos c2, if_pos c2]
      have p1 := nPar_12 (f := f) (pp := pp) (ee := ee) 1 (d.1 + 2) ν
      have p2 := nPar_12 (f := f) (pp := pp) (ee := ee) d.2.1 (d.1 + 3) (nPar f pp ee 1 (d.1 + 2) ν)
      have o1 : (nOff d.2.1 (nT f pp ee a (nPar f pp ee d.2.1 (d.1 + 3) (nPar f pp ee 1 (d.1 + 2) ν)))).1 = ν.1 ++ [d.1 + 2] := nOff_1 (l := List.range' (d.1 + 3) d.2.1) (by rw [(nT_12 _ _).1, p2.1, p1.1]; rfl) (List.length_range' ..)
      have e2 : (nPar f pp ee d.2.1 (d.1 + 3) (nPar f pp ee 1 (d.1 + 2) ν)).1 = ν.1 ++ ([d.1 + 2] ++ List.range' (d.1 + 3) d.2.1) := by rw [p2.1, p1.1, List.append_assoc]; rfl
      show (nT f pp ee b (nOff d.2.1 (nT f pp ee a (nPar f pp ee d.2.1 (d.1 + 3) (nPar f pp ee 1 (d.1 + 2) ν))))).2.2 = _
      rw [Ib, o1, show (nOff d.2.1 (nT f pp ee a (nPar f pp ee d.2.1 (d.1 + 3) (nPar f pp ee 1 (d.1 + 2) ν)))).2.2 = (nT f pp ee a (nPar f pp ee d.2.1 (d.1 + 3) (nPar f pp ee 1 (d.1 + 2) ν))).2.2 from rfl, Ia, e2, nPar_3, p1.1, nPar_3, nHd_ap, nHd_ap, nHd_ap]
      rw [show paW (cFd f pp ee) 1 (d.1 + 2) ν.1 = tlW (cFd f pp ee) (d.1 + 2) ν.1 ++ [] from rfl, List.append_nil, List.append_assoc]
      rfl
    rw [if_neg c2, if_neg c2]
    by_cases c3 : g = 3
    · rw [if_pos c3, if_pos c3]
      have p1 := nPar_12 (f := f) (pp := pp) (ee := ee) 1 (d.1 + 1) ν
      show (nT f pp ee a (nPar f pp ee 1 (d.1 + 1) ν)).2.2 = _
      rw [Ia, p1.1, nPar_3, nHd_ap]
      show nHd ν.2.2 ((tlW (cFd f pp ee) (d.1 + 1) ν.1 ++ []) ++ _) = _
      rw [List.append_nil]
      rfl
    rw [if_neg c3, if_neg c3]
    by_cases c4 : g = 4 ∨ g = 5
    · rw [if_pos c4, if_pos c4, Ib, nCt_1, nCt_3, nHd_ap]
    rw [if_neg c4, if_neg c4]
    by_cases c6 : g = 6
    · rw [if_pos c6, if_pos c6, Ia, nPs_3, nPs_3, nUse_3]
      simp only [(nPs_12 _ _).1, (nUse_12 _ _).1, nHd_ap, List.append_assoc]
    rw [if_neg c6, if_neg c6]
    by_cases c14 : g = 14
    · rw [if_pos c14, if_pos c14, nPs_3, nUse_3, (nUse_12 _ _).1, nHd_ap]
    rw [if_neg c14, if_neg c14]
    by_cases c15 : g = 15
    · rw [if_pos c15, if_pos c15, Ia, nUse_3, (nUse_12 _ _).1, nHd_ap]
    rw [if_neg c15, if_neg c15]
    by_cases c18 : g = 18
    · rw [if_pos c18, if_pos c18, nUse_3, nPs_3, (nPs_12 _ _).1, nHd_ap]
    rw [if_neg c18, if_neg c18]
    by_cases c19 : g = 19
    · rw [if_pos c19, if_pos c19]
      have p1 := nPar_12 (f := f) (pp := pp) (ee := ee) 2 d.2.1 (nT f pp ee a (nUse f pp ee (d.1 + 1) ν))
      show (nT f pp ee b (nPar f pp ee 2 d.2.1 (nT f pp ee a (nUse f pp ee (d.1 + 1) ν)))).2.2 = _
      rw [Ib, p1.1, nPar_3, Ia, nUse_3]
      simp only [(nT_12 _ _).1, (nUse_12 _ _).1, nHd_ap, List.append_assoc]
      rfl
    rw [if_neg c19, if_neg c19, Ib, Ia, nPs_3, nPs_3]
    simp only [(nT_12 _ _).1, (nPs_12 _ _).1, nHd_ap, List.append_assoc]
end WRN
