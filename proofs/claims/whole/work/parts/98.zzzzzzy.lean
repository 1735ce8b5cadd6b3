/-! forms: NAMES that count, TEMPLATES, the least place -/
/-- at most 12 count everywhere, all of them told -/
def rEv (L : List Nat) : tT → List Nat → Prop
  | .leaf, _ => True
  | .inner g d _ a b, env => (env.length ≤ 12 ∧ ∀ u, u ∈ env → u ∈ L) ∧
    (if g = 1 then rEv L a env ∧ rEv L b (env ++ [d.1 + 1])
    else if g = 2 then rEv L a (env ++ ([d.1 + 2] ++ List.range' (d.1 + 3) d.2.1)) ∧ rEv L b (env ++ [d.1 + 2])
    else if g = 3 then rEv L a (env ++ [d.1 + 1])
    else if g = 4 ∨ g = 5 then rEv L b env
    else if g = 19 then rEv L a env ∧ rEv L b (env ++ [d.2.1, d.2.1 + 1])
    else rEv L a env ∧ rEv L b env)
section REN
variable {f pp ee kk : Nat → Int32} {L : List Nat} {cnt : Nat}
theorem rEv.of : ∀ (t : tT) (env : List Nat), tGd kk cnt t → eD f pp ee env → (∀ u, u ∈ env → u ∈ L) → (∀ u, u ∈ tW t → u ∈ L) → tWr (kFd f pp ee) t env = [] → rEv L t env
  | .leaf, _, _, _, _, _, _ => trivial
  | .inner g d _ a b, env, hg, he, hL, hW, hw => by
    obtain ⟨-, -, ⟨-, g14, g6⟩, ga, gb⟩ := hg
    have Ia := fun env h1 h2 h3 h4 => rEv.of a env ga h1 h2 h3 h4
    have Ib := fun env h1 h2 h3 h4 => rEv.of b env gb h1 h2 h3 h4
    have ap : ∀ (env : List Nat) (w : Nat), (∀ u, u ∈ env → u ∈ L) → w ∈ L → ∀ u, u ∈ env ++ [w] → u ∈ L := fun env w h1 h2 u hu => (List.mem_append.mp hu).elim (h1 u) (fun z => by rw [List.mem_singleton.mp z]; exact h2)
    refine ⟨⟨he.1, hL⟩, ?_⟩
    unfold tWr at hw
    unfold tW at hW
    by_cases c1 : g = 1
    · rw [if_pos c1] at hw hW ⊢
      obtain ⟨w1, hw⟩ := List.append_eq_nil_iff.mp hw
      obtain ⟨w2, w3⟩ := List.append_eq_nil_iff.mp hw
      exact ⟨Ia env he hL (fun u hu => hW u (List.mem_cons_of_mem _ (List.mem_append_left _ hu))) w2, Ib _ (he.ap w1).1 (ap env _ hL (hW _ (List.mem_cons_self ..))) (fun u hu => hW u (List.mem_cons_of_mem _ (List.mem_append_right _ hu))) w3⟩
    rw [if_neg c1] at hw hW ⊢
    by_cases c2 : g = 2
    · rw [if_pos c2] at hw hW ⊢
      obtain ⟨w1, hw⟩ := List.append_eq_nil_iff.mp hw
      obtain ⟨w0, w1⟩ := List.append_eq_nil_iff.mp w1
      obtain ⟨w2, w3⟩ := List.append_eq_nil_iff.mp hw
      have e1 := (he.ap w0).1
      have l1 := ap env _ hL (hW _ (List.mem_cons_self ..))
      refine ⟨?_, Ib _ e1 l1 (fun u hu => hW u (List.mem_cons_of_mem _ (List.mem_append_right _ (List.mem_append_right _ hu)))) w3⟩
      rw [← List.append_assoc] at w2 ⊢
      refine Ia _ (eD.pa d.2.1 (d.1 + 3) _ e1 w1) (fun u hu => ?_) (fun u hu => hW u (List.mem_cons_of_mem _ (List.mem_append_right _ (List.mem_append_left _ hu)))) w2
      rcases List.mem_append.mp hu with z | z
      · exact l1 u z
      · exact hW u (List.mem_cons_of_mem _ (List.mem_append_left _ z))
    rw [if_neg c2] at hw hW ⊢
    by_cases c3 : g = 3
    · rw [if_pos c3] at hw hW ⊢
      obtain ⟨w1, w2⟩ := List.append_eq_nil_iff.mp hw
      exact Ia _ (he.ap w1).1 (ap env _ hL (hW _ (List.mem_cons_self ..))) (fun u hu => hW u (List.mem_cons_of_mem _ hu)) w2
    rw [if_neg c3] at hw hW ⊢
    by_cases c4 : g = 4 ∨ g = 5
    · rw [if_pos c4] at hw hW ⊢
      obtain ⟨w1, w2⟩ := List.append_eq_nil_iff.mp hw
      exact Ib _ he hL hW w2
    rw [if_neg c4] at hw hW ⊢
    by_cases c6 : g = 6
    · rw [if_pos c6] at hw
      rw [if_pos (Or.inl c6)] at hW
      rw [if_neg (by omega)]
      obtain ⟨-, hw⟩ := List.append_eq_nil_iff.mp hw
      obtain ⟨-, hw⟩ := List.append_eq_nil_iff.mp hw
      obtain ⟨-, w2⟩ := List.append_eq_nil_iff.mp hw
      have := g6 (Or.inr (Or.inl c6))
      subst this
      exact ⟨Ia _ he hL hW w2, trivial⟩
    rw [if_neg c6] at hw
    by_cases c14 : g = 14 ∨ g = 18
    · rw [if_neg (by omega)]
      obtain ⟨rfl, rfl⟩ := g14 c14
      exact ⟨trivial, trivial⟩
    rw [if_neg (show ¬ g = 14 by omega)] at hw
    by_cases c15 : g = 15
    · rw [if_pos c15] at hw
      rw [if_pos (Or.inr c15)] at hW
      rw [if_neg (by omega)]
      obtain ⟨-, w2⟩ := List.append_eq_nil_iff.mp hw
      have := g6 (Or.inr (Or.inr c15))
      subst this
      exact ⟨Ia _ he hL hW w2, trivial⟩
    rw [if_neg c15, if_neg (show ¬ g = 18 by omega)] at hw
    rw [if_neg (show ¬ (g = 6 ∨ g = 15) by omega), if_neg c14] at hW
    by_cases c19 : g = 19
    · rw [if_pos c19] at hw hW ⊢
      obtain ⟨-, hw⟩ := List.append_eq_nil_iff.mp hw
      obtain ⟨w2, hw⟩ := List.append_eq_nil_iff.mp hw
      obtain ⟨w3, w4⟩ := List.append_eq_nil_iff.mp hw
      have e2 := eD.pa 2 d.2.1 env he w3
      have er : List.range' d.2.1 2 = [d.2.1, d.2.1 + 1] := rfl
      rw [er] at e2
      refine ⟨Ia _ he hL (fun u hu => hW u (List.mem_append_left _ hu)) w2, Ib _ e2 (fun u hu => ?_) (fun u hu => hW u (List.mem_append_right _ (List.mem_append_right _ hu))) w4⟩
      rcases List.mem_append.mp hu with z | z
      · exact hL u z
      · exact hW u (List.mem_append_right _ (List.mem_append_left _ z))
    rw [if_neg c19] at hw hW ⊢
    obtain ⟨-, hw⟩ := List.append_eq_nil_iff.mp hw
    obtain ⟨-, hw⟩ := List.append_eq_nil_iff.mp hw
    obtain ⟨w1, w2⟩ := List.append_eq_nil_iff.mp hw
    exact ⟨Ia _ he hL (fun u hu => hW u (List.mem_append_left _ hu)) w1, Ib _ he hL (fun u hu => hW u (List.mem_append_right _ hu)) w2⟩
end REN
/-- TEMPLATES: q.1 CASES so far, at most 61; q.2 the least place -/
def fW (y : tY) (pl : Int32) (q : Nat × Int32) : Nat × Int32 := if q.1 ≤ 60 then (if q.1 + yLv y ≤ 60 then (q.1 + yLv y, q.2) else (61, fMin q.2 pl)) else q
/-- and the place where there are too many -/
def fVo (y : tY) (pl : Int32) (q : Nat × Int32) : Nat × Int32 := if q.1 ≤ 60 then (if q.1 + yLv y ≤ 60 then (q.1 + yLv y, q.2) else (61, pl)) else q
section RFO
variable (f pp ee : Nat → Int32) (tE tN : Nat → tY)
/-- formsOf(), as the reference does it -/
def rFo : tT → List Nat → Int32 → Nat × Int32 → Nat × Int32
  | .leaf, _, _, q => q
  | .inner g d _ a b, env, cn, q =>
    if g = 1 then rFo b (env ++ [d.1 + 1]) cn (rFo a env cn (fW (tE d.1) (pp d.1) q))
    else if g = 2 then rFo b (env ++ [d.1 + 2]) cn (rFo a (env ++ ([d.1 + 2] ++ List.range' (d.1 + 3) d.2.1)) cn (fW (tN (d.1 + 2)) (pp d.1) (fW (tE d.1) (pp d.1) q)))
    else if g = 3 then rFo a (env ++ [d.1 + 1]) cn (fW (tE d.1) (pp d.1) q)
    else if g = 4 ∨ g = 5 then
      (fun q1 : Nat × Int32 => (fun q2 : Nat × Int32 => rFo b env (cn + nI (tAt a)) (q2.1, fCt pp (nFind f pp ee env) a q2.2)) (if cn + nI (tAt a) ≤ 6 then q1 else (q1.1, fMin q1.2 (pp (d.1 + 1))))) (if g = 4 then fW (tE d.1) (pp d.1) q else q)
    else if g = 19 then rFo b (env ++ [d.2.1, d.2.1 + 1]) cn (rFo a env cn (fW (tE d.1) (pp d.1) q))
    else if g = 33 then rFo b env cn (if d.2.1 = 1 ∧ ¬ sTe (sL (nFind f pp ee env) d.2.2.2.1.2) = true then (q.1, fMin q.2 (pp d.1)) else q)
    else rFo b env cn (rFo a env cn q)
/-- where there are too many TEMPLATES -/
def tOv : tT → Nat × Int32 → Nat × Int32
  | .leaf, q => q
  | .inner g d _ a b, q =>
    if g = 1 ∨ g = 19 then tOv b (tOv a (fVo (tE d.1) (pp d.1) q))
    else if g = 2 then tOv b (tOv a (fVo (tN (d.1 + 2)) (pp d.1) (fVo (tE d.1) (pp d.1) q)))
    else if g = 3 then tOv a (fVo (tE d.1) (pp d.1) q)
    else if g = 4 then tOv b (fVo (tE d.1) (pp d.1) q)
    else if g = 5 then tOv b q
    else if g = 33 then tOv b q
    else tOv b (tOv a q)
end RFO
/-- a place, or none -/
def vP (v : Int32) : Prop := v = -1 ∨ 0 ≤ v
section FMN
theorem vP.t {v : Int32} (h : vP v) : v.toInt = -1 ∨ 0 ≤ v.toInt := by
  rcases h with h | h
  · rw [h]; exact Or.inl rfl
  · rw [Int32.le_iff_toInt_le] at h; exact Or.inr h
theorem fMin_t (a b : Int32) : (fMin a b).toInt = if b.toInt < 0 then a.toInt else if a.toInt < 0 then b.toInt else if a.toInt ≤ b.toInt then a.toInt else b.toInt := by
  unfold fMin
  have h0 : ∀ v : Int32, v < 0 ↔ v.toInt < 0 := fun v => Int32.lt_iff_toInt_lt
  have h1 : a ≤ b ↔ a.toInt ≤ b.toInt := Int32.le_iff_toInt_le
  by_cases c1 : b < 0
  · rw [if_pos c1, if_pos ((h0 b).mp c1)]
  · rw [if_neg c1, if_neg (fun z => c1 ((h0 b).mpr z))]
    by_cases c2 : a < 0
    · rw [if_pos c2, if_pos ((h0 a).mp c2)]
    · rw [if_neg c2, if_neg (fun z => c2 ((h0 a).mpr z))]
      by_cases c3 : a ≤ b
      · rw [if_pos c3, if_pos (h1.mp c3)]
      · rw [if_neg c3, if_neg (fun z => c3 (h1.mpr z))]
theorem fMin_vP {a b : Int32} (ha : vP a) (hb : vP b) : vP (fMin a b) := by
  unfold fMin
  split
  · exact ha
  · split
    · exact hb
    · split
      · exact ha
      · exact hb
theorem fMin_n (a : Int32) : fMin a (-1) = a := if_pos (by decide)
theorem fMin_sw {a b c : Int32} (ha : vP a) (hb : vP b) (hc : vP c) : fMin (fMin a b) c = fMin (fMin a c) b := by
  rw [← Int32.toInt_inj]
  simp only [fMin_t]
  have := ha.t
  have := hb.t
  have := hc.t
  repeat' split
  all_goals omega
theorem fCt_vP {pp : Nat → Int32} (hp : ∀ w, 0 ≤ pp w) (ns : Nat → Option Nat) : ∀ (t : tT) (ff : Int32), vP ff → vP (fCt pp ns t ff)
  | .leaf, _, h => h
  | .inner g d _ a b, ff, h => by
    unfold fCt
    split
    · split
      · exact h
      · exact fMin_vP h (Or.inr (hp _))
    · exact fCt_vP hp ns b _ (fCt_vP hp ns a _ h)
theorem fCt_sw {pp : Nat → Int32} (hp : ∀ w, 0 ≤ pp w) (ns : Nat → Option Nat) {o : Int32} (ho : vP o) : ∀ (t : tT) (ff : Int32), vP ff → fCt pp ns t (fMin ff o) = fMin (fCt pp ns t ff) o
  | .leaf, _, _ => rfl
  | .inner g d _ a b, ff, h => by
    unfold fCt
    split
    · split
      · rfl
      · exact fMin_sw h ho (Or.inr (hp _))
    · rw [fCt_sw hp ns ho a ff h, fCt_sw hp ns ho b _ (fCt_vP hp ns a ff h)]
end FMN
section RFE
variable {f pp ee : Nat → Int32} {tE tN : Nat → tY}
theorem fE_vP (hp : ∀ w, 0 ≤ pp w) : ∀ (t : tT) (env : List Nat) (cn ff : Int32), vP ff → vP (fE f pp ee t env cn ff)
  | .leaf, _, _, _, h => h
  | .inner g d _ a b, env, cn, ff, h => by
    unfold fE
    split
    · exact fE_vP hp b _ _ _ (fE_vP hp a _ _ _ h)
    · split
      · exact fE_vP hp b _ _ _ (fE_vP hp a _ _ _ h)
      · split
        · exact fE_vP hp a _ _ _ h
        · split
          · refine fE_vP hp b _ _ _ ?_
            split
            · exact fCt_vP hp _ a _ h
            · exact fMin_vP (fCt_vP hp _ a _ h) (Or.inr (hp _))
          · split
            · exact fE_vP hp b _ _ _ (fE_vP hp a _ _ _ h)
            · split
              · refine fE_vP hp b _ _ _ ?_
                split
                · exact fMin_vP h (Or.inr (hp _))
                · exact h
              · exact fE_vP hp b _ _ _ (fE_vP hp a _ _ _ h)
/-- the least place and the first place of too many -/
def fOk (c : Nat) (ff o : Int32) : Prop := vP ff ∧ vP o ∧ (c ≤ 60 → o = -1)
theorem fW_V (hp : ∀ w, 0 ≤ pp w) (y : tY) (w : Nat) {c : Nat} {ff o : Int32} (h : fOk c ff o) : fW y (pp w) (c, fMin ff o) = ((fVo y (pp w) (c, o)).1, fMin ff (fVo y (pp w) (c, o)).2) ∧ fOk (fVo y (pp w) (c, o)).1 ff (fVo y (pp w) (c, o)).2 := by
  obtain ⟨h1, h2, h3⟩ := h
  unfold fW fVo
  by_cases c1 : c ≤ 60
  · rw [if_pos c1, if_pos c1]
    have e := h3 c1
    subst e
    by_cases c2 : c + yLv y ≤ 60
    · rw [if_pos c2, if_pos c2]
      exact ⟨rfl, h1, h2, fun _ => rfl⟩
    · rw [if_neg c2, if_neg c2]
      refine ⟨?_, h1, Or.inr (hp w), fun z => by have z : 61 ≤ 60 := z; omega⟩
      show (61, fMin (fMin ff (-1)) (pp w)) = (61, fMin ff (pp w))
      rw [fMin_n]
  · rw [if_neg c1, if_neg c1]
    exact ⟨rfl, h1, h2, h3⟩
/-- **formsOf() is the parser's least place and the first of too many** -/
theorem rFo_eq {kk : Nat → Int32} {cnt : Nat} (hp : ∀ w, 0 ≤ pp w) : ∀ (t : tT) (env : List Nat) (cn : Int32) (c : Nat) (ff o : Int32), tGd kk cnt t → fOk c ff o → rFo f pp ee tE tN t env cn (c, fMin ff o) = ((tOv pp tE tN t (c, o)).1, fMin (fE f pp ee t env cn ff) (tOv pp tE tN t (c, o)).2) ∧ fOk (tOv pp tE tN t (c, o)).1 (fE f pp ee t env cn ff) (tOv pp tE tN t (c, o)).2
  | .leaf, _, _, _, _, _, _, h => ⟨rfl, h⟩
  | .inner g d _ a b, env, cn, c, ff, o, hg, h => by
    obtain ⟨-, -, ⟨-, g14, g6⟩, ga, gb⟩ := hg
    have Ia := fun env cn c ff o => rFo_eq hp a env cn c ff o ga
    have Ib := fun env cn c ff o => rFo_eq hp b env cn c ff o gb
    have two : ∀ (env env' : List Nat) (q : Nat × Int32), fOk q.1 ff q.2 → rFo f pp ee tE tN b env' cn (rFo f pp ee tE tN a env cn (q.1, fMin ff q.2)) = ((tOv pp tE tN b (tOv pp tE tN a q)).1, fMin (fE f pp ee b env' cn (fE f pp ee a env cn ff)) (tOv pp tE tN b (tOv pp tE tN a q)).2) ∧ fOk (tOv pp tE tN b (tOv pp tE tN a q)).1 (fE f pp ee b env' cn (fE f pp ee a env cn ff)) (tOv pp tE tN b (tOv pp tE tN a q)).2 := fun env env' q hq => by
      obtain ⟨a1, a2⟩ := Ia env cn q.1 ff q.2 hq
      obtain ⟨b1, b2⟩ := Ib env' cn _ _ _ a2
      rw [a1]
      exact ⟨b1, b2⟩
    unfold rFo tOv fE
    by_cases c1 : g = 1
    · rw [if_pos c1, if_pos (Or.inl c1), if_pos c1]
      obtain ⟨e1, e2⟩ := fW_V hp (tE d.1) d.1 h
      rw [e1]
      exact two env _ _ e2
    rw [if_neg c1, if_neg c1]
    by_cases c2 : g = 2
    · rw [if_pos c2, if_neg (by omega), if_pos c2, if_pos c2]
      obtain ⟨e1, e2⟩ := fW_V hp (tE d.1) d.1 h
      rw [e1]
      obtain ⟨e3, e4⟩ := fW_V hp (tN (d.1 + 2)) d.1 e2
      rw [e3]
      exact two _ _ _ e4
    rw [if_neg c2, if_neg c2]
    by_cases c3 : g = 3
    · rw [if_pos c3, if_neg (show ¬ (g = 1 ∨ g = 19) by omega), if_neg c2, if_pos c3, if_pos c3]
      obtain ⟨e1, e2⟩ := fW_V hp (tE d.1) d.1 h
      rw [e1]
      exact Ia _ cn _ ff _ e2
    rw [if_neg c3, if_neg c3]
    by_cases c4 : g = 4 ∨ g = 5
    · rw [if_pos c4, if_pos c4, if_neg (show ¬ (g = 1 ∨ g = 19) by omega), if_neg c2, if_neg c3]
      have go : ∀ q : Nat × Int32, fOk q.1 ff q.2 → (fun q2 : Nat × Int32 => rFo f pp ee tE tN b env (cn + nI (tAt a)) (q2.1, fCt pp (nFind f pp ee env) a q2.2)) (if cn + nI (tAt a) ≤ 6 then (q.1, fMin ff q.2) else ((q.1, fMin ff q.2).1, fMin (q.1, fMin ff q.2).2 (pp (d.1 + 1)))) = ((tOv pp tE tN b q).1, fMin (fE f pp ee b env (cn + nI (tAt a)) (if cn + nI (tAt a) ≤ 6 then fCt pp (nFind f pp ee env) a ff else fMin (fCt pp (nFind f pp ee env) a ff) (pp (d.1 + 1)))) (tOv pp tE tN b q).2) ∧ fOk (tOv pp tE tN b q).1 (fE f pp ee b env (cn + nI (tAt a)) (if cn + nI (tAt a) ≤ 6 then fCt pp (nFind f pp ee env) a ff else fMin (fCt pp (nFind f pp ee env) a ff) (pp (d.1 + 1)))) (tOv pp tE tN b q).2 := fun q hq => by
        obtain ⟨h1, h2, h3⟩ := hq
        have v1 := fCt_vP hp (nFind f pp ee env) a ff h1
        by_cases c6 : cn + nI (tAt a) ≤ 6
        · rw [if_pos c6, if_pos c6]
          show rFo f pp ee tE tN b env (cn + nI (tAt a)) (q.1, fCt pp (nFind f pp ee env) a (fMin ff q.2)) = _ ∧ _
          rw [fCt_sw hp _ h2 a ff h1]
          exact Ib env _ q.1 _ q.2 ⟨v1, h2, h3⟩
        · rw [if_neg c6, if_neg c6]
          show rFo f pp ee tE tN b env (cn + nI (tAt a)) (q.1, fCt pp (nFind f pp ee env) a (fMin (fMin ff q.2) (pp (d.1 + 1)))) = _ ∧ _
          rw [fMin_sw h1 h2 (Or.inr (hp _)), fCt_sw hp _ h2 a _ (fMin_vP h1 (Or.inr (hp _))), fCt_sw hp _ (Or.inr (hp _)) a ff h1]
          exact Ib env _ q.1 _ q.2 ⟨fMin_vP v1 (Or.inr (hp _)), h2, h3⟩
      by_cases c44 : g = 4
      · rw [if_pos c44, if_pos c44]
        obtain ⟨e1, e2⟩ := fW_V hp (tE d.1) d.1 h
        rw [e1]
        exact go _ e2
      · rw [if_neg c44, if_neg c44, if_pos (show g = 5 by omega)]
        exact go (c, o) h
    rw [if_neg c4, if_neg c4]
    by_cases c19 : g = 19
    · rw [if_pos c19, if_pos (Or.inr c19), if_neg c2, if_neg c3, if_pos c19]
      obtain ⟨e1, e2⟩ := fW_V hp (tE d.1) d.1 h
      rw [e1]
      exact two env _ _ e2
    rw [if_neg c19, if_neg c19, if_neg (show ¬ (g = 1 ∨ g = 19) by omega), if_neg c2, if_neg c3, if_neg (show ¬ g = 4 by omega), if_neg (show ¬ g = 5 by omega)]
    by_cases c33 : g = 33
    · rw [if_pos c33, if_pos c33, if_pos c33]
      obtain ⟨h1, h2, h3⟩ := h
      by_cases c5 : d.2.1 = 1 ∧ ¬ sTe (sL (nFind f pp ee env) d.2.2.2.1.2) = true
      · rw [if_pos c5, if_pos c5]
        show rFo f pp ee tE tN b env cn (c, fMin (fMin ff o) (pp d.1)) = _ ∧ _
        rw [fMin_sw h1 h2 (Or.inr (hp _))]
        exact Ib env cn c _ o ⟨fMin_vP h1 (Or.inr (hp _)), h2, h3⟩
      · rw [if_neg c5, if_neg c5]
        exact Ib env cn c ff o ⟨h1, h2, h3⟩
    rw [if_neg c33, if_neg c33, if_neg c33]
    exact two env env (c, o) h
end RFE
