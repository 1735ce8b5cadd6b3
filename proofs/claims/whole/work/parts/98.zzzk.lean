/-! the NAMES of a tree in the order of the text -/
/-- the words of an S that are NAMES -/
def sEv (ps : List tP) : List Nat := (sNm ps).map (fun p => p.2.2)
/-- the words of a C that are NAMES -/
def cEv : tT → List Nat
  | .leaf => []
  | .inner g d _ a b => if g = 24 then [d.1] else if g = 25 then sEv d.2.2.2.1.2 ++ sEv d.2.2.2.2.2 else cEv a ++ cEv b
/-- the words of an E that are NAMES, told or used -/
def tEv : tT → List Nat
  | .leaf => []
  | .inner g d _ a b =>
    if g = 1 then [d.1 + 1] ++ (tEv a ++ tEv b)
    else if g = 2 then ([d.1 + 2] ++ List.range' (d.1 + 3) d.2.1) ++ (tEv a ++ tEv b)
    else if g = 3 then [d.1 + 1] ++ tEv a
    else if g = 4 ∨ g = 5 then cEv a ++ tEv b
    else if g = 6 then [d.1 + 1] ++ (sEv d.2.2.2.1.2 ++ (sEv d.2.2.2.2.2 ++ tEv a))
    else if g = 14 then [d.1] ++ sEv d.2.2.2.1.2
    else if g = 15 then [d.1] ++ tEv a
    else if g = 18 then sEv d.2.2.2.1.2 ++ [d.2.1]
    else if g = 19 then [d.1 + 1] ++ (tEv a ++ ([d.2.1, d.2.1 + 1] ++ tEv b))
    else sEv d.2.2.2.1.2 ++ (sEv d.2.2.2.2.2 ++ (tEv a ++ tEv b))
/-- in order, from i on, below j -/
def rgL (l : List Nat) (i j : Nat) : Prop := i ≤ j ∧ l.Pairwise (· < ·) ∧ ∀ w ∈ l, i ≤ w ∧ w < j
theorem rgL.nil {i j : Nat} (h : i ≤ j) : rgL [] i j := ⟨h, List.Pairwise.nil, fun w hw => by cases hw⟩
theorem rgL.one {w i j : Nat} (h1 : i ≤ w) (h2 : w < j) : rgL [w] i j := ⟨by omega, List.pairwise_singleton _ _, fun u hu => by rw [List.mem_singleton.mp hu]; exact ⟨h1, h2⟩⟩
theorem rgL.ap {l l' : List Nat} {i p q j : Nat} (h : rgL l i p) (h' : rgL l' q j) (hq : p ≤ q) : rgL (l ++ l') i j := by
  obtain ⟨a1, a2, a3⟩ := h
  obtain ⟨b1, b2, b3⟩ := h'
  refine ⟨by omega, List.pairwise_append.mpr ⟨a2, b2, fun x hx y hy => ?_⟩, fun w hw => ?_⟩
  · have := a3 x hx; have := b3 y hy; omega
  · rcases List.mem_append.mp hw with z | z
    · have := a3 w z; omega
    · have := b3 w z; omega
theorem rgL.mo {l : List Nat} {i j i' j' : Nat} (h : rgL l i j) (h1 : i' ≤ i) (h2 : j ≤ j') : rgL l i' j' := ⟨by have := h.1; omega, h.2.1, fun w hw => by have := h.2.2 w hw; omega⟩
theorem rgL.rg {w q i j : Nat} (h1 : i ≤ w) (h2 : w + q ≤ j) : rgL (List.range' w q) i j := by
  refine ⟨by omega, List.pairwise_lt_range' .., fun u hu => ?_⟩
  rw [List.mem_range'_1] at hu
  omega
section EVT
variable {kk : Nat → Int32} {T : Nat}
theorem sEv_cons (p : tP) (ps : List tP) : sEv (p :: ps) = sEv [p] ++ sEv ps := by
  unfold sEv sNm
  rw [← List.map_append, ← List.filter_append]
  rfl
theorem aPt_ev {g : Bool} {i j : Nat} {p : tP} (h : aPt kk g i = .inr (p, j)) : rgL (sEv [p]) i j := by
  obtain ⟨-, -, -, h1, h2⟩ := aPt_w h
  unfold sEv sNm
  by_cases c : 0 < p.1
  · rw [List.filter_cons_of_pos (by simpa using c)]
    exact rgL.one h1 h2
  · rw [List.filter_cons_of_neg (by simpa using c)]
    exact rgL.nil (by omega)
theorem aSL_ev : ∀ (t i : Nat) {ps : List tP} {j : Nat}, aSL kk t i = .inr (ps, j) → rgL (sEv ps) i j
  | 0, i, ps, j, h => by unfold aSL at h; cases h
  | t + 1, i, ps, j, h => by
    unfold aSL at h
    split at h
    · obtain ⟨p, j1, h1, h⟩ := on_inr h
      obtain ⟨ps', j2, h2, h⟩ := on_inr h
      injection h with h
      injection h with h3 h4
      subst h3
      subst h4
      rw [sEv_cons]
      exact ((aPt_ev h1).mo (Nat.le_succ i) (Nat.le_refl _)).ap (aSL_ev t j1 h2) (Nat.le_refl _)
    · injection h with h
      injection h with h3 h4
      subst h3
      subst h4
      exact rgL.nil (Nat.le_refl _)
theorem aSm_ev {i j : Nat} {s : tS} (h : aSm kk T i = .inr (s, j)) : rgL (sEv s.2) i j := by
  unfold aSm at h
  obtain ⟨p, j1, h1, h⟩ := on_inr h
  obtain ⟨ps, j2, h2, h⟩ := on_inr h
  injection h with h
  injection h with h3 h4
  subst h3
  subst h4
  show rgL (sEv (p :: ps)) i j2
  rw [sEv_cons]
  exact ((aPt_ev h1).mo (by split <;> omega) (Nat.le_refl _)).ap (aSL_ev T j1 h2) (Nat.le_refl _)
theorem aCm_ev {i j : Nat} {t : tT} (h : aCm kk T i = .inr (t, j)) : rgL (cEv t) i j := by
  unfold aCm at h
  obtain ⟨s, j1, h1, h⟩ := on_inr h
  have e1 := aSm_ev h1
  have l1 := (aSm_1 h1).2
  split at h
  · obtain ⟨s', j2, h2, h⟩ := on_inr h
    injection h with h
    injection h with h3 h4
    subst h3
    subst h4
    exact e1.ap (aSm_ev h2) (by omega)
  · split at h
    · injection h with h
      injection h with h3 h4
      subst h3
      subst h4
      exact rgL.one (Nat.le_refl _) l1
    · cases h
theorem cEv_30 (c cs : tT) : cEv (tN 30 0 0 0 s0 s0 c cs) = cEv c ++ cEv cs := rfl
theorem aCL_ev {k : Nat} {F : Nat → aR tT} (hF : ∀ i t j, F i = .inr (t, j) → rgL (cEv t) i j) : ∀ (t i : Nat) (x : tT) (j : Nat), aCL kk k F t i = .inr (x, j) → rgL (cEv x) i j
  | 0, i, x, j, h => by unfold aCL at h; cases h
  | t + 1, i, x, j, h => by
    unfold aCL at h
    split at h
    · obtain ⟨c, j1, h1, h⟩ := on_inr h
      obtain ⟨cs, j2, h2, h⟩ := on_inr h
      injection h with h
      injection h with h3 h4
      subst h3
      subst h4
      rw [cEv_30]
      exact ((hF _ _ _ h1).mo (Nat.le_succ _) (Nat.le_refl _)).ap (aCL_ev hF t j1 cs j2 h2) (Nat.le_refl _)
    · injection h with h
      injection h with h3 h4
      subst h3
      subst h4
      exact rgL.nil (Nat.le_refl _)
theorem cEv_mk (g : Nat) (hg : g = 20 ∨ g = 21) (c cs : tT) : cEv (tMk g c cs) = cEv c ++ cEv cs := by
  cases cs with
  | leaf => unfold tMk; exact (List.append_nil _).symm
  | inner z d u a b =>
    rcases hg with rfl | rfl <;> rfl
theorem aBo_ev {F : Nat → aR tT} (hF : ∀ i t j, F i = .inr (t, j) → rgL (cEv t) i j) (i : Nat) (t : tT) (j : Nat) (h : aBo kk T F i = .inr (t, j)) : rgL (cEv t) i j := by
  unfold aBo at h
  obtain ⟨c, j1, h1, h⟩ := on_inr h
  obtain ⟨cs, j2, h2, h⟩ := on_inr h
  injection h with h
  injection h with h3 h4
  subst h3
  subst h4
  rw [cEv_mk 21 (Or.inr rfl)]
  exact (hF _ _ _ h1).ap (aCL_ev hF T j1 cs j2 h2) (Nat.le_refl _)
theorem aEi_ev {F : Nat → aR tT} (hF : ∀ i t j, F i = .inr (t, j) → rgL (cEv t) i j) (i : Nat) (t : tT) (j : Nat) (h : aEi kk T F i = .inr (t, j)) : rgL (cEv t) i j := by
  unfold aEi at h
  obtain ⟨c, j1, h1, h⟩ := on_inr h
  obtain ⟨cs, j2, h2, h⟩ := on_inr h
  injection h with h
  injection h with h3 h4
  subst h3
  subst h4
  rw [cEv_mk 20 (Or.inl rfl)]
  exact (aBo_ev hF _ _ _ h1).ap (aCL_ev (aBo_ev hF) T j1 cs j2 h2) (Nat.le_refl _)
theorem aSi_ev : ∀ (k i : Nat) (t : tT) (j : Nat), aSi kk T k i = .inr (t, j) → rgL (cEv t) i j
  | 0, i, t, j, h => by unfold aSi at h; cases h
  | k + 1, i, t, j, h => by
    unfold aSi at h
    split at h
    · obtain ⟨c, j1, h1, h⟩ := on_inr h
      injection h with h
      injection h with h3 h4
      subst h3
      subst h4
      show rgL (cEv c ++ []) i j1
      rw [List.append_nil]
      exact (aSi_ev k _ _ _ h1).mo (Nat.le_succ _) (Nat.le_refl _)
    · split at h
      · obtain ⟨c, j1, h1, h⟩ := on_inr h
        obtain ⟨_, j2, h2, h⟩ := on_inr h
        injection h with h
        injection h with h3 h4
        subst h3
        subst h4
        exact (aEi_ev (aSi_ev k) _ _ _ h1).mo (Nat.le_succ _) (by have := (aMs_inr h2).2; omega)
      · split at h
        · injection h with h
          injection h with h3 h4
          subst h3
          subst h4
          exact rgL.nil (Nat.le_succ _)
        · split at h
          · injection h with h
            injection h with h3 h4
            subst h3
            subst h4
            exact rgL.nil (Nat.le_succ _)
          · exact aCm_ev h
theorem aA1_ev {G : Nat → aR tT} (hG : ∀ i t j, G i = .inr (t, j) → rgL (tEv t) i j) {i j : Nat} {a : tT → tT} (h : aA1 kk T G i = .inr (a, j)) : rgL (tEv (a tZ)) i j ∧ i < j ∧ ∀ r, tEv (a r) = tEv (a tZ) ++ tEv r := by
  unfold aA1 at h
  split at h
  · injection h with h
    injection h with h3 h4
    subst h3
    subst h4
    exact ⟨rgL.nil (Nat.le_succ _), Nat.lt_succ_self _, fun r => rfl⟩
  · split at h
    · injection h with h
      injection h with h3 h4
      subst h3
      subst h4
      exact ⟨rgL.nil (Nat.le_succ _), Nat.lt_succ_self _, fun r => rfl⟩
    · split at h
      · split at h
        · obtain ⟨e, j1, h1, h⟩ := on_inr h
          obtain ⟨_, j2, h2, h⟩ := on_inr h
          injection h with h
          injection h with h3 h4
          subst h3
          subst h4
          have w := (aMs_inr h2).2
          have r1 := hG _ _ _ h1
          refine ⟨?_, by have := r1.1; omega, fun r => ?_⟩
          · show rgL ([] ++ ([] ++ (tEv e ++ []))) i j2
            rw [List.append_nil, List.nil_append, List.nil_append]
            exact r1.mo (Nat.le_succ _) (by omega)
          · show [] ++ ([] ++ (tEv e ++ tEv r)) = [] ++ ([] ++ (tEv e ++ [])) ++ tEv r
            simp
        · obtain ⟨s, j1, h1, h⟩ := on_inr h
          obtain ⟨_, j2, h2, h⟩ := on_inr h
          injection h with h
          injection h with h3 h4
          subst h3
          subst h4
          have w := (aMs_inr h2).2
          have r1 := aSm_ev h1
          refine ⟨?_, by have := r1.1; omega, fun r => ?_⟩
          · show rgL (sEv s.2 ++ ([] ++ ([] ++ []))) i j2
            simp only [List.append_nil]
            exact r1.mo (Nat.le_succ _) (by omega)
          · show sEv s.2 ++ ([] ++ ([] ++ tEv r)) = sEv s.2 ++ ([] ++ ([] ++ [])) ++ tEv r
            simp
      · injection h with h
        injection h with h3 h4
        subst h3
        subst h4
        refine ⟨?_, Nat.lt_succ_self _, fun r => ?_⟩
        · show rgL (sEv [(if aIs kk 2 i = true then 0 else 1, false, i)] ++ ([] ++ ([] ++ []))) i (i + 1)
          simp only [List.append_nil]
          unfold sEv sNm
          by_cases c : aIs kk 2 i = true
          · rw [if_pos c, List.filter_cons_of_neg (by simp)]; exact rgL.nil (Nat.le_succ _)
          · rw [if_neg c, List.filter_cons_of_pos (by simp)]; exact rgL.one (Nat.le_refl _) (Nat.lt_succ_self _)
        · show sEv [(if aIs kk 2 i = true then 0 else 1, false, i)] ++ ([] ++ ([] ++ tEv r)) = sEv [(if aIs kk 2 i = true then 0 else 1, false, i)] ++ ([] ++ ([] ++ [])) ++ tEv r
          simp
theorem aAs_ev {G : Nat → aR tT} (hG : ∀ i t j, G i = .inr (t, j) → rgL (tEv t) i j) : ∀ (q i : Nat) (t : tT) (j : Nat), aAs kk T G q i = .inr (t, j) → rgL (tEv t) i j
  | 0, i, t, j, h => by
    unfold aAs at h
    split at h
    · cases h
    · injection h with h
      injection h with h3 h4
      subst h3
      subst h4
      exact rgL.nil (Nat.le_refl _)
  | q + 1, i, t, j, h => by
    unfold aAs at h
    split at h
    · obtain ⟨a, j1, h1, h⟩ := on_inr h
      obtain ⟨as, j2, h2, h⟩ := on_inr h
      injection h with h
      injection h with h3 h4
      subst h3
      subst h4
      obtain ⟨r1, -, r3⟩ := aA1_ev hG h1
      rw [r3]
      exact r1.ap (aAs_ev hG q j1 as j2 h2) (Nat.le_refl _)
    · injection h with h
      injection h with h3 h4
      subst h3
      subst h4
      exact rgL.nil (Nat.le_refl _)
theorem aOp_ev {G : Nat → aR tT} (hG : ∀ i t j, G i = .inr (t, j) → rgL (tEv t) i j) {i j : Nat} {t : tT} (h : aOp kk T G i = .inr (t, j)) : rgL (tEv t) i j := by
  unfold aOp at h
  split at h
  · obtain ⟨s, j1, h1, h⟩ := on_inr h
    obtain ⟨_, j2, h2, h⟩ := on_inr h
    injection h with h
    injection h with h3 h4
    subst h3
    subst h4
    have w := (aMs_inr h2).2
    exact (rgL.one (Nat.le_refl _) (Nat.lt_succ_self _)).ap ((aSm_ev h1).mo (Nat.le_refl _) (show j1 ≤ j2 by omega)) (by omega)
  · split at h
    · obtain ⟨as, j1, h1, h⟩ := on_inr h
      injection h with h
      injection h with h3 h4
      subst h3
      subst h4
      exact (rgL.one (Nat.le_refl _) (Nat.lt_succ_self _)).ap (aAs_ev hG 4 _ _ _ h1) (Nat.le_refl _)
    · unfold aOq at h
      obtain ⟨s, j1, h1, h⟩ := on_inr h
      have e1 := aSm_ev h1
      split at h
      · obtain ⟨s', j2, h2, h⟩ := on_inr h
        injection h with h
        injection h with h3 h4
        subst h3
        subst h4
        show rgL (sEv s.2 ++ (sEv s'.2 ++ ([] ++ []))) i j2
        simp only [List.append_nil]
        exact e1.ap (aSm_ev h2) (by omega)
      · split at h
        · obtain ⟨s', j2, h2, h⟩ := on_inr h
          injection h with h
          injection h with h3 h4
          subst h3
          subst h4
          show rgL (sEv s.2 ++ (sEv s'.2 ++ ([] ++ []))) i j2
          simp only [List.append_nil]
          exact e1.ap (aSm_ev h2) (by omega)
        · split at h
          · obtain ⟨s', j2, h2, h⟩ := on_inr h
            injection h with h
            injection h with h3 h4
            subst h3
            subst h4
            show rgL (sEv s.2 ++ (sEv s'.2 ++ ([] ++ []))) i j2
            simp only [List.append_nil]
            exact e1.ap (aSm_ev h2) (by omega)
          · injection h with h
            injection h with h3 h4
            subst h3
            subst h4
            show rgL (sEv s.2 ++ ([] ++ ([] ++ []))) i j1
            simp only [List.append_nil]
            exact e1
/-- the rest of a let -/
theorem aLt_ev {G : Nat → aR tT} (hG : ∀ i t j, G i = .inr (t, j) → rgL (tEv t) i j) {mk : tT → tT → tT} {i j : Nat} {t : tT} (h : aLt kk G mk i = .inr (t, j)) : ∃ a b, t = mk a b ∧ rgL (tEv a ++ tEv b) (i + 1) j := by
  unfold aLt at h
  obtain ⟨_, i1, h1, h⟩ := on_inr h
  obtain ⟨a, i2, h2, h⟩ := on_inr h
  obtain ⟨_, i3, h3, h⟩ := on_inr h
  obtain ⟨b, i4, h4, h⟩ := on_inr h
  injection h with h
  injection h with h5 h6
  subst h5
  subst h6
  have w1 := (aMs_inr h1).2
  have w3 := (aMs_inr h3).2
  subst w1
  exact ⟨a, b, rfl, (hG _ _ _ h2).ap (hG _ _ _ h4) (by omega)⟩
theorem aE_ev : ∀ (k i : Nat) (t : tT) (j : Nat), aE kk T k i = .inr (t, j) → rgL (tEv t) i j
  | 0, i, t, j, h => by unfold aE at h; cases h
  | k + 1, i, t, j, h => by
    have IH := aE_ev k
    by_cases c212 : kk i = nI 212
    · rw [aE_212 c212] at h
      split at h
      · unfold aRc at h
        obtain ⟨_, i1, h1, h⟩ := on_inr h
        have w1 := (aMs_inr h1).2
        by_cases cn : aIs kk 1 i1 = true
        · rw [if_pos cn] at h
          obtain ⟨a, b, rfl, r⟩ := aLt_ev IH h
          have e1 : rgL ([i + 2] ++ List.range' (i + 3) (aPs kk 4 i1)) i (i + 3 + aPs kk 4 i1) := (rgL.one (by omega) (Nat.lt_succ_self _)).ap (rgL.rg (Nat.le_refl _) (Nat.le_refl _)) (Nat.le_refl _)
          exact e1.ap r (by omega)
        · rw [if_neg cn] at h; cases h
      · obtain ⟨_, i1, h1, h⟩ := on_inr h
        have w1 := (aMs_inr h1).2
        obtain ⟨a, b, rfl, r⟩ := aLt_ev IH h
        exact (rgL.one (Nat.le_succ _) (Nat.lt_succ_self _)).ap r (by omega)
    by_cases c206 : kk i = nI 206
    · rw [aE_206 c206] at h
      unfold aFn at h
      obtain ⟨_, i1, h1, h⟩ := on_inr h
      obtain ⟨_, i2, h2, h⟩ := on_inr h
      obtain ⟨a, i3, h3, h⟩ := on_inr h
      injection h with h
      injection h with h5 h6
      subst h5
      subst h6
      have w1 := (aMs_inr h1).2
      have w2 := (aMs_inr h2).2
      exact (rgL.one (Nat.le_succ _) (Nat.lt_succ_self _)).ap (IH _ _ _ h3) (by omega)
    by_cases c207 : kk i = nI 207
    · rw [aE_207 c207] at h
      unfold aIf at h
      obtain ⟨c, i1, h1, h⟩ := on_inr h
      obtain ⟨_, i2, h2, h⟩ := on_inr h
      obtain ⟨a, i3, h3, h⟩ := on_inr h
      obtain ⟨_, i4, h4, h⟩ := on_inr h
      obtain ⟨b, i5, h5, h⟩ := on_inr h
      injection h with h
      injection h with h6 h7
      subst h6
      subst h7
      have w2 := (aMs_inr h2).2
      have w4 := (aMs_inr h4).2
      have r1 := aEi_ev (aSi_ev (k + 1)) _ _ _ h1
      show rgL (cEv c ++ ([] ++ ([] ++ (tEv a ++ tEv b)))) i i5
      simp only [List.nil_append]
      exact (r1.mo (Nat.le_succ _) (Nat.le_refl _)).ap ((IH _ _ _ h3).ap (IH _ _ _ h5) (by omega)) (by omega)
    by_cases c201 : kk i = nI 201
    · rw [aE_201 c201] at h
      unfold aAt at h
      obtain ⟨c, i1, h1, h⟩ := on_inr h
      obtain ⟨_, i2, h2, h⟩ := on_inr h
      obtain ⟨a, i3, h3, h⟩ := on_inr h
      injection h with h
      injection h with h6 h7
      subst h6
      subst h7
      have w2 := (aMs_inr h2).2
      have r1 := aEi_ev (aSi_ev (k + 1)) _ _ _ h1
      exact (r1.mo (Nat.le_succ _) (Nat.le_refl _)).ap (IH _ _ _ h3) (by omega)
    by_cases c220 : kk i = nI 220
    · rw [aE_220 c220] at h
      obtain ⟨S, i2, i3, S', i4, i6, ta, d1, d2, d3, d4, d5, rfl⟩ := aSe_eq h
      unfold aIx at d1
      obtain ⟨_, p1, g1, d1⟩ := on_inr d1
      obtain ⟨_, p2, g2, d1⟩ := on_inr d1
      obtain ⟨S0, p3, g3, d1⟩ := on_inr d1
      obtain ⟨_, p4, g4, d1⟩ := on_inr d1
      injection d1 with d1
      injection d1 with d6 d7
      subst d6
      subst d7
      have w1 := (aMs_inr g1).2
      have w2 := (aMs_inr g2).2
      have w4 := (aMs_inr g4).2
      have w5 := (aMs_inr d2).2
      have w6 := (aMs_inr d4).2
      exact (rgL.one (Nat.le_succ _) (Nat.lt_succ_self _)).ap ((aSm_ev g3).ap ((aSm_ev d3).ap (IH _ _ _ d5) (by omega)) (by omega)) (by omega)
    by_cases c215 : kk i = nI 215
    · rw [aE_215 c215] at h
      obtain ⟨s, i1, h1, h⟩ := on_inr h
      injection h with h
      injection h with h6 h7
      subst h6
      subst h7
      show rgL (sEv s.2 ++ ([] ++ ([] ++ []))) i i1
      simp only [List.append_nil]
      exact (aSm_ev h1).mo (Nat.le_succ _) (Nat.le_refl _)
    by_cases c216 : kk i = nI 216
    · rw [aE_216 c216] at h
      injection h with h
      injection h with h6 h7
      subst h6
      subst h7
      exact rgL.nil (Nat.le_succ _)
    by_cases c203 : kk i = nI 203
    · rw [aE_203 c203] at h
      obtain ⟨s, i1, h1, h⟩ := on_inr h
      obtain ⟨_, i2, h2, h⟩ := on_inr h
      injection h with h
      injection h with h6 h7
      subst h6
      subst h7
      have w2 := (aMs_inr h2).2
      exact ((aSm_ev h1).mo (Nat.le_succ _) (Nat.le_refl _)).ap (rgL.one (Nat.le_refl _) (show i1 < i2 by omega)) (Nat.le_refl _)
    by_cases c214 : kk i = nI 214
    · rw [aE_214 c214] at h
      unfold aMt at h
      obtain ⟨_, i1, h1, h⟩ := on_inr h
      obtain ⟨_, i2, h2, h⟩ := on_inr h
      obtain ⟨_, i3, h3, h⟩ := on_inr h
      obtain ⟨_, i4, h4, h⟩ := on_inr h
      obtain ⟨a, i5, h5, h⟩ := on_inr h
      obtain ⟨_, i6, h6, h⟩ := on_inr h
      obtain ⟨_, i7, h7, h⟩ := on_inr h
      obtain ⟨_, i8, h8, h⟩ := on_inr h
      obtain ⟨_, i9, h9, h⟩ := on_inr h
      obtain ⟨b, i10, h10, h⟩ := on_inr h
      injection h with h
      injection h with g6 g7
      subst g6
      subst g7
      have w1 := (aMs_inr h1).2
      have w2 := (aMs_inr h2).2
      have w3 := (aMs_inr h3).2
      have w4 := (aMs_inr h4).2
      have w6 := (aMs_inr h6).2
      have w7 := (aMs_inr h7).2
      have w8 := (aMs_inr h8).2
      have w9 := (aMs_inr h9).2
      have e2 : rgL [i6, i6 + 1] i6 (i6 + 2) := (rgL.one (Nat.le_refl _) (Nat.lt_succ_self _)).ap (rgL.one (Nat.le_refl _) (Nat.lt_succ_self _)) (Nat.le_refl _)
      exact (rgL.one (Nat.le_succ _) (Nat.lt_succ_self _)).ap ((IH _ _ _ h5).ap (e2.ap (IH _ _ _ h10) (by omega)) (by omega)) (by omega)
    by_cases c223 : kk i = nI 223
    · rw [aE_223 c223] at h
      injection h with h
      injection h with h6 h7
      subst h6
      subst h7
      exact rgL.nil (Nat.le_succ _)
    by_cases c205 : kk i = nI 205
    · rw [aE_205 c205] at h
      injection h with h
      injection h with h6 h7
      subst h6
      subst h7
      exact rgL.nil (Nat.le_succ _)
    by_cases c40 : kk i = nI 40
    · rw [aE_40 c40] at h
      obtain ⟨a, i1, h1, h⟩ := on_inr h
      obtain ⟨_, i2, h2, h⟩ := on_inr h
      injection h with h
      injection h with h6 h7
      subst h6
      subst h7
      have w2 := (aMs_inr h2).2
      show rgL ([] ++ ([] ++ (tEv a ++ []))) i i2
      simp only [List.append_nil, List.nil_append]
      exact (IH _ _ _ h1).mo (Nat.le_succ _) (by omega)
    rw [aE_no c212 c206 c207 c201 c220 c215 c216 c203 c214 c223 c205 c40] at h
    exact aOp_ev IH h
end EVT
