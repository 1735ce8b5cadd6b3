/-! type(): NAMES and TERMS, the class -/
/-- what printing leaves: of Knowns the fields below 11 -/
def tFww (x nl da0 d0 : Nat) (σ0 : oSt) (da d : Nat) (σ : oSt) : Prop := (∀ q, q < σ0.2.1 → q ≠ x → q ≠ da0 → q ≠ nl → (q ≠ d0 ∨ σ0.1 q = none) → (∀ f, σ0.1 q ≠ some (.inr (4, f))) → σ.1 q = σ0.1 q) ∧ (da = da0 ∨ σ0.2.1 ≤ da) ∧ (d = d0 ∨ σ0.2.1 ≤ d) ∧ σ0.2.1 ≤ σ.2.1 ∧ (∀ fs0, σ0.1 x = some (.inr (14, fs0)) → ∃ fs, σ.1 x = some (.inr (14, fs)) ∧ ∀ k, k ≠ 7 → k ≠ 9 → fs[k]? = fs0[k]?) ∧ ∀ q f, σ0.1 q = some (.inr (4, f)) → ∃ f', σ.1 q = some (.inr (4, f')) ∧ f'.length = f.length ∧ ∀ i, i < 11 → f'[i]? = f[i]?
/-- a told NAME's letters -/
def tNc (κ : oKv) (x nl da d : Nat) (σ : oSt) (c : Nat) (l : List Int32) : Prop := ∃ gs r len f, σ.1 c = some (.inr (6, gs)) ∧ gs[0]? = some (.ref r) ∧ len ≤ 3000 ∧ l = tTx (fun j => f j &&& 255) len 0 ∧ ∀ da' d' u, tFww x nl da d σ da' d' u → oTx κ u (some r) len f
/-- a NAME that can be said -/
def tNo (κ : oKv) (wd : Nat → List Int32) (na : gN → Nat) (x nl da d : Nat) (σ : oSt) (a : gN) : Prop := match a with
  | .inl w => tNc κ x nl da d σ (na (.inl w)) (wd w)
  | .inr k => ∃ gs, σ.1 (na (.inr k)) = some (.inr (6, gs)) ∧ gs[0]? = some (va_rf none)
section TSM
variable {κ : oKv} {ks : Nat → Nat} {wd : Nat → List Int32} {T n x nl sz da0 da da' da2 d0 d d' d2 cap cap' cap2 cl cl' cl2 : Nat} {na : gN → Nat} {fs fs0 : List Value} {σ0 σ u w : oSt} {s : tPs} {L : List Int32} {a : gN}
theorem cSy.to (h : cSy x da fs σ L cap σ) (hx : u.1 x = σ.1 x) (hd : u.1 da = σ.1 da) (hfr : ∀ q, u.2.1 ≤ q → u.1 q = none) (hn : σ.2.1 ≤ u.2.1) : cSy x da fs u L cap u := by
  obtain ⟨f1, d1, g, ⟨h1, h2, h3, h4⟩, ⟨h5, h6, h7, h8⟩, h9, h10, h11, h12, h13, h14⟩ := h
  have lt : d1 < σ.2.1 := Nat.lt_of_not_le (fun w => by rw [h11 d1 w] at h5; cases h5)
  have e : d1 = da := by omega
  subst e
  exact ⟨f1, d1, g, ⟨hx.trans h1, h2, h3, h4⟩, ⟨hd.trans h5, h6, h7, h8⟩, h9, fun _ _ _ _ => rfl, hfr, Nat.le_refl _, Or.inl rfl, by omega⟩
/-- cells that printing does not touch -/
theorem cTp.ob {q ci : Nat} {gs : List Value} (h : cTp κ x nl na s cap da d cl σ) (k : tFr x nl da d σ da' d' u) (e : σ.1 q = some (.inr (ci, gs))) (h1 : ci ≠ 14) (h2 : ci ≠ 1) : u.1 q = some (.inr (ci, gs)) := by
  obtain ⟨⟨fs, c1, c2, c3⟩, c4, mc, g, ⟨l1, l2, -⟩, -⟩ := h
  obtain ⟨f1, d1, g1, -, ⟨e5, -⟩, -, -, e11, -, e13, -⟩ := c1
  have lt : ∀ {q : Nat} {c : oC}, σ.1 q = some c → q < σ.2.1 := fun {q c} z => Nat.lt_of_not_le (fun w => by rw [e11 q w] at z; cases z)
  have hd : d1 = da := by have := lt e5; omega
  rw [k.1 q (lt e) (fun z => by rw [z, c2] at e; injection e with e; injection e with e; injection e with e _; exact h1 e.symm) (fun z => by rw [z, ← hd, e5] at e; cases e) (fun z => by rw [z, l1] at e; injection e with e; injection e with e; injection e with e _; exact h2 e.symm) (Or.inl (fun z => by
    rcases l2 with ⟨-, -, -, m4⟩ | ⟨m1, -⟩
    · rw [z, m4] at e; cases e
    · rw [z, m1] at e; cases e))]
  exact e
theorem tFww.tr (h : tFww x nl da d σ da' d' u) (k : tFww x nl da' d' u da2 d2 w) : tFww x nl da d σ da2 d2 w := by
  obtain ⟨h1, h2, h3, h4, h5, h6⟩ := h
  obtain ⟨k1, k2, k3, k4, k5, k6⟩ := k
  refine ⟨fun q q1 q2 q3 q4 q5 q6 => ?_, by omega, by omega, by omega, fun fs0 e => ?_, fun q f e => ?_⟩
  · have e := h1 q q1 q2 q3 q4 q5 q6
    rw [k1 q (by omega) q2 (by omega) q4 (by
      rcases q5 with r | r
      · exact Or.inl (by omega)
      · exact Or.inr (e.trans r)) (fun f z => q6 f (e.symm.trans z))]
    exact e
  · obtain ⟨f1, a1, a2⟩ := h5 fs0 e
    obtain ⟨f2, b1, b2⟩ := k5 f1 a1
    exact ⟨f2, b1, fun k q1 q2 => (b2 k q1 q2).trans (a2 k q1 q2)⟩
  · obtain ⟨f1, a1, a2, a3⟩ := h6 q f e
    obtain ⟨f2, b1, b2, b3⟩ := k6 q f1 a1
    exact ⟨f2, b1, b2.trans a2, fun i hi => (b3 i hi).trans (a3 i hi)⟩
theorem cTp.fw (h : cTp κ x nl na s cap da d cl σ) (k : tFr x nl da d σ da' d' u) : tFww x nl da d σ da' d' u := ⟨fun q q1 q2 q3 q4 q5 _ => k.1 q q1 q2 q3 q4 q5, k.2.1, k.2.2.1, k.2.2.2.1, k.2.2.2.2, fun _ f e => ⟨f, h.ob k e (by decide) (by decide), rfl, fun _ _ => rfl⟩⟩
theorem cTp.oc {q ci : Nat} {gs : List Value} (h : cTp κ x nl na s cap da d cl σ) (k : tFww x nl da d σ da' d' u) (e : σ.1 q = some (.inr (ci, gs))) (h1 : ci ≠ 14) (h2 : ci ≠ 1) (h3 : ci ≠ 4) : u.1 q = some (.inr (ci, gs)) := by
  obtain ⟨⟨fs, c1, c2, c3⟩, c4, mc, g, ⟨l1, l2, -⟩, -⟩ := h
  obtain ⟨f1, d1, g1, -, ⟨e5, -⟩, -, -, e11, -, e13, -⟩ := c1
  have lt : ∀ {q : Nat} {c : oC}, σ.1 q = some c → q < σ.2.1 := fun {q c} z => Nat.lt_of_not_le (fun w => by rw [e11 q w] at z; cases z)
  have hd : d1 = da := by have := lt e5; omega
  rw [k.1 q (lt e) (fun z => by rw [z, c2] at e; injection e with e; injection e with e; injection e with e _; exact h1 e.symm) (fun z => by rw [z, ← hd, e5] at e; cases e) (fun z => by rw [z, l1] at e; injection e with e; injection e with e; injection e with e _; exact h2 e.symm) (Or.inl (fun z => by
    rcases l2 with ⟨-, -, -, m4⟩ | ⟨m1, -⟩
    · rw [z, m4] at e; cases e
    · rw [z, m1] at e; cases e)) (fun f z => by rw [e] at z; injection z with z; injection z with z; injection z with z _; exact h3 z)]
  exact e
theorem cLw.ow (h : cLw κ ks T sz x da σ) (c : cTp κ x nl na s cap da d cl σ) (k : tFww x nl da d σ da' d' u) : cLw κ ks T sz x da' u := by
  obtain ⟨h1, h2, h3, h4, h5, h6, h7⟩ := h
  obtain ⟨k1, k2, k3, k4, k5⟩ := k
  obtain ⟨-, -, mc, g, ⟨l1, -⟩, -⟩ := c
  refine ⟨h1, h2, fun a ha => ?_, by omega, h5, by omega, h7⟩
  rw [k1 a (by omega) (by omega) (by omega) (fun z => by rw [← z, h3 a ha] at l1; cases l1) (Or.inr (h3 a ha)) (fun f z => by rw [h3 a ha] at z; cases z)]
  exact h3 a ha
theorem tNo.on (h : cTp κ x nl na s cap da d cl σ) (k : tFww x nl da d σ da' d' u) (hN : tNo κ wd na x nl da d σ a) : tNo κ wd na x nl da' d' u a := by
  match a, hN with
  | .inl w, hN =>
    obtain ⟨gs, r, len, f, h1, h2, h3, h4, h5⟩ := hN
    exact ⟨gs, r, len, f, h.oc k h1 (by decide) (by decide) (by decide), h2, h3, h4, fun da2 d2 u2 k2 => h5 da2 d2 u2 (k.tr k2)⟩
  | .inr w, hN =>
    obtain ⟨gs, h1, h2⟩ := hN
    exact ⟨gs, h.oc k h1 (by decide) (by decide) (by decide), h2⟩
theorem tNo.c (hN : tNo κ wd na x nl da d σ a) : ∃ gs, σ.1 (na a) = some (.inr (6, gs)) := by
  match a, hN with
  | .inl w, hN =>
    obtain ⟨gs, r, len, f, h1, -⟩ := hN
    exact ⟨gs, h1⟩
  | .inr w, hN =>
    obtain ⟨gs, h1, -⟩ := hN
    exact ⟨gs, h1⟩
/-- one NAME more without a word -/
theorem p_add {gs : List Value} (hlow : σ.1 κ.2.2.1 = none) (hk : κ.2.2.1 < σ.2.1) (h : cTp κ x nl na s cap da d cl σ) (hl : s.2.length < 2450) (e : σ.1 (na a) = some (.inr (6, gs))) : ∃ u d' cl', oF κ T (n + 6) 227 [va_rf (some nl), va_rf (some (na a))] σ = some (some (.int 1), u) ∧ cTp κ x nl na (s.1, s.2 ++ [a]) cap da d' cl' u ∧ tFr x nl da d σ da d' u ∧ cPyz σ cap cl u cap cl' := by
  obtain ⟨⟨fs, c1, c2, c3⟩, ⟨c4, c5⟩, mc, g, c6, c7⟩ := id h
  obtain ⟨f1, d1, g1, -, ⟨e5, -⟩, -, -, hfr, -, e13, e14⟩ := id c1
  have lt : ∀ {q : Nat} {c : oC}, σ.1 q = some c → q < σ.2.1 := fun {q c} z => Nat.lt_of_not_le (fun w => by rw [hfr q w] at z; cases z)
  have hd : d1 = da := by have := lt e5; omega
  subst hd
  obtain ⟨u, d', cl', g', r1, r2, r3, r4, r5, r6⟩ := l_add (κ := κ) (T := T) (n := n) hlow (by omega) c6 e (by decide) (by decide) (by omega) (hfr _ (Nat.le_refl _))
  have dl : d < σ.2.1 := by
    rcases c6.2.1 with ⟨-, -, m3, -⟩ | ⟨m1, -⟩
    · rw [m3]; exact hk
    · exact lt m1
  have nll := lt c6.1
  have d'c : ∃ gg, u.1 d' = some (.inl (.object "java/lang/Object", cl', .inr (.inr (.inr (.inr gg))))) := by
    rcases r2.2.1 with ⟨m1, -⟩ | ⟨m1, -⟩
    · omega
    · exact ⟨_, m1⟩
  obtain ⟨gg, d'c⟩ := d'c
  have le : σ.2.1 ≤ u.2.1 := by
    rcases r6 with ⟨-, -, m⟩ | ⟨-, -, -, -, m⟩
    · rw [m]; exact Nat.le_refl _
    · rw [m]; show σ.2.1 ≤ σ.2.1 + 1; omega
  have dn : d' = d ∨ σ.2.1 ≤ d' := by
    rcases r6 with ⟨m, -⟩ | ⟨m, -⟩ <;> omega
  have dnx : ∀ q c, σ.1 q = some c → (∀ gg n, c ≠ .inl (.object "java/lang/Object", n, .inr (.inr (.inr (.inr gg))))) → q ≠ d' := fun q c e hc z => by
    rcases dn with r | r
    · rcases c6.2.1 with ⟨-, -, -, m4⟩ | ⟨m1, -⟩
      · rw [z, r, m4] at e; cases e
      · rw [z, r, m1] at e; injection e with e; exact hc _ _ e.symm
    · have := lt e; omega
  have ux : u.1 x = σ.1 x := r5 x (fun z => by rw [z, c6.1] at c2; cases c2) (dnx x _ c2 (fun _ _ z => by cases z))
  have ud : u.1 d1 = σ.1 d1 := r5 d1 (fun z => by rw [z, c6.1] at e5; cases e5) (dnx d1 _ e5 (fun _ _ z => by cases z))
  have ufr : ∀ q, u.2.1 ≤ q → u.1 q = none := fun q hq => by
    rw [r5 q (by omega) (fun z => by
      rcases r6 with ⟨m, -, m'⟩ | ⟨m, -, -, -, m'⟩
      · omega
      · rw [m'] at hq
        have hq : σ.2.1 + 1 ≤ q := hq
        omega)]
    exact hfr q (by omega)
  have ln : (s.2 ++ [a]).length = s.2.length + 1 := by rw [List.length_append]; rfl
  refine ⟨u, d', cl', r1, ⟨⟨fs, c1.to ux ud ufr le, ux.trans c2, c3⟩, ⟨by show (s.2 ++ [a]).length ≤ 2451; omega, ?_⟩, mc + 1, g', by show cLs κ u nl d' cl' (s.2 ++ [a]).length (mc + 1) g' 6; rw [ln]; exact r2, fun j b hj => ?_⟩, ⟨fun q q1 q2 q3 q4 q5 => r5 q q4 (fun z => ?_), Or.inl rfl, dn, le, fun fs0 e0 => ⟨fs0, by rw [ux]; exact e0, fun _ _ _ => rfl⟩⟩, ?_⟩
  · rcases r6 with ⟨-, m, -⟩ | ⟨-, m1, m2, m3, -⟩
    · omega
    · by_cases c0 : cl = 0
      · have := m2 c0; omega
      · have := m3 (by omega); omega
  · rcases ap_last hj with q | ⟨q, q'⟩
    · rw [r3 j (xget_lt q)]
      exact c7 j b q
    · rw [q, r4, ← q']
  · rcases q5 with r | r
    · omega
    · rcases dn with t | t
      · rcases c6.2.1 with ⟨m1, m2, -⟩ | ⟨m1, -⟩
        · rcases r6 with ⟨-, m, -⟩ | ⟨m, -⟩
          · rcases r2.2.1 with ⟨z1, -⟩ | ⟨-, z1, -⟩ <;> omega
          · omega
        · rw [z, t, m1] at r; cases r
      · omega
  · rcases r6 with ⟨-, m, m'⟩ | ⟨-, m1, m2, m3, m'⟩
    · rw [m]
      unfold cPyz
      rw [m']
      exact ⟨Nat.le_refl _, Nat.le_refl _⟩
    · unfold cPyz
      rw [m']
      show σ.2.2.2 + cl' + tPh cap + 4 * cl ≤ σ.2.2.2 + tPh cap + 4 * cl' ∧ σ.2.2.1 + 1 + cap + cl ≤ σ.2.2.1 + cap + cl'
      have cc := c6.2.1
      by_cases c0 : cl = 0
      · have := m2 c0; omega
      · have := m3 (by omega)
        have : 10 ≤ cl := by
          rcases cc with ⟨-, z, -⟩ | ⟨-, -, z⟩ <;> omega
        omega
theorem p_tn67 {j : Nat} (hT : 100 ≤ T) (hk : κ.2.2.1 < σ.2.1) (hj : j ≤ 2451) (hl : s.1.length < 860000000) (h : cTp κ x nl na s cap da d cl σ) : ∃ u cap' da', oj_X12_tellName_67 T (oF κ T (n + 3)) κ (some x) (nI j) σ = some (none, u) ∧ cTp κ x nl na (s.1 ++ 36 :: tNu (nI j).toInt64, s.2) cap' da' d cl u ∧ tFr x nl da d σ da' d u ∧ cPyz σ cap cl u cap' cl := by
  have OB : ∀ {s : tPs} {cap da d cl : Nat} {σ : oSt}, cTp κ x nl na s cap da d cl σ → oob σ (some x) 14 = some x := fun {s cap da d cl σ} h => by
    obtain ⟨⟨fs, h1, h2, h3⟩, h4, h5⟩ := h
    exact oob_at h2
  obtain ⟨u1, cap1, da1, r1, r2, r3, r4⟩ := p_put (T := T) (n := n + 1) (c := 36) hk (by omega) h
  have tj : (nI j).toInt64.toInt = (j : Int) := by rw [Int32.toInt_toInt64, nI_toInt (by omega)]
  obtain ⟨u2, cap2, da2, s1, s2, s3, s4⟩ := p_num (T := T) (n := n) (v := (nI j).toInt64) (by omega) hT (Nat.lt_of_lt_of_le hk r3.2.2.2.1) (by show (s.1 ++ [36]).length < _; rw [List.length_append]; show s.1.length + 1 < _; omega) r2
  unfold oj_X12_tellName_67
  rw [OB h, obn_at, r1, ocv_at, OB r2, obn_at, s1, ocv_at]
  have s2 : cTp κ x nl na ((s.1 ++ [36]) ++ tNu (nI j).toInt64, s.2) cap2 da2 d cl u2 := s2
  rw [List.append_assoc] at s2
  exact ⟨u2, cap2, da2, rfl, s2, r3.tr s3, r4.tr s4⟩
/-- the loop that looks for a NAME without a word -/
theorem p_tn18 {call : oCl} (hk : κ.2.2.1 < σ.2.1) (h : cTp κ x nl na s cap da d cl σ) (hi : ∀ b, b ∈ s.2 → na b = na a → b = a) (hcall : call = oF κ T (n + 3)) : ∀ (m j F : Nat), j + m = tIx a s.2 → m < F → ol_X12_tellName_18 T call κ F (some x) (some (na a)) (nI j) σ = oj_X12_tellName_47 T call κ (some x) (some (na a)) (nI (tIx a s.2)) σ
  | m, j, F, hm, hF => by
    obtain ⟨F, rfl⟩ : ∃ u, F = u + 1 := ⟨F - 1, by omega⟩
    obtain ⟨⟨fs, c1, c2, c3⟩, ⟨c4, c5⟩, mc, g, c6, c7⟩ := id h
    have f10 : ovr (ofd σ (some x) 14 10) = some (some nl) := by rw [ofd_at c2, c3]; rfl
    have LS := c6.o (show s.2.length < 2 ^ 31 by omega)
    have le := tIx_le a s.2
    subst hcall
    rw [ol_X12_tellName_18, f10, obn_at, oob_at c6.1, obn_at, l_size (n := n + 2) LS, oin_at]
    by_cases c : s.2.length ≤ j
    · have : j = tIx a s.2 := by omega
      rw [if_pos (nI_le c (by omega)), ← this]
    · rw [if_neg (nI_ge (by omega) (by omega)), f10, obn_at, oob_at c6.1, obn_at, l_get (n := n) LS (by omega)]
      obtain ⟨b, hb⟩ : ∃ b, s.2[j]? = some b := ⟨_, List.getElem?_eq_getElem (by omega)⟩
      rw [c7 j b hb, orn_at]
      match m, hm, hF with
      | 0, hm, hF =>
        have ej : j = tIx a s.2 := by omega
        have ea := tIx_at a s.2 (by omega)
        rw [← ej, hb] at ea
        injection ea with ea
        rw [ea, if_pos rfl, ← ej]
      | m + 1, hm, hF =>
        have nb := tIx_ne a s.2 j b (by omega) hb
        rw [if_neg (fun z => by
          injection z with z
          exact nb (hi b (List.mem_of_getElem? hb) z)), nI_p1]
        exact p_tn18 hk h hi rfl m (j + 1) F (by omega) (by omega)
/-- **tellName() (184)** -/
theorem p_nm (W : cLw κ ks T sz x da σ) (h : cTp κ x nl na s cap da d cl σ) (hN : tNo κ wd na x nl da d σ a) (hi : ∀ b, b ∈ s.2 → na b = na a → b = a) (hl : s.1.length < 850000000) (hl2 : s.2.length < 2450) : ∃ u cap' da' d' cl', oF κ T (n + 7) 184 [va_rf (some x), va_rf (some (na a))] σ = some (none, u) ∧ cTp κ x nl na (tNm wd a s) cap' da' d' cl' u ∧ tFr x nl da d σ da' d' u ∧ cPyz σ cap cl u cap' cl' := by
  have hk : κ.2.2.1 < σ.2.1 := Nat.lt_of_lt_of_le W.2.1 W.2.2.2.1
  have hlow := W.2.2.1 _ W.2.1
  have hT := W.2.2.2.2.2.2
  have OB : ∀ {s : tPs} {cap da d cl : Nat} {σ : oSt}, cTp κ x nl na s cap da d cl σ → oob σ (some x) 14 = some x := fun {s cap da d cl σ} h => by
    obtain ⟨⟨fs, h1, h2, h3⟩, h4, h5⟩ := h
    exact oob_at h2
  rw [oE_X12_tellName]
  unfold ob_X12_tellName
  match a, hN, hi with
  | .inl w, hN, hi =>
    obtain ⟨gs, r, len, f, h1, h2, h3, h4, h5⟩ := hN
    obtain ⟨⟨fs, c1, c2, c3⟩, c4, c6⟩ := id h
    have e0 : ovr (ofd σ (some (na (.inl w))) 6 0) = some (some r) := by rw [ofd_at h1, h2]; rfl
    obtain ⟨u, cap', r1, r2, r3⟩ := c_putS (κ := κ) (T := T) (n := n + 1) (r := r) (len := len) (f := f) (fun L' cap' σ' h' => by
      obtain ⟨da', k1, k2⟩ := cTp.on c2 c3 c4 c6 hk c1 h'
      exact h5 _ _ _ (h.fw k2)) (by omega) (by omega) (by omega) c1
    obtain ⟨da', k1, k2⟩ := cTp.on c2 c3 c4 c6 hk c1 r2
    rw [e0, obn_at, if_neg (fun z => by cases z), obn_at, OB h, obn_at, r1, ocv_at]
    refine ⟨u, cap', da', d, cl, rfl, ?_, k2, cPy.z r3 cl⟩
    show cTp κ x nl na (s.1 ++ wd w, s.2) _ _ _ _ _
    rw [h4]
    exact k1
  | .inr w, hN, hi =>
    obtain ⟨gs, h1, h2⟩ := hN
    have e0 : ovr (ofd σ (some (na (.inr w))) 6 0) = some none := by rw [ofd_at h1, h2]; rfl
    have le := tIx_le (.inr w) s.2
    rw [e0, obn_at, if_pos rfl, show (0 : Int32) = nI 0 from rfl, p_tn18 (n := n + 3) hk h hi rfl (tIx (.inr w) s.2) 0 T (by omega) (by omega)]
    unfold oj_X12_tellName_47
    obtain ⟨⟨fs, c1, c2, c3⟩, ⟨c4, c5⟩, mc, g, c6, c7⟩ := id h
    have f10 : ovr (ofd σ (some x) 14 10) = some (some nl) := by rw [ofd_at c2, c3]; rfl
    have LS := c6.o (show s.2.length < 2 ^ 31 by omega)
    rw [f10, obn_at, oob_at c6.1, obn_at, l_size (n := n + 5) LS, oin_at]
    unfold tNm
    by_cases c : tIx (.inr w) s.2 < s.2.length
    · obtain ⟨u, cap', da', r1, r2, r3, r4⟩ := p_tn67 (T := T) (n := n + 3) (j := tIx (.inr w) s.2) (by omega) hk (by omega) (by omega) h
      rw [if_neg (fun z => by have := nI_inj' (by omega) (by omega) z; omega), r1]
      show ∃ u cap' da' d' cl', _ = _ ∧ cTp κ x nl na (_, if tIx (.inr w) s.2 < s.2.length then s.2 else s.2 ++ [.inr w]) cap' da' d' cl' u ∧ _
      rw [if_pos c]
      exact ⟨u, cap', da', d, cl, rfl, r2, r3, r4⟩
    · have ej : tIx (.inr w) s.2 = s.2.length := by omega
      obtain ⟨u1, d1, cl1, a1, a2, a3, a4⟩ := p_add (T := T) (n := n) hlow hk h hl2 h1
      obtain ⟨u, cap', da', r1, r2, r3, r4⟩ := p_tn67 (T := T) (n := n + 3) (j := tIx (.inr w) s.2) (by omega) (Nat.lt_of_lt_of_le hk a3.2.2.2.1) (by omega) (by show s.1.length < _; omega) a2
      rw [if_pos (by rw [ej]), f10, obn_at, oob_at c6.1, obn_at, a1, oin_at, r1]
      show ∃ u cap' da' d' cl', _ = _ ∧ cTp κ x nl na (_, if tIx (.inr w) s.2 < s.2.length then s.2 else s.2 ++ [.inr w]) cap' da' d' cl' u ∧ _
      rw [if_neg c]
      exact ⟨u, cap', da', d1, cl1, rfl, r2, a3.tr r3, a4.tr r4⟩
end TSM
