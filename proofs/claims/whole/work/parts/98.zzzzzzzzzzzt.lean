/-! the class's Known: FACTS, what stands in a parameter's place, recall() -/
/-- a NAME (or none) plus or minus a number -/
abbrev kTe : Type := Option (Nat × Int) × Int
/-- a FACT: the relation's code, and what v stands to -/
abbrev kFc : Type := Nat × kTe
/-- a Sum that is such a term -/
def cTm (lo : Nat × (Nat → Prop)) (σ : oSt) (su : Nat) (t : kTe) : Prop := ∃ na ta cap Ls pl, cSm σ su na ta cap Ls pl ∧ pl.toInt = t.2 ∧ ((-1125899906842624 ≤ t.2 ∧ t.2 ≤ 1125899906842624) ∧ lo.1 ≤ na ∧ lo.1 ≤ ta ∧ ¬ lo.2 ta) ∧ ((t.1 = none ∧ Ls = []) ∨ ∃ a v, t.1 = some (a, v.toInt) ∧ Ls = [(a, v)] ∧ (v.toInt = 1 ∨ v.toInt = -1))
theorem cTm.keep {lo : Nat × (Nat → Prop)} {σ σ' : oSt} {su : Nat} {t : kTe} (h : cTm lo σ su t) (hk : ∀ a cc, σ.1 a = some cc → (∃ fs, cc = .inr (11, fs)) ∨ (∃ y, cc = .inl y) → σ'.1 a = some cc) (hn : ∀ a fs, σ.1 a = some (.inr (6, fs)) → ∃ fs', σ'.1 a = some (.inr (6, fs'))) : cTm lo σ' su t := by
  obtain ⟨na, ta, cap, Ls, pl, ⟨g, h', s1, s2, s3, s4, s5⟩, h2⟩ := h
  refine ⟨na, ta, cap, Ls, pl, ⟨g, h', hk _ _ s1 (Or.inl ⟨_, rfl⟩), hk _ _ s2 (Or.inr ⟨_, rfl⟩), hk _ _ s3 (Or.inr ⟨_, rfl⟩), s4, fun k b c e => ?_⟩, h2⟩
  obtain ⟨q1, q2, fs, q3⟩ := s5 k b c e
  exact ⟨q1, q2, hn _ _ q3⟩
/-- what is found in the place of a NAME: the oldest -/
def kFi (G : List (Nat × kTe)) (a : Nat) : Option kTe := (G.find? (fun g => g.1 == a)).map Prod.snd
/-- a term with what stands in its NAME's place, once -/
def kRs (G : List (Nat × kTe)) (t : kTe) : kTe := match t.1 with
  | none => t
  | some (a, e) => match kFi G a with
    | none => t
    | some u => (u.1.map (fun x => (x.1, e * x.2)), t.2 + e * u.2)
/-- the FACTS of an origin -/
def kOr (lo : Nat × (Nat → Prop)) (σ : oSt) (w ra sa : Nat) (F : List kFc) : Prop := ∃ fs cap hr gs, σ.1 w = some (.inr (4, fs)) ∧ fs.length = 15 ∧ fs[7]? = some (.int (nI F.length)) ∧ F.length ≤ 100000 ∧ (F = [] ∨ (fs[5]? = some (.ref ra) ∧ fs[6]? = some (.ref sa) ∧ σ.1 ra = some (.inl (.int, cap, .inl hr)) ∧ σ.1 sa = some (.inl (.object "LiquidTongue$Sum", cap, .inr (.inr (.inr (.inr gs))))) ∧ ((F.length ≤ cap ∧ cap ≤ 100000) ∧ lo.1 ≤ ra ∧ lo.1 ≤ sa ∧ lo.2 ra ∧ lo.2 sa) ∧ ∀ (i : Nat) (x : kFc), F[i]? = some x → hr i = jRc x.1 ∧ x.1 ≤ 4 ∧ ∃ su, gs i = some su ∧ cTm lo σ su x.2))
/-- a Known, its origin, and what stands in the place of what is gone -/
def kGo (lo : Nat × (Nat → Prop)) (σ : oSt) (k w : Nat) (G : List (Nat × kTe)) : Prop := ∃ fs, σ.1 k = some (.inr (4, fs)) ∧ fs.length = 15 ∧ fs[1]? = some (.ref w) ∧ G.length ≤ 100000 ∧ ((G = [] ∧ fs[9]? = some (va_rf none)) ∨ ∃ gn ins g g', (lo.1 ≤ gn ∧ lo.1 ≤ ins ∧ ¬ lo.2 ins) ∧ fs[9]? = some (.ref gn) ∧ fs[10]? = some (.ref ins) ∧ σ.1 gn = some (.inl (.object "LiquidTongue$Name", G.length, .inr (.inr (.inr (.inr g))))) ∧ σ.1 ins = some (.inl (.object "LiquidTongue$Sum", G.length, .inr (.inr (.inr (.inr g'))))) ∧ ∀ (i : Nat) (x : Nat × kTe), G[i]? = some x → g i = some x.1 ∧ ∃ su, g' i = some su ∧ cTm lo σ su x.2)
theorem nI_nn {i : Nat} (h : i < 2 ^ 31) : ¬ nI i < 0 := fun w => absurd (Int32.lt_iff_toInt_lt.mp w) (by rw [nI_toInt h]; show ¬ (i : Int) < 0; omega)
section KRC
variable {κ : oKv} {lo : Nat × (Nat → Prop)} {T n k w ra sa : Nat} {σ : oSt} {F : List kFc} {G : List (Nat × kTe)}
theorem cTm.f {su : Nat} {t : kTe} (h : cTm lo σ su t) : ∃ na ta pl h0, ofd σ (some su) 11 0 = some (.ref na) ∧ ofd σ (some su) 11 1 = some (.ref ta) ∧ ofd σ (some su) 11 3 = some (.long pl) ∧ pl.toInt = t.2 ∧ oai σ (some ta) .int 0 = some h0 ∧ ((t.1 = none ∧ ofd σ (some su) 11 2 = some (.int 0)) ∨ ∃ a, t.1 = some (a, h0.toInt) ∧ (h0.toInt = 1 ∨ h0.toInt = -1) ∧ ofd σ (some su) 11 2 = some (.int 1) ∧ oar σ (some na) 0 = some (some a)) := by
  obtain ⟨na, ta, cap, Ls, pl, ⟨g, h', s1, s2, s3, s4, s5⟩, h2, -, h3⟩ := h
  have z0 : zin 0 cap = true := decide_eq_true ⟨by decide, by show (0 : Int) < cap; omega⟩
  have c0 : (0 : Int32).toNatClampNeg = 0 := by decide
  refine ⟨na, ta, pl, h' 0, ofd_at s1, ofd_at s1, ofd_at s1, h2, by simp only [oai, s3, z0, and_self, if_true, c0], ?_⟩
  rcases h3 with ⟨e1, rfl⟩ | ⟨a, v, e1, rfl, e2⟩
  · exact Or.inl ⟨e1, ofd_at s1⟩
  · obtain ⟨q1, q2, -⟩ := s5 0 a v rfl
    refine Or.inr ⟨a, by rw [q2]; exact e1, by rw [q2]; exact e2, ofd_at s1, by simp only [oar, s2, z0, if_true, c0, q1]⟩
theorem kFi_cons {x : Nat × kTe} {G : List (Nat × kTe)} {a : Nat} : kFi (x :: G) a = if x.1 = a then some x.2 else kFi G a := by
  unfold kFi
  rw [List.find?_cons]
  by_cases h : x.1 = a
  · rw [if_pos h, show (x.1 == a) = true from beq_iff_eq.mpr h]
    rfl
  · rw [if_neg h, show (x.1 == a) = false from beq_eq_false_iff_ne.mpr h]
/-- insteadOf(parameter) -/
theorem c_instead {a : Nat} (hT : 100100 ≤ T) (h : kGo lo σ k w G) : (kFi G a = none ∧ oF κ T (n + 1) 45 [va_rf (some k), va_rf (some a)] σ = some (some (va_rf none), σ)) ∨ ∃ su u, kFi G a = some u ∧ cTm lo σ su u ∧ oF κ T (n + 1) 45 [va_rf (some k), va_rf (some a)] σ = some (some (va_rf (some su)), σ) := by
  obtain ⟨fs, h1, h2, h3, hG, h4⟩ := h
  rw [oE_X2_insteadOf]
  unfold ob_X2_insteadOf
  rcases h4 with ⟨rfl, h4⟩ | ⟨gn, ins, g, g', -, h4, h5, h6, h7, h8⟩
  · refine Or.inl ⟨rfl, ?_⟩
    obtain ⟨T, rfl⟩ : ∃ t', T = t' + 1 := ⟨T - 1, by omega⟩
    rw [ol_X2_insteadOf_2, show ofd σ (some k) 4 9 = some (va_rf none) from (ofd_at h1).trans h4]
    rfl
  · have f9 : ofd σ (some k) 4 9 = some (.ref gn) := (ofd_at h1).trans h4
    have f10 : ofd σ (some k) 4 10 = some (.ref ins) := (ofd_at h1).trans h5
    have ln : oln2 κ σ (some gn) = some (nI G.length) := by simp only [oln2, h6]; rfl
    have loop : ∀ (d i t : Nat), i + d = G.length → d < t → (kFi (G.drop i) a = none ∧ ol_X2_insteadOf_2 T (oF κ T n) κ t (some k) (some a) (nI i) σ = some (some (va_rf none), σ)) ∨ ∃ su u, kFi (G.drop i) a = some u ∧ cTm lo σ su u ∧ ol_X2_insteadOf_2 T (oF κ T n) κ t (some k) (some a) (nI i) σ = some (some (va_rf (some su)), σ) := by
      intro d
      induction d with
      | zero =>
        intro i t hi ht
        obtain ⟨t, rfl⟩ : ∃ t', t = t' + 1 := ⟨t - 1, by omega⟩
        refine Or.inl ⟨by rw [List.drop_of_length_le (by omega)]; rfl, ?_⟩
        rw [ol_X2_insteadOf_2, f9, ovr_rf, obn_at, if_neg (by simp), if_neg (by simp), obn_at, ln, obn_at, if_pos (nI_le (by omega) (by omega))]
      | succ d ih =>
        intro i t hi ht
        obtain ⟨t, rfl⟩ : ∃ t', t = t' + 1 := ⟨t - 1, by omega⟩
        have hil : i < G.length := by omega
        have ed : G.drop i = G[i] :: G.drop (i + 1) := List.drop_eq_getElem_cons hil
        obtain ⟨q1, su, q2, q3⟩ := h8 i G[i] (List.getElem?_eq_getElem hil)
        have zi : zin (nI i) G.length = true := zin_n hil (by omega)
        have ci : (nI i).toNatClampNeg = i := nI_clamp (by omega)
        have r1 : oar σ (some gn) (nI i) = some (some G[i].1) := by simp only [oar, h6, zi, if_true, ci, q1]
        have r2 : oar σ (some ins) (nI i) = some (some su) := by simp only [oar, h7, zi, if_true, ci, q2]
        rw [ol_X2_insteadOf_2, f9, ovr_rf, obn_at, if_neg (by simp), if_neg (by simp), obn_at, ln, obn_at, if_neg (nI_ge (by omega) (by omega)), obn_at, r1, obn_at, ed, kFi_cons]
        by_cases z : G[i].1 = a
        · rw [if_pos z, if_pos (by rw [z])]
          exact Or.inr ⟨su, _, rfl, q3, by rw [f10, ovr_rf, obn_at, r2, obn_at]⟩
        · rw [if_neg z, if_neg (by intro w; injection w with w; exact z w), nI_p1]
          exact ih (i + 1) t (by omega) (by omega)
    exact loop G.length 0 T (Nat.zero_add _) (by omega)
/-- fields of a Known behind recall() -/
def kRf (fs fs' : List Value) (r : Nat) (t : kTe) : Prop := fs'.length = fs.length ∧ (∀ i, i < 11 → fs'[i]? = fs[i]?) ∧ fs'[11]? = some (.int (jRc r)) ∧ (∃ pl : Int64, fs'[14]? = some (.long pl) ∧ pl.toInt = t.2) ∧ ((t.1 = none ∧ fs'[13]? = some (va_rf none)) ∨ ∃ (a : Nat) (tm : Int32), t.1 = some (a, tm.toInt) ∧ (tm.toInt = 1 ∨ tm.toInt = -1) ∧ fs'[13]? = some (.ref a) ∧ fs'[12]? = some (.int tm))
theorem i32_pm {a b : Int32} (ha : a.toInt = 1 ∨ a.toInt = -1) (hb : b.toInt = 1 ∨ b.toInt = -1) : (a * b).toInt = a.toInt * b.toInt ∧ ((a * b).toInt = 1 ∨ (a * b).toInt = -1) := by
  have pm : ∀ {x : Int32}, x.toInt = 1 ∨ x.toInt = -1 → x = 1 ∨ x = -1 := fun {x} h => by
    rcases h with h | h
    · exact Or.inl (Int32.toInt_inj.mp h)
    · exact Or.inr (Int32.toInt_inj.mp h)
  rcases pm ha with rfl | rfl <;> rcases pm hb with rfl | rfl <;> decide
theorem i64_pm {a : Int32} {x y : Int64} (ha : a.toInt = 1 ∨ a.toInt = -1) (hx : -1125899906842624 ≤ x.toInt ∧ x.toInt ≤ 1125899906842624) (hy : -1125899906842624 ≤ y.toInt ∧ y.toInt ≤ 1125899906842624) : (x + a.toInt64 * y).toInt = x.toInt + a.toInt * y.toInt := by
  have e : a.toInt64.toInt = a.toInt := Int32.toInt_toInt64 a
  rw [j_add, j_mul, e] <;> first | (rw [j_mul, e] <;> (first | (rw [e]; rcases ha with h | h <;> rw [h] <;> omega) | (rcases ha with h | h <;> rw [h] <;> omega))) | (rw [e]; rcases ha with h | h <;> rw [h] <;> omega)
theorem c_recall {i : Nat} {r : Nat} {t : kTe} {fs : List Value} (hT : 100100 ≤ T) (hO : kOr lo σ w ra sa F) (h : kGo lo σ k w G) (hk : σ.1 k = some (.inr (4, fs))) (hi : F[i]? = some (r, t)) : ∃ fs', oF κ T (n + 2) 46 [va_rf (some k), .int (nI i)] σ = some (none, oput σ k (.inr (4, fs'))) ∧ kRf fs fs' r (kRs G t) := by
  obtain ⟨fo, cap, hr, gs, o1, o2, o3, oF1, o4⟩ := hO
  have hG := h
  obtain ⟨fs0, h1, h2, h3, -⟩ := h
  have efs : fs0 = fs := by
    rw [h1] at hk
    injection hk with e
    injection e with e
    injection e with e e2
  subst efs
  have hil : i < F.length := (List.getElem?_eq_some_iff.mp hi).1
  rcases o4 with rfl | ⟨o5, o6, o7, o8, ⟨⟨o9, o9'⟩, -⟩, o10⟩
  · cases hi
  obtain ⟨p1, p2, su, p3, p4⟩ := o10 i _ hi
  have zi : zin (nI i) cap = true := zin_n (by omega) (by omega)
  have ci : (nI i).toNatClampNeg = i := nI_clamp (by omega)
  have r1 : oar σ (some sa) (nI i) = some (some su) := by simp only [oar, o8, zi, if_true, ci, p3]
  have r2 : oai σ (some ra) .int (nI i) = some (jRc r) := by simp only [oai, o7, zi, and_self, if_true, ci, p1]
  have p5 := p4
  obtain ⟨_, _, _, _, _, _, _, bt, _⟩ := p4
  obtain ⟨na, ta, pl, h0, q1, q2, q3, q4, q5, q6⟩ := p5.f
  have sue : ∃ sf, σ.1 su = some (.inr (11, sf)) := by
    obtain ⟨na, ta, cap, Ls, pl, ⟨g, h', s1, -⟩, -⟩ := p5
    exact ⟨_, s1⟩
  obtain ⟨sf, sue⟩ := sue
  have nk : su ≠ k := fun e => by
    subst e
    rw [h1] at sue
    injection sue with e
    injection e with e
    injection e with e e2
    exact absurd e (by decide)
  -- cells other than k
  have oth : ∀ (fx : List Value) (x ci c : Nat), x ≠ k → ofd (oput σ k (.inr (4, fx))) (some x) ci c = ofd σ (some x) ci c := fun fx x ci c hx => by
    simp only [ofd, oput_ne hx]
  have otj : ∀ (fx : List Value) (x : Nat) (ty : FieldType) (c : Int32) (v : Int32), oai σ (some x) ty c = some v → oai (oput σ k (.inr (4, fx))) (some x) ty c = some v := fun fx x ty c v e => by
    have hx : x ≠ k := fun z => by
      subst z
      simp only [oai, h1] at e
      cases e
    simp only [oai, oput_ne hx] at e ⊢
    exact e
  have otr : ∀ (fx : List Value) (x : Nat) (c : Int32) (v : Option Nat), oar σ (some x) c = some v → oar (oput σ k (.inr (4, fx))) (some x) c = some v := fun fx x c v e => by
    have hx : x ≠ k := fun z => by
      subst z
      simp only [oar, h1] at e
      cases e
    simp only [oar, oput_ne hx] at e ⊢
    exact e
  have l15 : fs0.length = 15 := h2
  have fK1 : ofd σ (some k) 4 1 = some (.ref w) := (ofd_at h1).trans h3
  have fO7 : ofd σ (some w) 4 7 = some (.int (nI F.length)) := (ofd_at o1).trans o3
  have fO6 : ofd σ (some w) 4 6 = some (.ref sa) := (ofd_at o1).trans o6
  have fO5 : ofd σ (some w) 4 5 = some (.ref ra) := (ofd_at o1).trans o5
  -- put
  have pf : ∀ (fx : List Value) (c : Nat) (v : Value), fx.length = 15 → c < 15 → opf (oput σ k (.inr (4, fx))) (some k) 4 c v = some (oput σ k (.inr (4, fx.set c v))) := fun fx c v hx hc => by
    rw [opf_at (oput_eq _ _ _) (by omega), oput_oput]
  have gf : ∀ (fx : List Value) (c : Nat), ofd (oput σ k (.inr (4, fx))) (some k) 4 c = fx[c]? := fun fx c => ofd_at (oput_eq _ _ _)
  -- the Known's own parts stay
  have kG : ∀ fx : List Value, fx.length = 15 → (∀ i, i < 11 → fx[i]? = fs0[i]?) → kGo lo (oput σ k (.inr (4, fx))) k w G := fun fx hx he => by
    obtain ⟨fs', g1, g2, g3, gl, g4⟩ := hG
    have e' : fs' = fs0 := by
      rw [h1] at g1
      injection g1 with e
      injection e with e
      injection e with e e2
      exact e2.symm
    subst e'
    have kp : ∀ a cc, σ.1 a = some cc → a ≠ k → (oput σ k (.inr (4, fx))).1 a = some cc := fun a cc e ha => (oput_ne ha).trans e
    have nk1 : ∀ {a : Nat} {y}, σ.1 a = some (.inl y) → a ≠ k := fun {a y} e z => by subst z; rw [h1] at e; cases e
    have nk2 : ∀ {a c : Nat} {y : List Value}, σ.1 a = some (.inr (c, y)) → c ≠ 4 → a ≠ k := fun {a c y} e hc z => by
      subst z
      rw [h1] at e
      injection e with e
      injection e with e
      injection e with e e2
      exact hc e.symm
    refine ⟨fx, oput_eq _ _ _, hx, by rw [he 1 (by decide)]; exact g3, gl, ?_⟩
    rcases g4 with ⟨a1, a2⟩ | ⟨gn, ins, g, g', a0, a1, a2, a3, a4, a5⟩
    · exact Or.inl ⟨a1, by rw [he 9 (by decide)]; exact a2⟩
    · refine Or.inr ⟨gn, ins, g, g', a0, by rw [he 9 (by decide)]; exact a1, by rw [he 10 (by decide)]; exact a2, kp _ _ a3 (nk1 a3), kp _ _ a4 (nk1 a4), fun i x e => ?_⟩
      obtain ⟨b1, su', b2, b3⟩ := a5 i x e
      refine ⟨b1, su', b2, b3.keep (fun a cc e k => ?_) (fun a fs e => ⟨fs, kp _ _ e (nk2 e (by decide))⟩)⟩
      rcases k with ⟨y, rfl⟩ | ⟨y, rfl⟩
      · exact kp _ _ e (nk2 e (by decide))
      · exact kp _ _ e (nk1 e)
  rw [show n + 2 = (n + 1) + 1 from rfl, oE_X2_recall]
  unfold ob_X2_recall
  rw [if_neg (show ¬ nI i < 0 from nI_nn (by omega)), fK1, ovr_rf, obn_at, fO7, ovi_i, obn_at, if_pos (nI_lt hil (by omega)), obn_at, fO6, ovr_rf, obn_at, r1, obn_at, obn_at, fO5, ovr_rf, obn_at, r2, obn_at, opf_at h1 (by omega), obn_at, oth _ _ _ _ nk, q3, ovl_lg, obn_at, pf _ _ _ (by rw [List.length_set]; exact l15) (by decide), obn_at]
  generalize eA : ((fs0.set 11 (.int (jRc r))).set 14 (.long pl)) = fA
  have lA : fA.length = 15 := by rw [← eA, List.length_set, List.length_set]; exact l15
  -- from the term on
  have e65 : ∀ (t0 : Option Nat), ((t.1 = none ∧ t0 = none) ∨ ∃ a, t.1 = some (a, h0.toInt) ∧ (h0.toInt = 1 ∨ h0.toInt = -1) ∧ t0 = some a) → ∃ fs', oj_X2_recall_65 T (oF κ T (n + 1)) κ (some k) (some su) (some k) t0 (oput σ k (.inr (4, fA))) = some (none, oput σ k (.inr (4, fs'))) ∧ kRf fs0 fs' r (kRs G t) := fun t0 ht => by
    unfold oj_X2_recall_65
    rw [pf _ _ _ lA (by decide), obn_at, oth _ _ _ _ nk, q2, ovr_rf, obn_at, otj _ _ _ _ _ q5, obn_at, pf _ _ _ (by rw [List.length_set]; exact lA) (by decide), obn_at, gf]
    generalize eB : ((fA.set 13 (va_rf t0)).set 12 (.int h0)) = fB
    have lB : fB.length = 15 := by rw [← eB, List.length_set, List.length_set]; exact lA
    have B13 : fB[13]? = some (va_rf t0) := by rw [← eB, List.getElem?_set_ne (by decide), List.getElem?_set_self (by omega)]
    have B12 : fB[12]? = some (.int h0) := by rw [← eB, List.getElem?_set_self (by rw [List.length_set]; omega)]
    have B14 : fB[14]? = some (.long pl) := by rw [← eB, List.getElem?_set_ne (by decide), List.getElem?_set_ne (by decide), ← eA, List.getElem?_set_self (by rw [List.length_set]; omega)]
    have B11 : fB[11]? = some (.int (jRc r)) := by rw [← eB, List.getElem?_set_ne (by decide), List.getElem?_set_ne (by decide), ← eA, List.getElem?_set_ne (by decide), List.getElem?_set_self (by omega)]
    have Blo : ∀ i, i < 11 → fB[i]? = fs0[i]? := fun i hi => by rw [← eB, List.getElem?_set_ne (by omega), List.getElem?_set_ne (by omega), ← eA, List.getElem?_set_ne (by omega), List.getElem?_set_ne (by omega)]
    rw [B13, ovr_va, obn_at, oob_at (oput_eq _ _ _), obn_at]
    have kb := kG fB lB Blo
    rcases ht with ⟨e1, rfl⟩ | ⟨a, e1, e2, rfl⟩
    · -- no NAME
      have i0 : oF κ T (n + 1) 45 [va_rf (some k), va_rf none] (oput σ k (.inr (4, fB))) = some (some (va_rf none), oput σ k (.inr (4, fB))) := by
        obtain ⟨T, rfl⟩ : ∃ t', T = t' + 1 := ⟨T - 1, by omega⟩
        rw [oE_X2_insteadOf]
        unfold ob_X2_insteadOf
        rw [ol_X2_insteadOf_2, gf]
        obtain ⟨fs', g1, g2, g3, gl, g4⟩ := kb
        have e' : fs' = fB := by
          rw [oput_eq] at g1
          injection g1 with e
          injection e with e
          injection e with e e2
          exact e2.symm
        subst e'
        rcases g4 with ⟨-, a2⟩ | ⟨gn, ins, g, g', -, a1, -⟩
        · rw [a2]; rfl
        · rw [a1, ovr_rf, obn_at, if_neg (by simp), if_pos rfl]
      rw [i0]
      refine ⟨fB, rfl, by omega, Blo, B11, ⟨pl, B14, ?_⟩, Or.inl ⟨?_, B13⟩⟩
      · unfold kRs; rw [e1]; exact q4
      · unfold kRs; rw [e1]; exact e1
    · rcases c_instead (κ := κ) (T := T) (n := n) (a := a) hT kb with ⟨z1, z2⟩ | ⟨su', u, z1, z2, z3⟩
      · rw [z2]
        refine ⟨fB, rfl, by omega, Blo, B11, ⟨pl, B14, ?_⟩, Or.inr ⟨a, h0, ?_, e2, B13, B12⟩⟩
        · unfold kRs; rw [e1]; simp only [z1]; exact q4
        · unfold kRs; rw [e1]; simp only [z1]; exact e1
      · have sue' : ∃ sf', (oput σ k (.inr (4, fB))).1 su' = some (.inr (11, sf')) := by
          obtain ⟨na, ta, cap, Ls, pl, ⟨g, h', s1, -⟩, -⟩ := z2
          exact ⟨_, s1⟩
        obtain ⟨sf', sue'⟩ := sue'
        have nk' : su' ≠ k := fun e => by
          subst e
          rw [oput_eq] at sue'
          injection sue' with e
          injection e with e
          injection e with e e2
          exact absurd e (by decide)
        have z2b := z2
        obtain ⟨_, _, _, _, _, _, _, bt', _⟩ := z2b
        obtain ⟨na', ta', pl', h0', q1', q2', q3', q4', q5', q6'⟩ := z2.f
        have oth' : ∀ (fx : List Value) (ci c : Nat), ofd (oput σ k (.inr (4, fx))) (some su') ci c = ofd (oput σ k (.inr (4, fB))) (some su') ci c := fun fx ci c => by rw [oth _ _ _ _ nk', oth _ _ _ _ nk']
        have tk : ta' ≠ k := fun z => by
          subst z
          simp only [oai, oput_eq] at q5'
          cases q5'
        have otj' : ∀ fx : List Value, oai (oput σ k (.inr (4, fx))) (some ta') .int 0 = some h0' := fun fx => by
          simp only [oai, oput_ne tk] at q5' ⊢
          exact q5'
        rw [z3, orn_at, if_neg (by simp), gf, B14, ovl_lg, obn_at, gf, B12, ovi_i, obn_at, q3', ovl_lg, obn_at, pf _ _ _ lB (by decide), obn_at]
        generalize eC : fB.set 14 (.long (pl + h0.toInt64 * pl')) = fC
        have lC : fC.length = 15 := by rw [← eC, List.length_set]; exact lB
        have wv : (pl + h0.toInt64 * pl').toInt = t.2 + h0.toInt * u.2 := by rw [i64_pm e2 (by rw [q4]; exact bt.1) (by rw [q4']; exact bt'.1), q4, q4']
        have C12 : fC[12]? = some (.int h0) := by rw [← eC, List.getElem?_set_ne (by decide)]; exact B12
        -- the end
        have e128 : ∀ t1 : Option Nat, ∃ fs', oj_X2_recall_128 T (oF κ T (n + 1)) κ (some k) (some su') (some k) t1 (oput σ k (.inr (4, fC))) = some (none, oput σ k (.inr (4, fs'))) ∧ fs' = (fC.set 13 (va_rf t1)).set 12 (.int (h0 * h0')) := fun t1 => by
          unfold oj_X2_recall_128
          rw [pf _ _ _ lC (by decide), obn_at, gf, List.getElem?_set_ne (by decide), C12, ovi_i, obn_at, oth', q2', ovr_rf, obn_at, otj', obn_at, pf _ _ _ (by rw [List.length_set]; exact lC) (by decide), obn_at]
          exact ⟨_, rfl, rfl⟩
        have fin : ∀ t1 : Option Nat, ∀ fs', fs' = (fC.set 13 (va_rf t1)).set 12 (.int (h0 * h0')) → fs'.length = fs0.length ∧ (∀ i, i < 11 → fs'[i]? = fs0[i]?) ∧ fs'[11]? = some (.int (jRc r)) ∧ fs'[14]? = some (.long (pl + h0.toInt64 * pl')) ∧ fs'[13]? = some (va_rf t1) ∧ fs'[12]? = some (.int (h0 * h0')) := fun t1 fs' e => by
          subst e
          refine ⟨by rw [List.length_set, List.length_set]; omega, fun i hi => ?_, ?_, ?_, ?_, ?_⟩
          · rw [List.getElem?_set_ne (by omega), List.getElem?_set_ne (by omega), ← eC, List.getElem?_set_ne (by omega)]; exact Blo i hi
          · rw [List.getElem?_set_ne (by decide), List.getElem?_set_ne (by decide), ← eC, List.getElem?_set_ne (by decide)]; exact B11
          · rw [List.getElem?_set_ne (by decide), List.getElem?_set_ne (by decide), ← eC, List.getElem?_set_self (by omega)]
          · rw [List.getElem?_set_ne (by decide), List.getElem?_set_self (by omega)]
          · rw [List.getElem?_set_self (by rw [List.length_set]; omega)]
        rcases q6' with ⟨u1, u2⟩ | ⟨a', u1, u2, u3, u4⟩
        · rw [oth', u2, ovi_i, obn_at, if_pos rfl]
          obtain ⟨fs', x1, x2⟩ := e128 none
          obtain ⟨y1, y2, y3, y4, y5, y6⟩ := fin none fs' x2
          refine ⟨fs', x1, y1, y2, y3, ⟨_, y4, ?_⟩, Or.inl ⟨?_, y5⟩⟩
          · unfold kRs; rw [e1]; simp only [z1]; exact wv
          · unfold kRs; rw [e1]; simp only [z1, u1]; rfl
        · have nn : na' ≠ k := fun z => by
            subst z
            simp only [oar, oput_eq] at u4
            cases u4
          have otr' : oar (oput σ k (.inr (4, fC))) (some na') 0 = some (some a') := by
            simp only [oar, oput_ne nn] at u4 ⊢
            exact u4
          rw [oth', u3, ovi_i, obn_at, if_neg (by decide), oth', q1', ovr_rf, obn_at, otr', obn_at]
          obtain ⟨fs', x1, x2⟩ := e128 (some a')
          obtain ⟨y1, y2, y3, y4, y5, y6⟩ := fin (some a') fs' x2
          obtain ⟨m1, m2⟩ := i32_pm e2 u2
          refine ⟨fs', x1, y1, y2, y3, ⟨_, y4, ?_⟩, Or.inr ⟨a', h0 * h0', ?_, m2, y5, y6⟩⟩
          · unfold kRs; rw [e1]; simp only [z1]; exact wv
          · unfold kRs; rw [e1]; simp only [z1, u1]
            show some (a', h0.toInt * h0'.toInt) = _
            rw [m1]
  rcases q6 with ⟨u1, u2⟩ | ⟨a, u1, u2, u3, u4⟩
  · rw [oth _ _ _ _ nk, u2, ovi_i, obn_at, if_pos rfl]
    exact e65 none (Or.inl ⟨u1, rfl⟩)
  · rw [oth _ _ _ _ nk, u3, ovi_i, obn_at, if_neg (by decide), oth _ _ _ _ nk, q1, ovr_rf, obn_at, otr _ _ _ _ u4, obn_at]
    exact e65 (some a) (Or.inr ⟨a, u1, u2, rfl⟩)
end KRC
