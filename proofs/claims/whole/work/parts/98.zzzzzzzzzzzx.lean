/-! the class's Judge: learn() -/
/-- what learn() does not write: of a Known only what was recalled changes -/
def jK4 (pa ph ta th : Nat) (σ σ' : oSt) : Prop := (∀ x cc, σ.1 x = some cc → jFr pa ph ta th x cc → (∀ fs, cc ≠ .inr (4, fs)) → σ'.1 x = some cc) ∧ (∀ x fs, σ.1 x = some (.inr (4, fs)) → ∃ fs', σ'.1 x = some (.inr (4, fs')) ∧ fs'.length = fs.length ∧ ∀ i, i < 11 → fs'[i]? = fs[i]?) ∧ (∀ x, σ.1 x = none → (x < σ.2.1 ∨ σ'.2.1 ≤ x) → σ'.1 x = none) ∧ σ.2.1 ≤ σ'.2.1
section JK4
variable {lo : Nat × (Nat → Prop)} {pa ph ta th k w ra sa : Nat} {σ σ' : oSt} {F : List kFc} {G : List (Nat × kTe)} {κ : oKv} {c : Nat} {rd : Int32} {B : Int} {sl ti : Nat → Nat} {Mn : Nat → Bool → List oBr} {X : Nat → Prop}
theorem jK4.rf (σ : oSt) : jK4 pa ph ta th σ σ := ⟨fun _ _ h _ _ => h, fun _ fs h => ⟨fs, h, rfl, fun _ _ => rfl⟩, fun _ h _ => h, Nat.le_refl _⟩
theorem jK4.tr {a b c : oSt} (h : jK4 pa ph ta th a b) (g : jK4 pa ph ta th b c) : jK4 pa ph ta th a c := ⟨fun x cc e k l => g.1 x cc (h.1 x cc e k l) k l, fun x fs e => by
  obtain ⟨f1, a1, a2, a3⟩ := h.2.1 x fs e
  obtain ⟨f2, b1, b2, b3⟩ := g.2.1 x f1 a1
  exact ⟨f2, b1, b2.trans a2, fun i hi => (b3 i hi).trans (a3 i hi)⟩, fun x e k => g.2.2.1 x (h.2.2.1 x e (k.imp id (fun w => Nat.le_trans g.2.2.2 w))) (k.imp (fun w => Nat.lt_of_lt_of_le w h.2.2.2) id), Nat.le_trans h.2.2.2 g.2.2.2⟩
theorem jKp.k4 (h : jKp pa ph ta th σ σ') : jK4 pa ph ta th σ σ' := ⟨fun x cc e k _ => h.1 x cc e k, fun x fs e => ⟨fs, h.1 _ _ e ⟨by show (4 : Nat) ≠ 3; decide, by show (4 : Nat) ≠ 8; decide⟩, rfl, fun _ _ => rfl⟩, h.2.1, h.2.2⟩
theorem jK4.ob (h : jK4 pa ph ta th σ σ') {x k : Nat} {fs : List Value} (e : σ.1 x = some (.inr (k, fs))) (h3 : k ≠ 3) (h8 : k ≠ 8) (h4 : k ≠ 4) : σ'.1 x = some (.inr (k, fs)) := h.1 _ _ e ⟨h3, h8⟩ (fun fs' w => by injection w with w; injection w with w w2; exact h4 w)
theorem jK4.ar (h : jK4 pa ph ta th σ σ') {x : Nat} {y} (e : σ.1 x = some (.inl y)) (hl : y.1 ≠ .long) (hx : x ≠ pa ∧ x ≠ ph ∧ x ≠ ta ∧ x ≠ th) : σ'.1 x = some (.inl y) := h.1 _ _ e ⟨hl, hx⟩ (fun fs' w => (by cases w))
theorem jK4.fr (h : jK4 pa ph ta th σ σ') (hf : ∀ q, σ.2.1 ≤ q → σ.1 q = none) : ∀ q, σ'.2.1 ≤ q → σ'.1 q = none := fun q hq => h.2.2.1 q (hf q (Nat.le_trans h.2.2.2 hq)) (Or.inr hq)
theorem cTm.k4 {su : Nat} {t : kTe} (hJ : pa < lo.1 ∧ ph < lo.1 ∧ ta < lo.1 ∧ th < lo.1) (h : jK4 pa ph ta th σ σ') (g : cTm lo σ su t) : cTm lo σ' su t := by
  obtain ⟨na, ta', cap, Ls, pl, ⟨g, h', s1, s2, s3, s4, s5⟩, h2, ⟨h3, l1, l2, l3⟩, h4⟩ := g
  refine ⟨na, ta', cap, Ls, pl, ⟨g, h', h.ob s1 (by decide) (by decide) (by decide), h.ar s2 (fun e => by cases e) (by omega), h.ar s3 (fun e => by cases e) (by omega), s4, fun k b c e => ?_⟩, h2, ⟨h3, l1, l2, l3⟩, h4⟩
  obtain ⟨q1, q2, fs, q3⟩ := s5 k b c e
  exact ⟨q1, q2, fs, h.ob q3 (by decide) (by decide) (by decide)⟩
theorem kOr.k4 (hJ : pa < lo.1 ∧ ph < lo.1 ∧ ta < lo.1 ∧ th < lo.1) (h : jK4 pa ph ta th σ σ') (g : kOr lo σ w ra sa F) : kOr lo σ' w ra sa F := by
  obtain ⟨fo, cap, hr, gs, o1, o2, o3, o4, o5⟩ := g
  obtain ⟨f1, a1, a2, a3⟩ := h.2.1 _ _ o1
  refine ⟨f1, cap, hr, gs, a1, a2.trans o2, (a3 7 (by decide)).trans o3, o4, ?_⟩
  rcases o5 with o5 | ⟨o5, o6, o7, o8, ⟨o9, l1, l2, l3⟩, o10⟩
  · exact Or.inl o5
  · refine Or.inr ⟨(a3 5 (by decide)).trans o5, (a3 6 (by decide)).trans o6, h.ar o7 (fun e => by cases e) (by omega), h.ar o8 (fun e => by cases e) (by omega), ⟨o9, l1, l2, l3⟩, fun i x e => ?_⟩
    obtain ⟨p1, p2, su, p3, p4⟩ := o10 i x e
    exact ⟨p1, p2, su, p3, p4.k4 hJ h⟩
theorem kGo.k4 (hJ : pa < lo.1 ∧ ph < lo.1 ∧ ta < lo.1 ∧ th < lo.1) (h : jK4 pa ph ta th σ σ') (g : kGo lo σ k w G) : kGo lo σ' k w G := by
  obtain ⟨fs, o1, o2, o3, o4, o5⟩ := g
  obtain ⟨f1, a1, a2, a3⟩ := h.2.1 _ _ o1
  refine ⟨f1, a1, a2.trans o2, (a3 1 (by decide)).trans o3, o4, ?_⟩
  rcases o5 with ⟨b1, b2⟩ | ⟨gn, ins, g, g', ⟨l1, l2, l3⟩, b1, b2, b3, b4, b5⟩
  · exact Or.inl ⟨b1, (a3 9 (by decide)).trans b2⟩
  · refine Or.inr ⟨gn, ins, g, g', ⟨l1, l2, l3⟩, (a3 9 (by decide)).trans b1, (a3 10 (by decide)).trans b2, h.ar b3 (fun e => by cases e) (by omega), h.ar b4 (fun e => by cases e) (by omega), fun i x e => ?_⟩
    obtain ⟨p1, su, p3, p4⟩ := b5 i x e
    exact ⟨p1, su, p3, p4.k4 hJ h⟩
theorem nSl.k4 {a : Nat} (h : jK4 pa ph ta th σ σ') (g : nSl σ rd sl c a) : nSl σ' rd sl c a := by
  obtain ⟨fs, g1, g2⟩ := g
  exact ⟨fs, h.ob g1 (by decide) (by decide) (by decide), g2⟩
/-- recall() alone -/
theorem jK4.rc {fs fs' : List Value} {r : Nat} {t : kTe} (hk : σ.1 k = some (.inr (4, fs))) (h : kRf fs fs' r t) : jK4 pa ph ta th σ (oput σ k (.inr (4, fs'))) := by
  refine ⟨fun x cc e _ n4 => ?_, fun x f e => ?_, fun x e _ => ?_, Nat.le_refl _⟩
  · have : x ≠ k := fun z => by
      subst z
      rw [hk] at e
      injection e with e
      exact n4 fs e.symm
    exact (oput_ne this).trans e
  · by_cases z : x = k
    · subst z
      rw [hk] at e
      injection e with e
      injection e with e
      injection e with e e2
      subst e2
      exact ⟨fs', oput_eq _ _ _, h.1, h.2.1⟩
    · exact ⟨f, (oput_ne z).trans e, rfl, fun _ _ => rfl⟩
  · have : x ≠ k := fun z => by
      subst z
      rw [hk] at e
      cases e
    exact (oput_ne this).trans e
end JK4
theorem jSt.k {σ : oSt} {j o ca pa ph ta th len W b k : Nat} {cl fa : Int32} {f : Nat → Int64} {rd : Int32} {wk : Option Nat} {ps : Int32} {P Tr : List (Nat × Bool)} {fs fs' : List Value} (J : jSt σ j o ca pa ph ta th len W b cl fa f rd wk ps P Tr) (hk : σ.1 k = some (.inr (4, fs))) : jSt (oput σ k (.inr (4, fs'))) j o ca pa ph ta th len W b cl fa f rd wk ps P Tr := by
  obtain ⟨h1, ⟨h2, h3⟩, ⟨gp, hp, h4, h5, h6⟩, ⟨gt, ht, h7, h8, h9⟩, h10, h11⟩ := J
  have ne : ∀ {x : Nat} {cc : oC}, σ.1 x = some cc → (∀ f, cc ≠ .inr (4, f)) → (oput σ k (.inr (4, fs'))).1 x = some cc := fun {x cc} e h => by
    have : x ≠ k := fun z => by
      subst z
      rw [hk] at e
      injection e with e
      exact h fs e.symm
    exact (oput_ne this).trans e
  refine ⟨ne h1 (fun f w => ?_), ⟨ne h2 (fun f w => ?_), ne h3 (fun f w => by cases w)⟩, ⟨gp, hp, ne h4 (fun f w => by cases w), ne h5 (fun f w => by cases w), h6⟩, ⟨gt, ht, ne h7 (fun f w => by cases w), ne h8 (fun f w => by cases w), h9⟩, h10, h11⟩
  · injection w with w
    injection w with w
    exact absurd w (by decide)
  · injection w with w
    injection w with w
    exact absurd w (by decide)
/-- a FACT's bounds -/
def kBd (B : Int) (t : kTe) : Prop := (-1125899906842624 ≤ t.2 ∧ t.2 ≤ 1125899906842624) ∧ -B ≤ 2 * t.2 - 2 ∧ 2 * t.2 + 2 ≤ B
/-- the limits that a type tells of the unknown s -/
def lrnL (sl : Nat → Nat) (s : Nat) (ar : Bool) (G : List (Nat × kTe)) (F : List kFc) : List oLm := (if ar = true then [(2 * s + 1, 2 * s + 1, 0)] else []) ++ F.flatMap (fun x => facL s (x.1, kSl sl (kRs G x.2)))
section JLE
variable {κ : oKv} {T n j o ca pa ph ta th len W b c k s w ra sa : Nat} {lo : Nat × (Nat → Prop)} {cl fa : Int32} {f : Nat → Int64} {rd : Int32} {wk : Option Nat} {ps : Int32} {P Tr : List (Nat × Bool)} {B : Int} {sl : Nat → Nat} {σ : oSt} {L : List oLm} {F : List kFc} {G : List (Nat × kTe)}
theorem c_learn {kd : Int32} {fs : List Value} (hT : 100200 ≤ T) (hJ : pa < lo.1 ∧ ph < lo.1 ∧ ta < lo.1 ∧ th < lo.1) (hc : 0 < c ∧ c ≤ 60) (hWc : W = 2 * c) (hl : len < 2 ^ 31) (hm : b + W * W ≤ len) (hB : 2 ≤ B) (hBW : (W : Int) * B + B + 2 ≤ 4503599627370496) (hL : xLn B W L) (J : jSt σ j o ca pa ph ta th len W b cl fa f rd wk ps P Tr) (hv : oLv cl B W b L f fa) (hk : σ.1 k = some (.inr (4, fs))) (h0 : fs[0]? = some (.int kd)) (hG : kGo lo σ k w G) (hO : kOr lo σ w ra sa F) (hn : ∀ x, x ∈ F → (∀ a e, (kRs G x.2).1 = some (a, e) → nSl σ rd sl c a) ∧ kBd B (kRs G x.2)) (hs : s < c) : ∃ σ' f' fa' L', oF κ T (n + 4) 50 [va_rf (some j), va_rf (some k), .int (nI s)] σ = some (none, σ') ∧ jSt σ' j o ca pa ph ta th len W b cl fa' f' rd wk ps P Tr ∧ jK4 pa ph ta th σ σ' ∧ σ'.2 = σ.2 ∧ oLv cl B W b L' f' fa' ∧ xC L' = xC (lrnL sl s (decide (kd ≠ 210)) G F ++ L) ∧ xLn B W L' ∧ ∀ e, (e < b ∨ b + W * W ≤ e) → f' e = f e := by
  have loop : ∀ (d i t : Nat) (σ1 : oSt) (f1 : Nat → Int64) (fa1 : Int32) (L1 : List oLm), i + d = F.length → d < t → jK4 pa ph ta th σ σ1 → σ1.2 = σ.2 → jSt σ1 j o ca pa ph ta th len W b cl fa1 f1 rd wk ps P Tr → oLv cl B W b L1 f1 fa1 → xLn B W L1 → ∃ σ' f' fa' L', ol_X1_learn_30 T (oF κ T (n + 3)) κ t (some j) (some k) (nI s) (nI i) σ1 = some (none, σ') ∧ jSt σ' j o ca pa ph ta th len W b cl fa' f' rd wk ps P Tr ∧ jK4 pa ph ta th σ σ' ∧ σ'.2 = σ.2 ∧ oLv cl B W b L' f' fa' ∧ xC L' = xC ((F.drop i).flatMap (fun x => facL s (x.1, kSl sl (kRs G x.2))) ++ L1) ∧ xLn B W L' ∧ ∀ e, (e < b ∨ b + W * W ≤ e) → f' e = f1 e := by
    intro d
    induction d with
    | zero =>
      intro i t σ1 f1 fa1 L1 hi ht K1 E1 J1 V1 X1
      obtain ⟨t, rfl⟩ : ∃ t', t = t' + 1 := ⟨t - 1, by omega⟩
      have G1 := hG.k4 hJ K1
      have O1 := hO.k4 hJ K1
      obtain ⟨fk, g1, g2, g3, -⟩ := G1
      obtain ⟨fo, cap, hr, gs, o1, o2, o3, o4, o5⟩ := O1
      refine ⟨σ1, f1, fa1, L1, ?_, J1, K1, E1, V1, ?_, X1, fun _ _ => rfl⟩
      · rw [ol_X1_learn_30, show ofd σ1 (some k) 4 1 = some (.ref w) from (ofd_at g1).trans g3, ovr_rf, obn_at, show ofd σ1 (some w) 4 7 = some (.int (nI F.length)) from (ofd_at o1).trans o3, ovi_i, obn_at, if_pos (nI_le (by omega) (by omega))]
      · rw [List.drop_of_length_le (by omega)]
        rfl
    | succ d ih =>
      intro i t σ1 f1 fa1 L1 hi ht K1 E1 J1 V1 X1
      obtain ⟨t, rfl⟩ : ∃ t', t = t' + 1 := ⟨t - 1, by omega⟩
      have G1 := hG.k4 hJ K1
      have O1 := hO.k4 hJ K1
      have G1' := G1
      have O1' := O1
      obtain ⟨fk, g1, g2, g3, -⟩ := G1'
      obtain ⟨fo, cap, hr, gs, o1, o2, o3, o4, o5⟩ := O1'
      have hil : i < F.length := by omega
      have ed : F.drop i = F[i] :: F.drop (i + 1) := List.drop_eq_getElem_cons hil
      have eF : F[i]? = some F[i] := List.getElem?_eq_getElem hil
      have mF : F[i] ∈ F := List.getElem_mem hil
      have r4 : F[i].1 ≤ 4 := by
        rcases o5 with o5 | ⟨-, -, -, -, -, o10⟩
        · rw [o5] at hil; exact absurd hil (Nat.not_lt_zero _)
        · exact (o10 i _ eF).2.1
      generalize F[i] = x at ed eF mF r4
      obtain ⟨fs', c1, c2⟩ := c_recall (κ := κ) (T := T) (n := n + 1) (i := i) (r := x.1) (t := x.2) (by omega) O1 G1 g1 eF
      obtain ⟨b1, b2⟩ := hn x mF
      have K2 : jK4 pa ph ta th σ1 (oput σ1 k (.inr (4, fs'))) := jK4.rc g1 c2
      obtain ⟨v, σ2, f2, fa2, L2, m1, m2, m3, m4, m5, m6, m7, m8⟩ := c_meet0 (κ := κ) (T := T) (n := n) (s := s) (sl := sl) (by omega) hc hWc hl hm (by omega) hBW X1 (J1.k (fs' := fs') g1) V1 (oput_eq _ _ _) c2 r4 (fun a e w => ((b1 a e w).k4 K1).k4 K2) hs b2.1 b2.2
      obtain ⟨σ', f', fa', L', i1, i2, i3, i4, i5, i6, i7, i8⟩ := ih (i + 1) t σ2 f2 fa2 L2 (by omega) (by omega) ((K1.tr K2).tr m3.k4) (m4.trans E1) m2 m5 m7
      refine ⟨σ', f', fa', L', ?_, i2, i3, i4, i5, ?_, i7, fun e he => (i8 e he).trans (m8 e he)⟩
      · rw [ol_X1_learn_30, show ofd σ1 (some k) 4 1 = some (.ref w) from (ofd_at g1).trans g3, ovr_rf, obn_at, show ofd σ1 (some w) 4 7 = some (.int (nI F.length)) from (ofd_at o1).trans o3, ovi_i, obn_at, if_neg (nI_ge (by omega) (by omega)), oob_at g1, obn_at, c1, ocv_at, oob_at (J1.k (fs' := fs') g1).1, obn_at, m1, oin_at, nI_p1]
        exact i1
      · rw [i6, xC.app, m6, ed, ← xC.app]
        refine xC.cg fun l => ?_
        rw [List.flatMap_cons]
        simp only [List.mem_append]
        exact ⟨fun z => by rcases z with z | z | z <;> simp [z], fun z => by rcases z with (z | z) | z <;> simp [z]⟩
  rw [show n + 4 = (n + 3) + 1 from rfl, oE_X1_learn]
  unfold ob_X1_learn oj_X1_learn_28
  rw [show ofd σ (some k) 4 0 = some (.int kd) from (ofd_at hk).trans h0, ovi_i, obn_at]
  have hFl : F.length ≤ 100000 := by
    obtain ⟨fo, cap, hr, gs, o1, o2, o3, o4, o5⟩ := hO
    exact o4
  by_cases z : kd = 210
  · rw [if_pos z]
    obtain ⟨σ', f', fa', L', i1, i2, i3, i4, i5, i6, i7, i8⟩ := loop F.length 0 T σ f fa L (Nat.zero_add _) (by omega) (jK4.rf σ) rfl J hv hL
    refine ⟨σ', f', fa', L', i1, i2, i3, i4, i5, ?_, i7, i8⟩
    rw [i6]
    unfold lrnL
    rw [if_neg (by simp [z])]
    rfl
  · rw [if_neg z]
    have fJ0 : ofd σ (some j) 3 0 = some (.ref o) := ofd_at J.1
    have m12 := J.ne.2.1.1
    have e0 : (0 : Int64).toInt = 0 := by decide
    obtain ⟨f', fa', a1, a2, a3⟩ := c_olim (κ := κ) (T := T) (n := n + 1) (σ := σ) (ca := ca) (o := o) (x := 2 * s + 1) (y := 2 * s + 1) (w := 0) (by omega) (by omega) hWc (Ne.symm m12) hl hm (by omega) (by omega) (by omega) hBW hL (by rw [e0]; omega) hv
    rw [J.oc] at a1
    obtain ⟨p1, p2⟩ := J.put (fa' := fa') (f' := f')
    have X1 : xLn B W ((2 * s + 1, 2 * s + 1, (0 : Int64).toInt) :: L) := fun l hl' => by
      rcases List.mem_cons.mp hl' with rfl | hl'
      · exact ⟨by show 2 * s + 1 < W; omega, by show 2 * s + 1 < W; omega, by show -B ≤ (0 : Int64).toInt; rw [e0]; omega, by show (0 : Int64).toInt ≤ B; rw [e0]; omega⟩
      · exact hL l hl'
    obtain ⟨σ', f2, fa2, L', i1, i2, i3, i4, i5, i6, i7, i8⟩ := loop F.length 0 T _ f' fa' _ (Nat.zero_add _) (by omega) p2.k4 rfl p1 a2 X1
    refine ⟨σ', f2, fa2, L', ?_, i2, i3, i4, i5, ?_, i7, fun e he => (i8 e he).trans (a3 e he)⟩
    · rw [fJ0, ovr_rf, obn_at, oob_at J.2.1.1, obn_at, n2a, nI_p1, a1, ocv_at]
      exact i1
    · rw [i6]
      unfold lrnL
      rw [if_pos (by simp [z]), e0]
      refine xC.cg fun l => ?_
      simp only [List.mem_append, List.mem_cons, List.drop_zero]
      exact ⟨fun z => by rcases z with z | z | z <;> simp [z], fun z => by rcases z with (z | z) | z <;> simp_all⟩
end JLE
