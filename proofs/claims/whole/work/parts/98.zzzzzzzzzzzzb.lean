/-! the class's Judge: conclude(), isDecided() where INSTANCES are taken away -/
section JCP
variable {lo : Nat × (Nat → Prop)} {κ : oKv} {T n j o ca pa ph ta th len W b c k w ra sa : Nat} {cl fa : Int32} {f : Nat → Int64} {rd : Int32} {wk : Option Nat} {ps : Int32} {P Tr : List (Nat × Bool)} {B : Int} {sl : Nat → Nat} {σ σ' : oSt} {L : List oLm} {F : List kFc} {G : List (Nat × kTe)}
/-- the rows are rows -/
def kRw (lo : Nat × (Nat → Prop)) (ra sa : Nat) (σ : oSt) : Prop := ((∃ y, σ.1 ra = some (.inl (.int, y))) ∧ ∃ y, σ.1 sa = some (.inl (.object "LiquidTongue$Sum", y))) ∧ (lo.2 ra ∧ lo.2 sa) ∧ lo.1 ≤ ra ∧ lo.1 ≤ sa
/-- FACTS that are asked for -/
def rpB (lo : Nat × (Nat → Prop)) (k w ra sa : Nat) (G : List (Nat × kTe)) (rd : Int32) (sl : Nat → Nat) (c : Nat) (B : Int) (σ : oSt) (ps : Int32) (S : List kFc) : Prop := kOr lo σ w ra sa S ∧ kGo lo σ k w G ∧ kRw lo ra sa σ ∧ ∀ x, x ∈ S → (∀ a e, (kRs G x.2).1 = some (a, e) → nSl σ rd sl c a) ∧ kBd B (kRs G x.2)
theorem kRw.k4 (hJ : pa < lo.1 ∧ ph < lo.1 ∧ ta < lo.1 ∧ th < lo.1) (h : jK4 pa ph ta th σ σ') (g : kRw lo ra sa σ) : kRw lo ra sa σ' := by
  obtain ⟨⟨⟨y, g1⟩, z, g2⟩, g3, g4, g5⟩ := g
  exact ⟨⟨⟨y, h.ar g1 (fun e => by cases e) (by omega)⟩, z, h.ar g2 (fun e => by cases e) (by omega)⟩, g3, g4, g5⟩
theorem rpB.k4 {S : List kFc} (hJ : pa < lo.1 ∧ ph < lo.1 ∧ ta < lo.1 ∧ th < lo.1) (h : jK4 pa ph ta th σ σ') (g : rpB lo k w ra sa G rd sl c B σ ps S) : rpB lo k w ra sa G rd sl c B σ' ps S := ⟨g.1.k4 hJ h, g.2.1.k4 hJ h, g.2.2.1.k4 hJ h, fun x hx => ⟨fun a e q => ((g.2.2.2 x hx).1 a e q).k4 h, (g.2.2.2 x hx).2⟩⟩
theorem kGo.ex (h : kGo lo σ k w G) : ∃ fs, σ.1 k = some (.inr (4, fs)) := by
  obtain ⟨fs, h1, -⟩ := h
  exact ⟨fs, h1⟩
theorem kOr.ex (h : kOr lo σ w ra sa F) : ∃ fs, σ.1 w = some (.inr (4, fs)) := by
  obtain ⟨fs, cap, hr, gs, h1, -⟩ := h
  exact ⟨fs, h1⟩
/-- cells of other kinds -/
theorem cHg.ob (h : cHg k w ra sa σ σ') (hk : ∃ fs, σ.1 k = some (.inr (4, fs))) (hw : ∃ fs, σ.1 w = some (.inr (4, fs))) (hR : kRw lo ra sa σ) {x i : Nat} {fs : List Value} (e : σ.1 x = some (.inr (i, fs))) (h4 : i ≠ 4) : σ'.1 x = some (.inr (i, fs)) := by
  obtain ⟨fk, hk⟩ := hk
  obtain ⟨fw, hw⟩ := hw
  obtain ⟨⟨⟨ya, ha⟩, yb, hb⟩, -⟩ := hR
  have n1 : x ≠ k := fun z => by subst z; rw [hk] at e; injection e with e; injection e with e; injection e with e; exact h4 e.symm
  have n2 : x ≠ w := fun z => by subst z; rw [hw] at e; injection e with e; injection e with e; injection e with e; exact h4 e.symm
  have n3 : x ≠ ra := fun z => by subst z; rw [ha] at e; injection e with e; cases e
  have n4 : x ≠ sa := fun z => by subst z; rw [hb] at e; injection e with e; cases e
  rw [h.1 x n1 n2 n3 n4]
  exact e
theorem kGo.hg (h : cHg k w ra sa σ σ') (hw : ∃ fs, σ.1 w = some (.inr (4, fs))) (hR : kRw lo ra sa σ) (g : kGo lo σ k w G) : kGo lo σ' k w G := by
  have hk := g.ex
  obtain ⟨fs, g1, g2, g3, gl, g4⟩ := g
  obtain ⟨f1, a1, a2, a3⟩ := h.2.2 k fs (Or.inl rfl) g1
  refine ⟨f1, a1, a2.trans g2, (a3 1 (by decide) (fun e => absurd e (by decide))).trans g3, gl, ?_⟩
  rcases g4 with ⟨b1, b2⟩ | ⟨gn, ins, g, g', ⟨l1, l2, l3⟩, b1, b2, b3, b4, b5⟩
  · exact Or.inl ⟨b1, (a3 9 (by decide) (fun e => absurd e (by decide))).trans b2⟩
  · have hR' := hR
    obtain ⟨⟨⟨ya, ha⟩, yb, hb⟩, ⟨r1, r2⟩, -⟩ := hR'
    obtain ⟨fw, hw'⟩ := hw
    have no : ∀ {x y : Nat} {a b : oC}, σ.1 x = some a → σ.1 y = some b → a ≠ b → x ≠ y := fun {x y a b} e1 e2 hne e => by
      subst e
      rw [e1] at e2
      exact hne (Option.some.inj e2)
    refine Or.inr ⟨gn, ins, g, g', ⟨l1, l2, l3⟩, (a3 9 (by decide) (fun e => absurd e (by decide))).trans b1, (a3 10 (by decide) (fun e => absurd e (by decide))).trans b2, (h.1 _ (no b3 g1 ?_) (no b3 hw' ?_) (no b3 ha ?_) (no b3 hb ?_)).trans b3, (h.1 _ (no b4 g1 ?_) (no b4 hw' ?_) (no b4 ha ?_) (fun e => l3 (by rw [e]; exact r2))).trans b4, fun i x e => ?_⟩
    case refine_8 =>
      obtain ⟨p1, su, p3, p4⟩ := b5 i x e
      exact ⟨p1, su, p3, p4.hg ⟨fs, g1⟩ ⟨fw, hw'⟩ ⟨r1, r2⟩ ⟨ya, ha⟩ ⟨yb, hb⟩ h⟩
    all_goals (intro e; simp at e)
theorem nSl.hg {a : Nat} (h : cHg k w ra sa σ σ') (hk : ∃ fs, σ.1 k = some (.inr (4, fs))) (hw : ∃ fs, σ.1 w = some (.inr (4, fs))) (hR : kRw lo ra sa σ) (g : nSl σ rd sl c a) : nSl σ' rd sl c a := by
  obtain ⟨fs, g1, g2⟩ := g
  exact ⟨fs, h.ob hk hw hR g1 (by decide), g2⟩
theorem kRw.hg (h : cHg k w ra sa σ σ') (g : kRw lo ra sa σ) (ha : ∃ y, σ'.1 ra = some (.inl (.int, y))) (hb : ∃ y, σ'.1 sa = some (.inl (.object "LiquidTongue$Sum", y))) : kRw lo ra sa σ' := ⟨⟨ha, hb⟩, g.2⟩
theorem jSt.hg (hJ : pa < lo.1 ∧ ph < lo.1 ∧ ta < lo.1 ∧ th < lo.1) (J : jSt σ j o ca pa ph ta th len W b cl fa f rd wk ps P Tr) (h : cHg k w ra sa σ σ') (hk : ∃ fs, σ.1 k = some (.inr (4, fs))) (hw : ∃ fs, σ.1 w = some (.inr (4, fs))) (hR : kRw lo ra sa σ) : jSt σ' j o ca pa ph ta th len W b cl fa f rd wk ps P Tr := by
  refine J.cg fun x hx => ?_
  obtain ⟨fk, hk⟩ := hk
  obtain ⟨fw, hw⟩ := hw
  obtain ⟨⟨⟨ya, ha⟩, yb, hb⟩, -, l1, l2⟩ := hR
  obtain ⟨h1, ⟨h2, h3⟩, ⟨gp, hp, h4, h5, h6⟩, ⟨gt, ht, h7, h8, h9⟩, -⟩ := J
  have no : ∀ {x y : Nat} {a b : oC}, σ.1 x = some a → σ.1 y = some b → a ≠ b → x ≠ y := fun {x y a b} e1 e2 hne e => by
    subst e
    rw [e1] at e2
    exact hne (Option.some.inj e2)
  rcases hx with rfl | rfl | rfl | rfl | rfl | rfl | rfl
  · exact h.1 _ (no h1 hk (by intro e; simp at e)) (no h1 hw (by intro e; simp at e)) (no h1 ha (by intro e; simp at e)) (no h1 hb (by intro e; simp at e))
  · exact h.1 _ (no h2 hk (by intro e; simp at e)) (no h2 hw (by intro e; simp at e)) (no h2 ha (by intro e; simp at e)) (no h2 hb (by intro e; simp at e))
  · exact h.1 _ (no h3 hk (by intro e; simp at e)) (no h3 hw (by intro e; simp at e)) (no h3 ha (by intro e; simp at e)) (no h3 hb (by intro e; simp at e))
  · exact h.1 _ (no h4 hk (by intro e; simp at e)) (no h4 hw (by intro e; simp at e)) (by omega) (by omega)
  · exact h.1 _ (no h5 hk (by intro e; simp at e)) (no h5 hw (by intro e; simp at e)) (by omega) (by omega)
  · exact h.1 _ (no h7 hk (by intro e; simp at e)) (no h7 hw (by intro e; simp at e)) (by omega) (by omega)
  · exact h.1 _ (no h8 hk (by intro e; simp at e)) (no h8 hw (by intro e; simp at e)) (by omega) (by omega)
/-- a FACT goes to an earlier place -/
theorem kOr.mv {i kp : Nat} {x : kFc} (hO : kOr lo σ w ra sa F) (hk : ∃ fs, σ.1 k = some (.inr (4, fs))) (hR : kRw lo ra sa σ) (hx : F[i]? = some x) (hp : kp < F.length) : ∃ v su σ1 σ2, ofd σ (some w) 4 5 = some (.ref ra) ∧ oai σ (some ra) .int (nI i) = some v ∧ osi σ (some ra) .int (nI kp) v = some σ1 ∧ ofd σ1 (some w) 4 6 = some (.ref sa) ∧ oar σ1 (some sa) (nI i) = some (some su) ∧ osr σ1 (some sa) (nI kp) (some su) = some σ2 ∧ cHg k w ra sa σ σ2 ∧ kOr lo σ2 w ra sa (F.set kp x) ∧ kRw lo ra sa σ2 := by
  have hw := hO.ex
  have hR' := hR
  obtain ⟨⟨⟨ya, ha⟩, yb, hb⟩, ⟨r1, r2⟩, r3⟩ := hR'
  obtain ⟨fo, cap, hr, gs, o1, o2, o3, o4, o5⟩ := hO
  have hil : i < F.length := (List.getElem?_eq_some_iff.mp hx).1
  rcases o5 with rfl | ⟨o5, o6, o7, o8, ⟨⟨o9, o9'⟩, l1, l2, l3, l4⟩, o10⟩
  · cases hx
  obtain ⟨p1, p2, su, p3, p4⟩ := o10 i x hx
  have zi : zin (nI i) cap = true := zin_n (by omega) (by omega)
  have zk : zin (nI kp) cap = true := zin_n (by omega) (by omega)
  have ci : (nI i).toNatClampNeg = i := nI_clamp (by omega)
  have ck : (nI kp).toNatClampNeg = kp := nI_clamp (by omega)
  have no : ∀ {x y : Nat} {a b : oC}, σ.1 x = some a → σ.1 y = some b → a ≠ b → x ≠ y := fun {x y a b} e1 e2 hne e => by
    subst e
    rw [e1] at e2
    exact hne (Option.some.inj e2)
  have nrs : sa ≠ ra := no o8 o7 (by intro e; simp at e)
  have nwr : w ≠ ra := no o1 o7 (by intro e; simp at e)
  have nws : w ≠ sa := no o1 o8 (by intro e; simp at e)
  obtain ⟨fk, hk⟩ := hk
  have nkr : k ≠ ra := no hk o7 (by intro e; simp at e)
  have nks : k ≠ sa := no hk o8 (by intro e; simp at e)
  have sue : ∃ sf, σ.1 su = some (.inr (11, sf)) := by
    obtain ⟨na, ta, cap, Ls, pl, ⟨g, h', s1, -⟩, -⟩ := p4
    exact ⟨_, s1⟩
  obtain ⟨sf, sue⟩ := sue
  have nsr : su ≠ ra := no sue o7 (by intro e; simp at e)
  have e8 : (oput σ ra (.inl (.int, cap, .inl (upd hr kp (hr i))))).1 sa = some (.inl (.object "LiquidTongue$Sum", cap, .inr (.inr (.inr (.inr gs))))) := (oput_ne nrs).trans o8
  have e1 : (oput σ ra (.inl (.int, cap, .inl (upd hr kp (hr i))))).1 w = some (.inr (4, fo)) := (oput_ne nwr).trans o1
  have eu : (oput σ ra (.inl (.int, cap, .inl (upd hr kp (hr i))))).1 su = some (.inr (11, sf)) := (oput_ne nsr).trans sue
  have hg : cHg k w ra sa σ (oput (oput σ ra (.inl (.int, cap, .inl (upd hr kp (hr i))))) sa (.inl (.object "LiquidTongue$Sum", cap, .inr (.inr (.inr (.inr (va_up gs kp (some su)))))))) := by
    refine ⟨fun x _ _ h3 h4 => (oput_ne h4).trans (oput_ne h3), rfl, fun x fs hx e => ⟨fs, ?_, rfl, fun _ _ _ => rfl⟩⟩
    rcases hx with rfl | rfl
    · exact ((oput_ne nks).trans (oput_ne nkr)).trans e
    · exact ((oput_ne nws).trans (oput_ne nwr)).trans e
  refine ⟨hr i, su, _, _, (ofd_at o1).trans o5, by simp only [oai, o7, zi, and_self, if_true, ci], by simp only [osi, o7, zk, and_self, if_true, ck], (ofd_at e1).trans o6, by simp only [oar, e8, zi, if_true, ci, p3], by simp only [osr, e8, eu, zk, if_true, ck, show ofits "LiquidTongue$Sum" 11 = true from rfl], hg, ⟨fo, cap, upd hr kp (hr i), va_up gs kp (some su), ((oput_ne nws).trans (oput_ne nwr)).trans o1, o2, by rw [List.length_set]; exact o3, by rw [List.length_set]; exact o4, Or.inr ⟨o5, o6, (oput_ne (Ne.symm nrs)).trans (oput_eq _ _ _), oput_eq _ _ _, ⟨⟨by rw [List.length_set]; exact o9, o9'⟩, l1, l2, l3, l4⟩, fun m y hy => ?_⟩⟩, ⟨⟨⟨_, (oput_ne (Ne.symm nrs)).trans (oput_eq _ _ _)⟩, _, oput_eq _ _ _⟩, ⟨r1, r2⟩, r3⟩⟩
  have tm : ∀ {s : Nat} {t : kTe}, cTm lo σ s t → cTm lo _ s t := fun {s t} q => q.hg ⟨fk, hk⟩ hw ⟨r1, r2⟩ ⟨ya, ha⟩ ⟨yb, hb⟩ hg
  by_cases z : m = kp
  · subst z
    rw [List.getElem?_set_self hp] at hy
    have : x = y := Option.some.inj hy
    subst this
    refine ⟨?_, p2, su, ?_, tm p4⟩
    · show (if m = m then _ else _) = _
      rw [if_pos rfl]; exact p1
    · show (if m = m then _ else _) = _
      rw [if_pos rfl]
  · rw [List.getElem?_set_ne (Ne.symm z)] at hy
    obtain ⟨q1, q2, s', q3, q4⟩ := o10 m y hy
    refine ⟨?_, q2, s', ?_, tm q4⟩
    · show (if m = kp then _ else hr m) = _
      rw [if_neg z]; exact q1
    · show (if m = kp then _ else gs m) = _
      rw [if_neg z]; exact q3
/-- fewer of them -/
theorem kOr.ct {kp : Nat} (hO : kOr lo σ w ra sa F) (hk : ∃ fs, σ.1 k = some (.inr (4, fs))) (hR : kRw lo ra sa σ) (hp : kp ≤ F.length) : ∃ σ', opf σ (some w) 4 7 (.int (nI kp)) = some σ' ∧ cHg k w ra sa σ σ' ∧ kOr lo σ' w ra sa (F.take kp) ∧ kRw lo ra sa σ' := by
  have hw := hO.ex
  have hR' := hR
  obtain ⟨⟨⟨ya, ha⟩, yb, hb⟩, ⟨r1, r2⟩, r3⟩ := hR'
  obtain ⟨fo, cap, hr, gs, o1, o2, o3, o4, o5⟩ := hO
  have no : ∀ {x y : Nat} {a b : oC}, σ.1 x = some a → σ.1 y = some b → a ≠ b → x ≠ y := fun {x y a b} e1 e2 hne e => by
    subst e
    rw [e1] at e2
    exact hne (Option.some.inj e2)
  have nwr : ra ≠ w := no ha o1 (by intro e; simp at e)
  have nws : sa ≠ w := no hb o1 (by intro e; simp at e)
  have tl : (F.take kp).length = kp := by rw [List.length_take]; omega
  have hg : cHg k w ra sa σ (oput σ w (.inr (4, fo.set 7 (.int (nI kp))))) := by
    refine ⟨fun x _ h2 _ _ => oput_ne h2, rfl, fun x fs hx e => ?_⟩
    by_cases z : x = w
    · subst z
      rw [o1] at e
      injection e with e
      injection e with e
      injection e with e e2
      subst e2
      exact ⟨_, oput_eq _ _ _, List.length_set .., fun i _ h7 => List.getElem?_set_ne (fun e => h7 e.symm rfl)⟩
    · exact ⟨fs, (oput_ne z).trans e, rfl, fun _ _ _ => rfl⟩
  refine ⟨_, opf_at o1 (by omega), hg, ⟨fo.set 7 (.int (nI kp)), cap, hr, gs, oput_eq _ _ _, (List.length_set ..).trans o2, by rw [List.getElem?_set_self (by omega), tl], by omega, ?_⟩, ⟨⟨⟨ya, (oput_ne nwr).trans ha⟩, yb, (oput_ne nws).trans hb⟩, ⟨r1, r2⟩, r3⟩⟩
  rcases o5 with rfl | ⟨o5, o6, o7, o8, ⟨⟨o9, o9'⟩, l1⟩, o10⟩
  · exact Or.inl (List.take_nil)
  · refine Or.inr ⟨by rw [List.getElem?_set_ne (by decide)]; exact o5, by rw [List.getElem?_set_ne (by decide)]; exact o6, (oput_ne nwr).trans o7, (oput_ne nws).trans o8, ⟨⟨by omega, o9'⟩, l1⟩, fun m y hy => ?_⟩
    have hy' : F[m]? = some y := by
      rw [List.getElem?_take] at hy
      split at hy
      · exact hy
      · cases hy
    obtain ⟨q1, q2, s', q3, q4⟩ := o10 m y hy'
    exact ⟨q1, q2, s', q3, q4.hg hk hw ⟨r1, r2⟩ ⟨ya, ha⟩ ⟨yb, hb⟩ hg⟩
theorem take_set {α : Type} {l : List α} {n : Nat} {x : α} (h : n < l.length) : (l.set n x).take (n + 1) = l.take n ++ [x] := by
  rw [List.set_eq_take_append_cons_drop, if_pos h, List.take_append, List.take_of_length_le (by rw [List.length_take]; omega), List.length_take, Nat.min_eq_left (by omega), Nat.add_sub_cancel_left]
  rfl
/-- what a FACT says holds here -/
def qB (sl : Nat → Nat) (G : List (Nat × kTe)) (x : kFc) (L : List oLm) : Prop := ∀ l, l ∈ facL 0 (x.1, kSl sl (kRs G x.2)) → lmQ L l
theorem qB.inv {x : kFc} {L L' : List oLm} (h : xC L = xC L') (g : qB sl G x L) : qB sl G x L' := fun l hl => by
  have := g l hl
  unfold lmQ at this ⊢
  rw [← h]
  exact this
theorem fQz_cons {α : Type} {Q : α → Prop} {x : α} {S : List α} : (Q x → fQz Q (x :: S) = x :: fQz Q S) ∧ (¬ Q x → fQz Q (x :: S) = fQz Q S) := by
  unfold fQz
  constructor
  · intro h
    rw [List.filter_cons_of_pos (by simp [h])]
  · intro h
    rw [List.filter_cons_of_neg (by simp [h])]
/-- **conclude()** where INSTANCES are taken away -/
theorem c_conclB (hT : 100200 ≤ T) (hJ : pa < lo.1 ∧ ph < lo.1 ∧ ta < lo.1 ∧ th < lo.1) (hc : 0 < c ∧ c ≤ 60) (hWc : W = 2 * c) (hl : len < 2 ^ 31) (hm : b + W * W ≤ len) (J : jSt σ j o ca pa ph ta th len W b 1 0 f rd (some k) ps P Tr) (hv : oQn W b L f 0) (hR : rpB lo k w ra sa G rd sl c B σ ps F) : ∃ σ', oF κ T (n + 4) 59 [va_rf (some j)] σ = some (none, σ') ∧ jSt σ' j o ca pa ph ta th len W b 1 0 f rd (some k) ps P Tr ∧ jKw (fun x => x = w ∨ x = ra ∨ x = sa) pa ph ta th σ σ' ∧ σ'.2 = σ.2 ∧ rpB lo k w ra sa G rd sl c B σ' ps (fQz (fun x => qB sl G x L) F) := by
  obtain ⟨hO, hG, hRw, hN⟩ := hR
  have hk := hG.ex
  have hw := hO.ex
  have hFl : F.length ≤ 100000 := by
    obtain ⟨fo, cap, hr, gs, o1, o2, o3, o4, o5⟩ := hO
    exact o4
  have loop : ∀ (d i t : Nat) (σ1 : oSt) (Fi : List kFc) (kp : Nat), i + d = F.length → d < t → kp ≤ i → cHg k w ra sa σ σ1 → kOr lo σ1 w ra sa Fi → kRw lo ra sa σ1 → Fi.length = F.length → Fi.drop i = F.drop i → ∃ σ', ol_X1_conclude_25 T (oF κ T (n + 3)) κ t (some j) (some w) (nI kp) (nI i) σ1 = some (none, σ') ∧ cHg k w ra sa σ σ' ∧ kOr lo σ' w ra sa (Fi.take kp ++ fQz (fun x => qB sl G x L) (F.drop i)) ∧ kRw lo ra sa σ' := by
    intro d
    induction d with
    | zero =>
      intro i t σ1 Fi kp hi ht hkp C1 O1 R1 e1 e2
      obtain ⟨t, rfl⟩ : ∃ t', t = t' + 1 := ⟨t - 1, by omega⟩
      have G1 := hG.hg C1 hw hRw
      obtain ⟨σ', c1, c2, c3, c4⟩ := O1.ct (k := k) (kp := kp) G1.ex R1 (by omega)
      have f7 : ofd σ1 (some w) 4 7 = some (.int (nI F.length)) := by
        obtain ⟨fo, cap, hr, gs, o1, o2, o3, o4, o5⟩ := O1
        rw [← e1]
        exact (ofd_at o1).trans o3
      refine ⟨σ', ?_, C1.tr c2, ?_, c4⟩
      · rw [ol_X1_conclude_25, f7, ovi_i, obn_at, if_pos (nI_le (by omega) (by omega)), c1, obn_at]
      · rw [List.drop_of_length_le (by omega), fQ_nil, List.append_nil]
        exact c3
    | succ d ih =>
      intro i t σ1 Fi kp hi ht hkp C1 O1 R1 e1 e2
      obtain ⟨t, rfl⟩ : ∃ t', t = t' + 1 := ⟨t - 1, by omega⟩
      have G1 := hG.hg C1 hw hRw
      have J1 := J.hg hJ C1 hk hw hRw
      have hil : i < F.length := by omega
      have ed : F.drop i = F[i] :: F.drop (i + 1) := List.drop_eq_getElem_cons hil
      have mF : F[i] ∈ F := List.getElem_mem hil
      have eF : Fi[i]? = some F[i] := by
        have a := List.getElem?_drop (xs := Fi) (i := i) (j := 0)
        rw [e2, ed] at a
        exact a.symm
      have dr1 : Fi.drop (i + 1) = F.drop (i + 1) := by
        rw [show Fi.drop (i + 1) = (Fi.drop i).drop 1 by rw [List.drop_drop], e2, List.drop_drop]
      generalize F[i] = x at ed mF eF
      have O1' := O1
      obtain ⟨fo, cap, hr, gs, o1, o2, o3, o4, o5⟩ := O1'
      have r4 : x.1 ≤ 4 := by
        rcases o5 with o5 | ⟨-, -, -, -, -, o10⟩
        · rw [o5] at eF; cases eF
        · exact (o10 i _ eF).2.1
      have f7 : ofd σ1 (some w) 4 7 = some (.int (nI F.length)) := by
        rw [← e1]
        exact (ofd_at o1).trans o3
      obtain ⟨fk1, g1⟩ := G1.ex
      have f8 : ofd σ1 (some j) 3 8 = some (.ref k) := ofd_at J1.1
      obtain ⟨fs', c1, c2⟩ := c_recall (κ := κ) (T := T) (n := n + 1) (i := i) (r := x.1) (t := x.2) (by omega) O1 G1 g1 eF
      obtain ⟨b1, b2⟩ := hN x mF
      have K2 : jK4 pa ph ta th σ1 (oput σ1 k (.inr (4, fs'))) := jK4.rc g1 c2
      have C2 : cHg k w ra sa σ1 (oput σ1 k (.inr (4, fs'))) := by
        refine ⟨fun x h1 _ _ _ => oput_ne h1, rfl, fun y fs _ e => ?_⟩
        obtain ⟨f2, a1, a2, a3⟩ := K2.2.1 y fs e
        exact ⟨f2, a1, a2, fun i hi _ => a3 i hi⟩
      have J2 := J1.k (fs' := fs') g1
      have f82 : ofd (oput σ1 k (.inr (4, fs'))) (some j) 3 8 = some (.ref k) := ofd_at J2.1
      have O2 := O1.k4 hJ K2
      have R2 := R1.k4 hJ K2
      have k2 : ∃ fs, (oput σ1 k (.inr (4, fs'))).1 k = some (.inr (4, fs)) := ⟨_, oput_eq _ _ _⟩
      obtain ⟨v, m1, m2⟩ := c_meet1 (κ := κ) (T := T) (n := n) (s := 0) (sl := sl) (by omega) hc hWc hl hm J2 hv (oput_eq _ _ _) c2 r4 (fun a e q => ((b1 a e q).hg C1 hk hw hRw).k4 K2) hc.1 b2.1
      have pre : ∀ K : Int32 → oSt → oRs, (obn (ovr (ofd σ1 (some j) 3 8)) fun v6 => obn (oob σ1 v6 4) fun a8 => ocv (oF κ T (n + 3) 46 [va_rf v6, .int (nI i)] σ1) fun s10 => obn (ovr (ofd s10 (some j) 3 8)) fun v13 => obn (oob s10 (some j) 3) fun a15 => oin (oF κ T (n + 3) 49 [va_rf (some j), va_rf v13, .int 0, .int 1] s10) K) = K v (oput σ1 k (.inr (4, fs'))) := fun K => by
        rw [f8, ovr_rf, obn_at, oob_at g1, obn_at, c1, ocv_at, f82, ovr_rf, obn_at, oob_at J2.1, obn_at]
        have m1 : oF κ T (n + 3) 49 [va_rf (some j), va_rf (some k), .int 0, .int 1] (oput σ1 k (.inr (4, fs'))) = _ := m1
        rw [m1, oin_at]
      rw [ol_X1_conclude_25, f7, ovi_i, obn_at, if_neg (nI_ge (by omega) (by omega)), pre]
      unfold oj_X1_conclude_81
      rcases m2 with ⟨rfl, m2⟩ | ⟨rfl, m2⟩
      · -- it stays
        have hkl : kp < Fi.length := by omega
        obtain ⟨v', su, σ3, σ4, s1, s2, s3, s4, s5, s6, s7, s8, s9⟩ := O2.mv k2 R2 eF hkl
        rw [if_neg (by decide), s1, ovr_rf, obn_at, obn_at, s2, obn_at, s3, obn_at, s4, ovr_rf, obn_at, obn_at, s5, obn_at, s6, obn_at, nI_p1, nI_p1]
        obtain ⟨σ', i1, i2, i3, i4⟩ := ih (i + 1) t σ4 (Fi.set kp x) (kp + 1) (by omega) (by omega) (by omega) ((C1.tr C2).tr s7) s8 s9 (by rw [List.length_set]; exact e1) (by rw [List.drop_set_of_lt (by omega)]; exact dr1)
        refine ⟨σ', i1, i2, ?_, i4⟩
        rw [ed, (fQz_cons (Q := fun x => qB sl G x L) (x := x)).1 m2]
        rw [take_set hkl, List.append_assoc] at i3
        exact i3
      · rw [if_pos rfl, nI_p1]
        obtain ⟨σ', i1, i2, i3, i4⟩ := ih (i + 1) t _ Fi kp (by omega) (by omega) (by omega) (C1.tr C2) O2 R2 e1 dr1
        refine ⟨σ', i1, i2, ?_, i4⟩
        rw [ed, (fQz_cons (Q := fun x => qB sl G x L) (x := x)).2 m2]
        exact i3
  obtain ⟨σ', i1, i2, i3, i4⟩ := loop F.length 0 T σ F 0 (Nat.zero_add _) (by omega) (Nat.le_refl _) (cHg.rf σ) hO hRw rfl rfl
  have f8 : ofd σ (some j) 3 8 = some (.ref k) := ofd_at J.1
  have f1 : ofd σ (some k) 4 1 = some (.ref w) := by
    obtain ⟨fs, h1, h2, h3, -⟩ := hG
    exact (ofd_at h1).trans h3
  refine ⟨σ', ?_, J.hg hJ i2 hk hw hRw, i2.kw hk hw hRw.1.1 hRw.1.2, i2.2.1, i3, hG.hg i2 hw hRw, i4, fun x hx => ?_⟩
  · rw [show n + 4 = (n + 3) + 1 from rfl, oE_X1_conclude]
    unfold ob_X1_conclude
    rw [f8, ovr_rf, obn_at, if_neg (by simp), obn_at, f1, ovr_rf, obn_at]
    exact i1
  · obtain ⟨q1, q2⟩ := hN x (fQ_mem.mp hx).1
    exact ⟨fun a e q => (q1 a e q).hg i2 hk hw hRw, q2⟩
/-- the questions of weaken() -/
theorem qOkB (hT : 100200 ≤ T) (hJ : pa < lo.1 ∧ ph < lo.1 ∧ ta < lo.1 ∧ th < lo.1) (hc : 0 < c ∧ c ≤ 60) (hWc : W = 2 * c) : qOk κ T 4 j o pa ph ta th W B rd (some k) (fun x => x = w ∨ x = ra ∨ x = sa) (rpB lo k w ra sa G rd sl c B) (qB sl G) := by
  refine ⟨fun x L L' h g => qB.inv h g, fun σ σ' ps S h g => g.k4 hJ h.k4, fun n σ ca len b fa f ps P Tr S J g => ?_, fun n σ ca len b f ps P Tr L S hn J hv hL hb hl g => ?_⟩
  · obtain ⟨hO, hG, hRw, hN⟩ := g
    obtain ⟨fs, h1, h2, h3, -⟩ := hG
    obtain ⟨fo, cap, hr, gs, o1, o2, o3, o4, o5⟩ := hO
    have f8 : ofd σ (some j) 3 8 = some (.ref k) := ofd_at J.1
    rw [oE_X1_isDecided]
    unfold ob_X1_isDecided
    rw [f8, ovr_rf, obn_at, if_neg (by simp), obn_at, show ofd σ (some k) 4 1 = some (.ref w) from (ofd_at h1).trans h3, ovr_rf, obn_at, show ofd σ (some w) 4 7 = some (.int (nI S.length)) from (ofd_at o1).trans o3, ovi_i, obn_at]
    cases S with
    | nil => rfl
    | cons x S =>
      rw [if_neg]
      · rfl
      · intro z
        have := nI_inj' (a := (x :: S).length) (b := 0) (by omega) (by decide) z
        simp at this
  · obtain ⟨n, rfl⟩ : ∃ n', n = n' + 4 := ⟨n - 4, by omega⟩
    obtain ⟨σ', a1, a2, a3, a4, a5⟩ := c_conclB (κ := κ) (T := T) (n := n) hT hJ hc hWc (by omega) hb J hv g
    exact ⟨σ', ps, a1, a2, a3, a4, a5⟩
end JCP
