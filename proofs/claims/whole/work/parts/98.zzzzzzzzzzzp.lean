/-! the class's Judge: explore() -/
/-- what the Judge does not write while it takes INSTANCES away: X = the rows of a CASE -/
def jFx (X : Nat → Prop) (x : Nat) (cc : oC) : Prop := match cc with
  | .inr y => y.1 ≠ 4
  | .inl y => (y.1 = .int ∨ y.1 = .object "LiquidTongue$Sum") → ¬ X x
def jKw (X : Nat → Prop) (pa ph ta th : Nat) (σ σ' : oSt) : Prop := (∀ x cc, σ.1 x = some cc → jFr pa ph ta th x cc → jFx X x cc → σ'.1 x = some cc) ∧ (∀ x, σ.1 x = none → (x < σ.2.1 ∨ σ'.2.1 ≤ x) → σ'.1 x = none) ∧ σ.2.1 ≤ σ'.2.1 ∧ (∀ x fs, σ.1 x = some (.inr (4, fs)) → ∃ fs', σ'.1 x = some (.inr (4, fs')) ∧ fs'.length = fs.length ∧ ∀ i, i < 11 → (i = 7 → ¬ X x) → fs'[i]? = fs[i]?)
section JKW
variable {X : Nat → Prop} {pa ph ta th : Nat} {κ : oKv} {σ σ' : oSt} {c : Nat} {rd : Int32} {B : Int} {sl ti : Nat → Nat} {Mn : Nat → Bool → List oBr}
theorem jKw.rf (σ : oSt) : jKw X pa ph ta th σ σ := ⟨fun _ _ h _ _ => h, fun _ h _ => h, Nat.le_refl _, fun _ fs h => ⟨fs, h, rfl, fun _ _ _ => rfl⟩⟩
theorem jKw.tr {a b c : oSt} (h : jKw X pa ph ta th a b) (g : jKw X pa ph ta th b c) : jKw X pa ph ta th a c := ⟨fun x cc e k l => g.1 x cc (h.1 x cc e k l) k l, fun x e k => g.2.1 x (h.2.1 x e (k.imp id (fun w => Nat.le_trans g.2.2.1 w))) (k.imp (fun w => Nat.lt_of_lt_of_le w h.2.2.1) id), Nat.le_trans h.2.2.1 g.2.2.1, fun x fs e => by
  obtain ⟨f1, a1, a2, a3⟩ := h.2.2.2 x fs e
  obtain ⟨f2, b1, b2, b3⟩ := g.2.2.2 x f1 a1
  exact ⟨f2, b1, b2.trans a2, fun i hi h7 => (b3 i hi h7).trans (a3 i hi h7)⟩⟩
theorem jKw.fr (h : jKw X pa ph ta th σ σ') (hf : ∀ q, σ.2.1 ≤ q → σ.1 q = none) : ∀ q, σ'.2.1 ≤ q → σ'.1 q = none := fun q hq => h.2.1 q (hf q (Nat.le_trans h.2.2.1 hq)) (Or.inr hq)
theorem jKp.w (h : jKp pa ph ta th σ σ') : jKw X pa ph ta th σ σ' := ⟨fun x cc e k _ => h.1 x cc e k, h.2.1, h.2.2, fun x fs e => ⟨fs, h.1 _ _ e ⟨by show (4 : Nat) ≠ 3; decide, by show (4 : Nat) ≠ 8; decide⟩, rfl, fun _ _ _ => rfl⟩⟩
theorem jKw.ob (h : jKw X pa ph ta th σ σ') {x k : Nat} {fs : List Value} (e : σ.1 x = some (.inr (k, fs))) (h3 : k ≠ 3) (h8 : k ≠ 8) (h4 : k ≠ 4) : σ'.1 x = some (.inr (k, fs)) := h.1 _ _ e ⟨h3, h8⟩ h4
theorem jW.jw {m : Nat} {h : Bool} (w : jW σ m h) (k : jKw X pa ph ta th σ σ') : jW σ' m h := by
  obtain ⟨fs, h1, h2⟩ := w
  exact ⟨fs, k.ob h1 (by decide) (by decide) (by decide), h2⟩
theorem cLs.jw {x d cap l : Nat} {mc : Int32} {g : Nat → Option Nat} (h : cLs κ σ x d cap l mc g 7) (k : jKw X pa ph ta th σ σ') (h4 : d ≠ pa ∧ d ≠ ph ∧ d ≠ ta ∧ d ≠ th) (h5 : d < σ.2.1) : cLs κ σ' x d cap l mc g 7 := by
  obtain ⟨h1, h2, h3⟩ := h
  refine ⟨k.ob h1 (by decide) (by decide) (by decide), ?_, fun j hj => ?_⟩
  · rcases h2 with ⟨a, b, c, d⟩ | ⟨a, b, c⟩
    · exact Or.inl ⟨a, b, c, k.2.1 _ d (Or.inl h5)⟩
    · refine Or.inr ⟨k.1 _ _ a ⟨fun e => (by cases e), h4⟩ (fun w => ?_), b, c⟩
      rcases w with w | w
      · cases w
      · injection w with w
        exact absurd w (by decide)
  · obtain ⟨b, fs, e1, e2⟩ := h3 j hj
    exact ⟨b, fs, e1, k.ob e2 (by decide) (by decide) (by decide)⟩
theorem jSm.jw {su : Nat} {L : List (Nat × Int32)} {pl : Int64} (k : jKw X pa ph ta th σ σ') (h : jSm σ pa ph ta th rd sl c B su L pl) (hX : ∀ fs', σ.1 su = some (.inr (11, fs')) → ∀ t', fs'[1]? = some (.ref t') → ¬ X t') : jSm σ' pa ph ta th rd sl c B su L pl := by
  obtain ⟨na, ta', cap, ⟨g, h', s1, s2, s3, s4, s5⟩, h1, h2, h3, h4, h5, h6⟩ := h
  have nX := hX _ s1 ta' rfl
  refine ⟨na, ta', cap, ⟨g, h', k.ob s1 (by decide) (by decide) (by decide), k.1 _ _ s2 ⟨fun e => (by cases e), h1⟩ (fun w => ?_), k.1 _ _ s3 ⟨fun e => (by cases e), h2⟩ (fun _ => nX), s4, fun i b' c' e => ?_⟩, h1, h2, h3, h4, fun q hq => ?_, h6⟩
  · rcases w with w | w
    · cases w
    · injection w with w
      exact absurd w (by decide)
  · obtain ⟨q1, q2, fs, q3⟩ := s5 i b' c' e
    exact ⟨q1, q2, fs, k.ob q3 (by decide) (by decide) (by decide)⟩
  · obtain ⟨fs, q1, q2⟩ := h5 q hq
    exact ⟨fs, k.ob q1 (by decide) (by decide) (by decide), q2⟩
theorem jMn.jw (k : jKw X pa ph ta th σ σ') : ∀ (H a m : Nat), jMn X κ σ pa ph ta th rd sl ti c B Mn H a m → jMn X κ σ' pa ph ta th rd sl ti c B Mn H a m
  | 0, _, _, h => False.elim h
  | H + 1, a, m, ⟨fs, h1, h0, hM⟩ => by
    have ih := jMn.jw k H
    refine ⟨fs, k.ob h1 (by decide) (by decide) (by decide), h0, ?_⟩
    rcases hM with ⟨e, x, e1, e2, e3⟩ | ⟨an, li, dd, cap, q, mc, g, xs, e, e1, e2, e3, e4, e5, e6, e7, e8⟩ | ⟨bo, e, e3⟩ | ⟨x, gs, e, e1, e2, e3⟩ | ⟨su, Ls, pl, r, e, e1, e2, e4, ⟨e5, e6⟩, e3⟩
    · exact Or.inl ⟨e, x, e1, ih _ _ e2, e3⟩
    · exact Or.inr (Or.inl ⟨an, li, dd, cap, q, mc, g, xs, e, e1, e2.jw k e4 e5, e3, e4, Nat.lt_of_lt_of_le e5 k.2.2.1, fun i y hy => ⟨(e6 i y hy).1, ih _ _ (e6 i y hy).2⟩, e7, e8⟩)
    · exact Or.inr (Or.inr (Or.inl ⟨bo, e, e3⟩))
    · exact Or.inr (Or.inr (Or.inr (Or.inl ⟨x, gs, e, e1, k.ob e2 (by decide) (by decide) (by decide), e3⟩)))
    · refine Or.inr (Or.inr (Or.inr (Or.inr ⟨su, Ls, pl, r, e, e1, e2, e4, ⟨e5.jw k e6, fun fs' h => ?_⟩, e3⟩)))
      obtain ⟨na, ta', cap, ⟨g, h', s1, -⟩, -⟩ := e5
      have s2 := k.ob s1 (by decide) (by decide) (by decide)
      rw [h] at s2
      injection s2 with s2
      injection s2 with s2
      injection s2 with s2 s3
      subst s3
      exact e6 _ s1
end JKW
/-- those of which it is so -/
noncomputable def fQz {α : Type} (Q : α → Prop) (S : List α) : List α := S.filter (fun x => @decide (Q x) (Classical.propDecidable _))
section FQ
variable {α : Type} {Q R : α → Prop} {S : List α}
theorem fQ_mem {x : α} : x ∈ fQz Q S ↔ x ∈ S ∧ Q x := by
  unfold fQz
  rw [List.mem_filter]
  simp
theorem fQ_fQ : fQz Q (fQz R S) = fQz (fun x => R x ∧ Q x) S := by
  unfold fQz
  rw [List.filter_filter]
  congr 1
  funext x
  by_cases h1 : Q x <;> by_cases h2 : R x <;> simp [h1, h2]
theorem fQ_cg (h : ∀ x, x ∈ S → (Q x ↔ R x)) : fQz Q S = fQz R S := by
  unfold fQz
  refine List.filter_congr fun x hx => ?_
  have := h x hx
  by_cases h1 : R x
  · simp [h1, this.mpr h1]
  · have h2 : ¬ Q x := fun w => h1 (this.mp w)
    simp [h1, h2]
theorem fQ_all (h : ∀ x, x ∈ S → Q x) : fQz Q S = S := by
  unfold fQz
  exact List.filter_eq_self.mpr fun x hx => by simp [h x hx]
theorem fQ_nil : fQz Q ([] : List α) = [] := rfl
end FQ
/-- levels below stay -/
theorem oQn.lv {W b : Nat} {L : List oLm} {f f' : Nat → Int64} {fa : Int32} (h : oQn W b L f fa) (hf : ∀ e, e < b + W * W → f' e = f e) : oQn W b L f' fa := by
  have eq : ∀ i j, i < W → j < W → fo b W f' i j = fo b W f i j := fun i j hi hj => by
    unfold fo
    rw [hf]
    have := ix_le (W := W) hi
    omega
  obtain ⟨h1, h2, h3⟩ := h
  refine ⟨h1, h2, fun e => ?_⟩
  obtain ⟨q1, q2, q3, q4⟩ := h3 e
  refine ⟨q1, fun i hi => by rw [eq i i hi hi]; exact q2 i hi, fun i j hi hj => by rw [eq i j hi hj]; exact q3 i j hi hj, fun i j e => ?_⟩
  rw [← q4]
  unfold tbA
  constructor
  · rintro (⟨k1, k2, k3⟩ | k)
    · rw [eq i j k1 k2] at k3; exact Or.inl ⟨k1, k2, k3⟩
    · exact Or.inr k
  · rintro (⟨k1, k2, k3⟩ | k)
    · rw [← eq i j k1 k2] at k3; exact Or.inl ⟨k1, k2, k3⟩
    · exact Or.inr k
/-- fewer that wait -/
theorem jSt.cut {σ : oSt} {j o ca pa ph ta th len W b : Nat} {cl fa : Int32} {f : Nat → Int64} {rd : Int32} {wk : Option Nat} {ps : Int32} {P Tr A Y : List (Nat × Bool)} (h : jSt σ j o ca pa ph ta th len W b cl fa f rd wk ps (P ++ A) (Tr ++ Y)) : ∃ s13 σ', opf σ (some j) 3 3 (.int (nI P.length)) = some s13 ∧ opf s13 (some j) 3 6 (.int (nI Tr.length)) = some σ' ∧ jSt σ' j o ca pa ph ta th len W b cl fa f rd wk ps P Tr ∧ jKp pa ph ta th σ σ' ∧ σ'.2 = σ.2 := by
  obtain ⟨⟨n1, n2, n3, n4, n5, n6⟩, -⟩ := h.ne
  obtain ⟨h1, ⟨h2, h3⟩, ⟨gp, hp, h4, h5, h6⟩, ⟨gt, ht, h7, h8, h9⟩, ⟨h10, h10'⟩, h11⟩ := h
  rw [List.length_append] at h10 h10'
  refine ⟨_, _, opf_at h1 (by simp only [List.length_cons, List.length_nil]; omega), ?_, ⟨oput_eq _ _ _, ⟨(oput_ne (Ne.symm n1)).trans h2, (oput_ne (Ne.symm n2)).trans h3⟩, ⟨gp, hp, (oput_ne (Ne.symm n3)).trans h4, (oput_ne (Ne.symm n4)).trans h5, fun k x e => h6 k x ?_⟩, ⟨gt, ht, (oput_ne (Ne.symm n5)).trans h7, (oput_ne (Ne.symm n6)).trans h8, fun k x e => h9 k x ?_⟩, ⟨by omega, by omega⟩, h11⟩, ⟨fun x cc e k => ?_, fun x e k => ?_, Nat.le_refl _⟩, rfl⟩
  · rw [opf_at (oput_eq _ _ _) (by simp), oput_oput]
    rfl
  · rw [List.getElem?_append_left]
    · exact e
    · exact (List.getElem?_eq_some_iff.mp e).1
  · rw [List.getElem?_append_left]
    · exact e
    · exact (List.getElem?_eq_some_iff.mp e).1
  · have : x ≠ j := fun z => by
      subst z
      rw [h1] at e
      injection e with e
      subst e
      exact k.1 rfl
    exact (oput_ne this).trans e
  · have : x ≠ j := fun z => by
      subst z
      rw [h1] at e
      cases e
    exact (oput_ne this).trans e
section JEX
variable {κ : oKv} {T : Nat} {j o pa ph ta th W c : Nat} {rd : Int32} {wk : Option Nat} {B : Int} {sl ti : Nat → Nat} {Mn : Nat → Bool → List oBr} {X : Nat → Prop} {α : Type}
/-- another level -/
theorem jSt.lev {σ : oSt} {ca len b b' : Nat} {cl fa fa' : Int32} {f f' : Nat → Int64} {ps : Int32} {P Tr : List (Nat × Bool)} (h : jSt σ j o ca pa ph ta th len W b cl fa f rd wk ps P Tr) : jSt (gOc σ o ca len W b' cl fa' f') j o ca pa ph ta th len W b' cl fa' f' rd wk ps P Tr ∧ jKp pa ph ta th σ (gOc σ o ca len W b' cl fa' f') := by
  obtain ⟨⟨n1, n2, n3, n4, n5, n6⟩, ⟨m1, m2, m3, m4, m5⟩, ⟨k1, k2, k3, k4⟩, -⟩ := h.ne
  obtain ⟨h1, ⟨h2, h3⟩, ⟨gp, hp, h4, h5, h6⟩, ⟨gt, ht, h7, h8, h9⟩, h10, h11⟩ := h
  refine ⟨⟨(gOc_oth n1 n2).trans h1, ⟨gOc_o, gOc_ca (Ne.symm m1)⟩, ⟨gp, hp, (gOc_oth (Ne.symm m2) (Ne.symm k1)).trans h4, (gOc_oth (Ne.symm m3) (Ne.symm k2)).trans h5, h6⟩, ⟨gt, ht, (gOc_oth (Ne.symm m4) (Ne.symm k3)).trans h7, (gOc_oth (Ne.symm m5) (Ne.symm k4)).trans h8, h9⟩, h10, h11⟩, fun x cc e k => ?_, fun x e k => ?_, Nat.le_refl _⟩
  · have x1 : x ≠ o := fun z => by
      subst z
      rw [h2] at e
      injection e with e
      subst e
      exact k.2 rfl
    have x2 : x ≠ ca := fun z => by
      subst z
      rw [h3] at e
      injection e with e
      subst e
      exact k.1 rfl
    rw [gOc_oth x1 x2]
    exact e
  · have x1 : x ≠ o := fun z => by subst z; rw [h2] at e; cases e
    have x2 : x ≠ ca := fun z => by subst z; rw [h3] at e; cases e
    rw [gOc_oth x1 x2]
    exact e
theorem j_rise {n ca len b : Nat} {fa ps : Int32} {σ : oSt} {f : Nat → Int64} {P Tr : List (Nat × Bool)} {L : List oLm} (hW : W ≤ 120) (J : jSt σ j o ca pa ph ta th len W b 1 fa f rd wk ps P Tr) (hv : oQn W b L f fa) (hl : len ≤ 201600) (hb : b + W * W ≤ len) (hm : b + 2 * (W * W) ≤ 100800) (hfr : ∀ q, σ.2.1 ≤ q → σ.1 q = none) : ∃ σ' ca' len' f', oF κ T (n + 3) 61 [va_rf (some o)] σ = some (none, σ') ∧ jSt σ' j o ca' pa ph ta th len' W (b + W * W) 1 fa f' rd wk ps P Tr ∧ jKp pa ph ta th σ σ' ∧ gMo len len' σ σ' ∧ b + 2 * (W * W) ≤ len' ∧ len' ≤ 201600 ∧ oQn W (b + W * W) L f' fa ∧ ∀ e, e < b + W * W → f' e = f e := by
  obtain ⟨⟨n1, n2, n3, n4, n5, n6⟩, ⟨m1, m2, m3, m4, m5⟩, ⟨k1, k2, k3, k4⟩, -⟩ := J.ne
  have hO := J.oc
  obtain ⟨h1, ⟨h2, h3⟩, ⟨gp, hp, h4, h5, h6⟩, ⟨gt, ht, h7, h8, h9⟩, h10, h11⟩ := J
  have lt : ∀ {x : Nat} {cc : oC}, σ.1 x = some cc → x < σ.2.1 := fun {x cc} e => by
    by_cases z : x < σ.2.1
    · exact z
    · rw [hfr x (by omega)] at e; cases e
  obtain ⟨σ1, ca', len', f', a1, a2, a3, a4, a5, a6, a7, a8, a9, a10, a11⟩ := c_rise (κ := κ) (T := T) (n := n) (cl := 1) (by omega) (Ne.symm m1) (lt h2) (lt h3) (Nat.le_trans hl (by decide)) hb (by omega) hfr hv
  rw [hO] at a1
  have lo := lt h2
  have lc := lt h3
  have mo : σ.2.1 ≤ σ1.2.1 := a7.2.1
  have ot : ∀ {x : Nat}, x < σ.2.1 → x ≠ o → x ≠ ca → (gOc σ1 o ca' len' W (b + W * W) 1 fa f').1 x = σ.1 x := fun {x} e x1 x2 => by
    rw [gOc_oth x1 (by rcases a5 with z | z; rw [z]; exact x2; omega), a2 x e x1 x2]
  refine ⟨_, ca', len', f', a1, ⟨(ot (lt h1) n1 n2).trans h1, ⟨gOc_o, gOc_ca a4⟩, ⟨gp, hp, (ot (lt h4) (Ne.symm m2) (Ne.symm k1)).trans h4, (ot (lt h5) (Ne.symm m3) (Ne.symm k2)).trans h5, h6⟩, ⟨gt, ht, (ot (lt h7) (Ne.symm m4) (Ne.symm k3)).trans h7, (ot (lt h8) (Ne.symm m5) (Ne.symm k4)).trans h8, h9⟩, h10, h11⟩, ⟨fun x cc e k => ?_, fun x e k => ?_, mo⟩, a7, a8, by rcases a9 with z | z <;> omega, a10, a11⟩
  · have x1 : x ≠ o := fun z => by
      subst z
      rw [h2] at e
      injection e with e
      subst e
      exact k.2 rfl
    have x2 : x ≠ ca := fun z => by
      subst z
      rw [h3] at e
      injection e with e
      subst e
      exact k.1 rfl
    exact (ot (lt e) x1 x2).trans e
  · have x1 : x ≠ o := fun z => by subst z; rw [h2] at e; cases e
    have x2 : x ≠ ca := fun z => by subst z; rw [h3] at e; cases e
    rcases k with k | k
    · exact (ot k x1 x2).trans e
    · have k : σ1.2.1 ≤ x := k
      rw [gOc_oth x1 (by omega)]
      exact a3 x k
theorem j_sink {n ca len b : Nat} {fa ps : Int32} {σ : oSt} {f : Nat → Int64} {P Tr : List (Nat × Bool)} (hW : W ≤ 120) (hb : b < 60000000) (J : jSt σ j o ca pa ph ta th len W (b + W * W) 1 fa f rd wk ps P Tr) : ∃ σ', oF κ T (n + 1) 62 [va_rf (some o)] σ = some (none, σ') ∧ jSt σ' j o ca pa ph ta th len W b 1 0 f rd wk ps P Tr ∧ jKp pa ph ta th σ σ' ∧ σ'.2 = σ.2 := by
  have h := c_sink (κ := κ) (T := T) (n := n) (σ := σ) (o := o) (ca := ca) (len := len) (W := W) (b := b) (cl := 1) (fa := fa) (f := f) (by omega) hb
  rw [J.oc] at h
  exact ⟨_, h, (J.lev (b' := b) (fa' := 0) (f' := f)).1, (J.lev (b' := b) (fa' := 0) (f' := f)).2, rfl⟩
/-- what explore() leaves: E x = there is a way in which x is not so -/
def xpO (X : Nat → Prop) (j o pa ph ta th W : Nat) (rd : Int32) (wk : Option Nat) {α : Type} (Rp : oSt → Int32 → List α → Prop) (R : oRs) (E : α → Prop) (len b : Nat) (fa : Int32) (f : Nat → Int64) (P Tr : List (Nat × Bool)) (S : List α) (σ : oSt) : Prop := ∃ σ' ca' len' f' ps', R = some (none, σ') ∧ jSt σ' j o ca' pa ph ta th len' W b 1 fa f' rd wk ps' P Tr ∧ jKw X pa ph ta th σ σ' ∧ gMo len len' σ σ' ∧ len' ≤ 201600 ∧ (∀ e, e < b + W * W → f' e = f e) ∧ Rp σ' ps' (fQz (fun x => ¬ E x) S)
def wZ (Z : List ((Nat × Bool) × Nat)) : Nat := (Z.map (fun z => 2 * z.2 - 1)).sum
theorem wZ_app (A Z : List ((Nat × Bool) × Nat)) : wZ (A ++ Z) = wZ A + wZ Z := by
  unfold wZ
  rw [List.map_append, List.sum_append]
theorem wZ_le : ∀ (Z : List ((Nat × Bool) × Nat)), (∀ z, z ∈ Z → 1 ≤ z.2) → Z.length + wZ Z = 2 * (Z.map Prod.snd).sum
  | [], _ => rfl
  | z :: Z, h => by
    have ih := wZ_le Z (fun y hy => h y (List.mem_cons_of_mem _ hy))
    have := h z (List.mem_cons_self ..)
    show Z.length + 1 + (2 * z.2 - 1 + wZ Z) = 2 * (z.2 + (Z.map Prod.snd).sum)
    omega
theorem brAny_mem {Bs : List (List oBr)} {K : oKt} {L : List oLm} {ts : List (Nat × Bool)} : exB (brAny Bs) K L ts ↔ ∃ B, B ∈ Bs ∧ exB B K L ts := by
  induction Bs with
  | nil => exact ⟨fun h => False.elim (exB.nil.mp h), fun ⟨_, h, _⟩ => by cases h⟩
  | cons B Bs ih =>
    show exB (B ++ brAny Bs) K L ts ↔ _
    rw [exB.or, ih]
    constructor
    · rintro (h | ⟨A, h1, h2⟩)
      · exact ⟨B, List.mem_cons_self .., h⟩
      · exact ⟨A, List.mem_cons_of_mem _ h1, h2⟩
    · rintro ⟨A, h1, h2⟩
      rcases List.mem_cons.mp h1 with rfl | h1
      · exact Or.inl h2
      · exact Or.inr ⟨A, h1, h2⟩
theorem tCo.mp (hti : ∀ x y, ti x = ti y → x = y) {Tr : List (Nat × Bool)} (h : tCo Tr) : tCo (tMn ti Tr) := fun x b b' h1 h2 => by
  obtain ⟨u, u1, u2⟩ := List.mem_map.mp h1
  obtain ⟨v, v1, v2⟩ := List.mem_map.mp h2
  injection u2 with u2 u3
  injection v2 with v2 v3
  have e : u.1 = v.1 := hti _ _ (u2.trans v2.symm)
  rw [← u3, ← v3]
  refine h u.1 u.2 v.2 u1 ?_
  rw [e]
  exact v1
/-- a comparison's limit as one way -/
theorem aOut.lim {n H ca len b su : Nat} {σ : oSt} {f : Nat → Int64} {fa ps : Int32} {P Tr : List (Nat × Bool)} {Lm : List oLm} {L : List (Nat × Int32)} {pl : Int64} {s le : Int32} (hT : 200 ≤ T) (hc : 0 < c ∧ c ≤ 60) (hWc : W = 2 * c) (hl : len < 2 ^ 31) (hm : b + W * W ≤ len) (hB : 0 ≤ B) (hBW : (W : Int) * B + B + 2 ≤ 4503599627370496) (hL : xLn B W Lm) (J : jSt σ j o ca pa ph ta th len W b 1 fa f rd wk ps P Tr) (h : oLv 1 B W b Lm f fa) (hs : jSm σ pa ph ta th rd sl c B su L pl) (h1 : s = 1 ∨ s = -1) (h2 : le = 0 ∨ le = 1) : aOut X H κ j o ca pa ph ta th len W b c 1 rd wk ps B sl ti Mn (oF κ T (n + 3) 54 [va_rf (some j), va_rf (some su), .int s, .int le] σ) [([cmL (sMp sl L) pl.toInt s.toInt le.toInt], [])] 0 σ f P Tr Lm := by
  obtain ⟨σ', f', fa', a1, a2, a3, a4, a5, a6, a7⟩ := c_lmS (κ := κ) (T := T) (n := n) hT hc hWc hl hm hB hBW hL J h hs h1 h2
  have mon : xOk (xC (cmL (sMp sl L) pl.toInt s.toInt le.toInt :: Lm)) → xOk (xC Lm) := fun k => xOk.mono (fun l w => List.mem_cons_of_mem _ w) k
  refine ⟨σ', f', fa', P, Tr, _, a1, a2, ⟨a3, a4⟩, a5, a6, a7, ⟨by omega, by omega⟩, ⟨⟨[], (List.append_nil _).symm, (by show 0 + Tr.length ≤ _; omega), fun x hx => (by cases hx), fun K hK => ?_⟩, [], (List.append_nil _).symm⟩, fun k kO => k (mon kO), mon⟩
  rw [exB.one]
  rfl
end JEX
