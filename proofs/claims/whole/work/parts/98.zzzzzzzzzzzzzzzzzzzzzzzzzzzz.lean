/-! accepted(): its beginning -/
/-- nothing lies below -/
def loI (s : Nat) (σ : oSt) : Prop := (∀ a, a < s → σ.1 a = none) ∧ s ≤ σ.2.1
section AC0
variable {κ : oKv} {T n s x p y jd o ca pa ph ta th len W b : Nat} {cl fa rd ps : Int32} {fo : Nat → Int64} {wk : Option Nat} {P Tr : List (Nat × Bool)} {K : Int} {fs : List Value} {σ : oSt}
theorem loI.nw (h : loI s σ) (c : oC) (n : Nat) : loI s (onew σ c n) := ⟨fun a ha => by
  rw [onew_ne (by have := h.2; omega)]; exact h.1 a ha, Nat.le_succ_of_le h.2⟩
theorem loI.pu (h : loI s σ) {a : Nat} {c c' : oC} (e : σ.1 a = some c) : loI s (oput σ a c') := ⟨fun q hq => by
  rw [oput_ne (fun z => by rw [← z, h.1 q hq] at e; cases e)]; exact h.1 q hq, h.2⟩
theorem loI.pf (h : loI s σ) {r : Option Nat} {k i : Nat} {v : Value} {s' : oSt} (e : opf σ r k i v = some s') : loI s s' := by
  unfold opf at e
  split at e
  · split at e
    · rename_i a _ o' e1
      split at e
      · injection e with e
        rw [← e]
        exact h.pu e1
      · cases e
    · cases e
  · cases e
theorem loI_ok : iKpt (loI s) := ⟨fun σ y n h => h.nw _ n, fun σ k n h => h.nw _ n, fun σ a ci fs k v h e _ _ => h.pu e, fun σ a y y' h e => h.pu e, fun n call κ x0 x1 σ h => by
  unfold ob_X2_makeRoom
  refine PIo_gd ?_
  show PIo (loI s) (obn (opf (onew σ (.inl (.int, x1.toNatClampNeg, .inl (fun _ => 0))) x1.toNatClampNeg) x0 4 5 (va_rf (some σ.2.1))) _)
  refine PIo_be (fun s4 e4 => ?_)
  have h4 := (h.nw (.inl (.int, x1.toNatClampNeg, .inl (fun _ => 0))) x1.toNatClampNeg).pf e4
  refine PIo_gd ?_
  show PIo (loI s) (obn (opf (onew s4 (.inl (.object (oq 11).1, x1.toNatClampNeg, .inr (.inr (.inr (.inr (fun _ => none)))))) x1.toNatClampNeg) x0 4 6 (va_rf (some s4.2.1))) _)
  refine PIo_be (fun s9 e9 => ?_)
  exact PIo_some ((h4.nw (.inl (.object (oq 11).1, x1.toNatClampNeg, .inr (.inr (.inr (.inr (fun _ => none)))))) x1.toNatClampNeg).pf e9)⟩
/-- what accepted() does after gather() -/
def acK (T : Nat) (call : oCl) (κ : oKv) (x0 : Option Nat) (s26 : oSt) : oRs :=
  obn (ovr (ofd s26 x0 14 4)) fun v29 =>
  obn (oob s26 v29 2) fun _ =>
  ocv (call 68 [va_rf v29] s26) fun s33 =>
  obn (ovr (ofd s33 x0 14 4)) fun v36 =>
  obn (oob s33 v36 2) fun _ =>
  ocv (call 65 [va_rf v36] s33) fun s40 =>
  oj_X12_accepted_60 T call κ x0 s40
/-- the invariants that accepted() keeps -/
def acI (s : Nat) (K : Int) (σ : oSt) : Prop := rwI 0 σ ∧ kn8 σ ∧ cnI K σ ∧ loI s σ
/-- **accepted(), the first time, up to gather()** -/
theorem c_ac0 (hfr : ∀ q, σ.2.1 ≤ q → σ.1 q = none) (hx : σ.1 x = some (.inr (14, fs))) (hl : fs.length = 13) (f2 : fs[2]? = some (.ref p)) (f3 : fs[3]? = some (.ref y)) (f4 : fs[4]? = some .null) (f11 : fs[11]? = some (.ref jd)) (P0 : acI s K σ) (J : jSt σ jd o ca pa ph ta th len W b cl fa fo rd wk ps P Tr) : ∃ σ1, jS1 κ x p y jd σ σ1 ∧ σ1.1 x = some (.inr (14, fs.set 4 (.ref σ.2.1))) ∧ acI s K σ1 ∧ (jSt σ1 jd o ca pa ph ta th len W b cl fa fo rd wk ps P Tr ∧ σ1.2.2.1 = σ.2.2.1 + 6 ∧ σ1.2.2.2 = σ.2.2.2 + 95) ∧ oF κ T (n + 6) 179 [va_rf (some x)] σ = ocv (oF κ T (n + 5) 37 [va_rf (some σ.2.1)] σ1) (acK T (oF κ T (n + 5)) κ (some x)) := by
  have lt : ∀ {a : Nat} {c : oC}, σ.1 a = some c → a < σ.2.1 := fun {a c} e => Nat.lt_of_not_le (fun z => by rw [hfr a z] at e; cases e)
  have xl := lt hx
  obtain ⟨i1, i2, i3, i4⟩ := P0
  obtain ⟨σa, r1, r2, r3, r4, r5, r6, r7⟩ := c_chk (κ := κ) (T := T) (n := n + 1) (pg := p) (ty := y) (j := jd) hfr
  have r1 : oF κ T (n + 5) 0 [va_rf (some σ.2.1), va_rf (some p), va_rf (some y), va_rf (some jd)] (onew σ (.inr (2, odef 2)) 10) = some (none, σa) := r1
  have xa : σa.1 x = some (.inr (14, fs)) := by rw [r5 x xl]; exact hx
  have j1 : rwI 0 σa := (cQo_oF (κ := κ) rwI_ok T (n + 5)).1 _ _ _ _ _ (i1.no 2 10) _ r1
  have j2 : kn8 σa := (cQo_oF (κ := κ) kn8_ok T (n + 5)).1 _ _ _ _ _ (i2.no 2 10) _ r1
  have j3 : cnI K σa := (cQo_oF (κ := κ) cnI_ok T (n + 5)).1 _ _ _ _ _ (i3.nw _ 10) _ r1
  have j4 : loI s σa := (cQo_oF (κ := κ) loI_ok T (n + 5)).1 _ _ _ _ _ (i4.nw _ 10) _ r1
  have ne : ∀ {a : Nat} {c : oC}, σ.1 a = some c → (∀ fs, c ≠ .inr (14, fs)) → a ≠ x := fun {a c} e n z => by
    rw [z, hx] at e
    injection e with e
    exact n fs e.symm
  have up : ∀ {a : Nat}, a < σ.2.1 → a ≠ x → (oput σa x (.inr (14, fs.set 4 (.ref σ.2.1)))).1 a = σ.1 a := fun {a} h1 h2 => by rw [oput_ne h2, r5 a h1]
  have n2 : σa.2.1 = σ.2.1 + 6 := by rw [r7]
  refine ⟨oput σa x (.inr (14, fs.set 4 (.ref σ.2.1))), ⟨fun a h1 h2 => up h1 h2, ⟨_, oput_eq _ _ _⟩, by rw [oput_ne (by omega)]; exact r2, fun i hi => by rw [oput_ne (by omega)]; exact r3 i hi, by rw [oput_ne (by omega)]; exact r4, fun q hq => by
    have hq : σa.2.1 ≤ q := hq
    rw [oput_ne (by omega)]; exact r6 q hq, n2⟩, oput_eq _ _ _, ⟨?_, ?_, j3, j4.pu xa⟩, ⟨?_, by show σa.2.2.1 = _; rw [r7], by show σa.2.2.2 = _; rw [r7]⟩, ?_⟩
  · exact j1.pu xa (fun fs' i r ec hi er => by injection ec with ec; injection ec with ec _; exact absurd ec (by decide))
  · exact j2.pu (fun fs' ec => by injection ec with ec; injection ec with ec _; exact absurd ec (by decide))
  · refine J.cg (fun a ha => ?_)
    obtain ⟨a1, ⟨a2, a3⟩, ⟨gp, hp, a4, a5, -⟩, ⟨gt, ht, a6, a7, -⟩, -⟩ := id J
    have go : ∀ {a : Nat} {c : oC}, σ.1 a = some c → (∀ fs, c ≠ .inr (14, fs)) → (oput σa x (.inr (14, fs.set 4 (.ref σ.2.1)))).1 a = σ.1 a := fun {a c} e n => up (lt e) (ne e n)
    rcases ha with z | z | z | z | z | z | z <;> rw [z]
    · exact go a1 (fun fs z => by injection z with z; injection z with z _; exact absurd z (by decide))
    · exact go a2 (fun fs z => by injection z with z; injection z with z _; exact absurd z (by decide))
    · exact go a3 (fun fs z => by cases z)
    · exact go a4 (fun fs z => by cases z)
    · exact go a5 (fun fs z => by cases z)
    · exact go a6 (fun fs z => by cases z)
    · exact go a7 (fun fs z => by cases z)
  · have e7 : ∀ k : Nat, ofd (onew σ (.inr (2, odef 2)) 10) (some x) 14 k = fs[k]? := fun k => ofd_at (by rw [onew_ne (by omega)]; exact hx)
    have e20 : ovr (ofd (oput σa x (.inr (14, fs.set 4 (.ref σ.2.1)))) (some x) 14 4) = some (some σ.2.1) := by
      rw [ofd_at (oput_eq _ _ _), List.getElem?_set_self (by omega)]; rfl
    have ob : oob (oput σa x (.inr (14, fs.set 4 (.ref σ.2.1)))) (some σ.2.1) 2 = some σ.2.1 := oob_at (by rw [oput_ne (by omega)]; exact r2)
    rw [oE_X12_accepted]
    unfold ob_X12_accepted
    rw [show ovr (ofd σ (some x) 14 2) = some (some p) by rw [ofd_at hx, f2]; rfl, obn_at, if_neg (fun z => by cases z), show ovr (ofd σ (some x) 14 4) = some none by rw [ofd_at hx, f4]; rfl, obn_at, if_pos rfl, oq_2, olet_at, e7 2, f2, e7 3, f3, e7 11, f11, ovr_rf, obn_at, ovr_rf, obn_at, ovr_rf, obn_at, obn_at, r1, ocv_at, opf_at xa (by omega), obn_at, show va_rf (some σ.2.1) = .ref σ.2.1 from rfl, e20, obn_at, ob, obn_at]
    rfl
end AC0
