/-! rows of FACTS: each Known has its own -/
def rwI (g0 : Nat) (σ : oSt) : Prop := (∀ q, σ.2.1 ≤ q → σ.1 q = none) ∧ g0 ≤ σ.2.1 ∧ (∀ w fs i r, g0 ≤ w → σ.1 w = some (.inr (4, fs)) → (i = 5 ∨ i = 6) → fs[i]? = some (.ref r) → g0 ≤ r ∧ r < σ.2.1) ∧ ∀ w w' fs fs' i r, g0 ≤ w → g0 ≤ w' → σ.1 w = some (.inr (4, fs)) → σ.1 w' = some (.inr (4, fs')) → (i = 5 ∨ i = 6) → fs[i]? = some (.ref r) → fs'[i]? = some (.ref r) → w = w'
section RWI
variable {g0 : Nat} {σ σ' : oSt}
/-- the Knowns' rows stay, more cells -/
theorem rwI.go (h : rwI g0 σ) (hf : ∀ q, σ'.2.1 ≤ q → σ'.1 q = none) (hl : σ.2.1 ≤ σ'.2.1) (hk : ∀ w fs' i r, g0 ≤ w → σ'.1 w = some (.inr (4, fs')) → (i = 5 ∨ i = 6) → fs'[i]? = some (.ref r) → ∃ fs, σ.1 w = some (.inr (4, fs)) ∧ fs[i]? = some (.ref r)) : rwI g0 σ' := by
  obtain ⟨h1, h2, h3, h4⟩ := h
  refine ⟨hf, Nat.le_trans h2 hl, fun w fs i r hw e hi er => ?_, fun w w' fs fs' i r hw hw' e e' hi er er' => ?_⟩
  · obtain ⟨gs, g1, g2⟩ := hk w fs i r hw e hi er
    obtain ⟨a, b⟩ := h3 w gs i r hw g1 hi g2
    exact ⟨a, Nat.lt_of_lt_of_le b hl⟩
  · obtain ⟨gs, g1, g2⟩ := hk w fs i r hw e hi er
    obtain ⟨gs', g1', g2'⟩ := hk w' fs' i r hw' e' hi er'
    exact h4 w w' gs gs' i r hw hw' g1 g1' hi g2 g2'
theorem rwI.na (h : rwI g0 σ) (y) (n : Nat) : rwI g0 (onew σ (.inl y) n) := h.go (fun q hq => by
  have hq : σ.2.1 + 1 ≤ q := hq
  rw [onew_ne (by omega)]; exact h.1 q (by omega)) (Nat.le_succ _) (fun w fs i r _ e _ er => by
  by_cases c : w = σ.2.1
  · rw [c, onew_eq] at e; cases e
  · rw [onew_ne c] at e; exact ⟨fs, e, er⟩)
theorem odef_45 : (odef 4)[5]? = some .null ∧ (odef 4)[6]? = some .null := by decide +kernel
theorem rwI.no (h : rwI g0 σ) (k n : Nat) : rwI g0 (onew σ (.inr (k, odef k)) n) := h.go (fun q hq => by
  have hq : σ.2.1 + 1 ≤ q := hq
  rw [onew_ne (by omega)]; exact h.1 q (by omega)) (Nat.le_succ _) (fun w fs i r _ e hi er => by
  by_cases c : w = σ.2.1
  · rw [c, onew_eq] at e
    injection e with e; injection e with e; injection e with e1 e2
    rw [← e2, e1] at er
    rcases hi with rfl | rfl
    · rw [odef_45.1] at er; cases er
    · rw [odef_45.2] at er; cases er
  · rw [onew_ne c] at e; exact ⟨fs, e, er⟩)
theorem rwI.lt (h : rwI g0 σ) {a : Nat} {c : oC} (e : σ.1 a = some c) : a < σ.2.1 := Nat.lt_of_not_le (fun z => by rw [h.1 a z] at e; cases e)
theorem rwI.pu (h : rwI g0 σ) {a : Nat} {c c' : oC} (e : σ.1 a = some c) (hk : ∀ fs' i r, c' = .inr (4, fs') → (i = 5 ∨ i = 6) → fs'[i]? = some (.ref r) → ∃ fs, c = .inr (4, fs) ∧ fs[i]? = some (.ref r)) : rwI g0 (oput σ a c') := h.go (fun q hq => by
  have := h.lt e
  have hq : σ.2.1 ≤ q := hq
  rw [oput_ne (by omega)]; exact h.1 q hq) (Nat.le_refl _) (fun w fs i r _ e' hi er => by
  by_cases z : w = a
  · rw [z, oput_eq] at e'
    injection e' with e'
    obtain ⟨fs0, c1, c2⟩ := hk fs i r e' hi er
    exact ⟨fs0, by rw [z, e, c1], c2⟩
  · rw [oput_ne z] at e'; exact ⟨fs, e', er⟩)
theorem wrl_4 : ∀ x, x ∈ wrl → x.1 = 4 → x.2 ≠ 5 ∧ x.2 ≠ 6 := by decide +kernel
theorem PIo_be {P : oSt → Prop} {α : Type} {x : Option α} {f : α → oRs} (h : ∀ a, x = some a → PIo P (f a)) : PIo P (obn x f) := by
  unfold obn
  split
  · exact h _ rfl
  · exact PIo_none
/-- a row that is new -/
theorem rwI.nr (h : rwI g0 σ) {a r i : Nat} {fs : List Value} (e : σ.1 a = some (.inr (4, fs))) (hi : i = 5 ∨ i = 6) (hr : g0 ≤ r ∧ r < σ.2.1) (hn : ∀ w gs j, g0 ≤ w → σ.1 w = some (.inr (4, gs)) → (j = 5 ∨ j = 6) → gs[j]? = some (.ref r) → False) : rwI g0 (oput σ a (.inr (4, fs.set i (.ref r)))) := by
  obtain ⟨h1, h2, h3, h4⟩ := id h
  have at' : ∀ w gs j x, (oput σ a (.inr (4, fs.set i (.ref r)))).1 w = some (.inr (4, gs)) → gs[j]? = some (.ref x) → (w = a ∧ j = i ∧ x = r) ∨ ∃ gs', σ.1 w = some (.inr (4, gs')) ∧ gs'[j]? = some (.ref x) := fun w gs j x ew ej => by
    by_cases z : w = a
    · rw [z, oput_eq] at ew
      injection ew with ew; injection ew with ew; injection ew with _ ew
      rw [← ew] at ej
      by_cases q : j = i
      · left
        rw [q] at ej
        by_cases w' : i < fs.length
        · rw [List.getElem?_set_self w'] at ej
          injection ej with ej; injection ej with ej
          exact ⟨z, q, ej.symm⟩
        · rw [List.getElem?_eq_none (by rw [List.length_set]; omega)] at ej; cases ej
      · rw [List.getElem?_set_ne (fun w => q w.symm)] at ej
        exact Or.inr ⟨fs, by rw [z]; exact e, ej⟩
    · rw [oput_ne z] at ew
      exact Or.inr ⟨gs, ew, ej⟩
  refine ⟨fun q hq => ?_, h2, fun w gs j x hw ew hj ej => ?_, fun w w' gs gs' j x hw hw' ew ew' hj ej ej' => ?_⟩
  · have := h.lt e
    have hq : σ.2.1 ≤ q := hq
    rw [oput_ne (by omega)]; exact h1 q hq
  · rcases at' w gs j x ew ej with ⟨-, -, rfl⟩ | ⟨gs', g1, g2⟩
    · exact hr
    · exact h3 w gs' j x hw g1 hj g2
  · rcases at' w gs j x ew ej with ⟨z1, z2, z3⟩ | ⟨g, g1, g2⟩
    · rcases at' w' gs' j x ew' ej' with ⟨y1, y2, y3⟩ | ⟨g', g1', g2'⟩
      · rw [z1, y1]
      · rw [z3] at g2'
        exact (hn w' g' j hw' g1' hj g2').elim
    · rcases at' w' gs' j x ew' ej' with ⟨y1, y2, y3⟩ | ⟨g', g1', g2'⟩
      · rw [y3] at g2
        exact (hn w g j hw g1 hj g2).elim
      · exact h4 w w' g g' j x hw hw' g1 g1' hj g2 g2'
theorem rwI.pf (h : rwI g0 σ) {r0 : Option Nat} {r i : Nat} {s : oSt} (hi : i = 5 ∨ i = 6) (hr : g0 ≤ r ∧ r < σ.2.1) (hn : ∀ w gs j, g0 ≤ w → σ.1 w = some (.inr (4, gs)) → (j = 5 ∨ j = 6) → gs[j]? = some (.ref r) → False) (e : opf σ r0 4 i (va_rf (some r)) = some s) : rwI g0 s ∧ s.2 = σ.2 ∧ ∀ (w : Nat) (gs : List Value) (j x : Nat), s.1 w = some (.inr (4, gs)) → gs[j]? = some (.ref x) → x = r ∨ ∃ gs' : List Value, σ.1 w = some (.inr (4, gs')) ∧ gs'[j]? = some (.ref x) := by
  unfold opf at e
  split at e
  · rename_i a
    split at e
    · rename_i o e1
      split at e
      · rename_i c
        injection e with e
        obtain ⟨oi, ofs⟩ := o
        obtain ⟨c1, -⟩ := c
        have c1 : oi = 4 := c1
        subst c1
        refine ⟨by rw [← e]; exact h.nr e1 hi hr hn, by rw [← e]; rfl, fun w gs j x ew ej => ?_⟩
        rw [← e] at ew
        by_cases z : w = a
        · rw [z, oput_eq] at ew
          injection ew with ew; injection ew with ew; injection ew with _ ew
          rw [← ew] at ej
          by_cases q : i = j
          · left
            by_cases w' : j < ofs.length
            · rw [q, List.getElem?_set_self w'] at ej
              injection ej with ej; injection ej with ej
              exact ej.symm
            · rw [List.getElem?_eq_none (by rw [List.length_set]; exact Nat.le_of_not_lt w')] at ej; cases ej
          · rw [List.getElem?_set_ne q] at ej
            exact Or.inr ⟨ofs, by rw [z]; exact e1, ej⟩
        · rw [oput_ne z] at ew
          exact Or.inr ⟨gs, ew, ej⟩
      · cases e
    · cases e
  · cases e
theorem rwI.mk (h : rwI g0 σ) (n : Nat) (call : oCl) (κ : oKv) (x0 : Option Nat) (x1 : Int32) : PIo (rwI g0) (ob_X2_makeRoom n call κ x0 x1 σ) := by
  unfold ob_X2_makeRoom
  refine PIo_gd ?_
  have n1 := h.na (FieldType.int, x1.toNatClampNeg, .inl (fun _ => 0)) x1.toNatClampNeg
  show PIo (rwI g0) (obn (opf (onew σ (.inl (.int, x1.toNatClampNeg, .inl (fun _ => 0))) x1.toNatClampNeg) x0 4 5 (va_rf (some σ.2.1))) _)
  have old : ∀ w gs j, g0 ≤ w → (onew σ (.inl (.int, x1.toNatClampNeg, .inl (fun _ => 0))) x1.toNatClampNeg).1 w = some (.inr (4, gs)) → (j = 5 ∨ j = 6) → ∀ x, gs[j]? = some (.ref x) → x < σ.2.1 := fun w gs j hw ew hj x ej => by
    by_cases z : w = σ.2.1
    · rw [z, onew_eq] at ew; cases ew
    · rw [onew_ne z] at ew
      exact (h.2.2.1 w gs j x hw ew hj ej).2
  have lt1 : (onew σ (.inl (.int, x1.toNatClampNeg, .inl (fun _ => 0))) x1.toNatClampNeg).2.1 = σ.2.1 + 1 := rfl
  generalize onew σ (.inl (.int, x1.toNatClampNeg, .inl (fun _ => 0))) x1.toNatClampNeg = s1 at n1 old lt1
  refine PIo_be (fun s4 e4 => ?_)
  obtain ⟨h4, e5, o4⟩ := n1.pf (Or.inl rfl) ⟨h.2.1, by omega⟩ (fun w gs j hw ew hj ej => by have := old w gs j hw ew hj _ ej; omega) e4
  refine PIo_gd ?_
  have n6 := h4.na (FieldType.object (oq 11).1, x1.toNatClampNeg, .inr (.inr (.inr (.inr (fun _ => none))))) x1.toNatClampNeg
  show PIo (rwI g0) (obn (opf (onew s4 (.inl (.object (oq 11).1, x1.toNatClampNeg, .inr (.inr (.inr (.inr (fun _ => none)))))) x1.toNatClampNeg) x0 4 6 (va_rf (some s4.2.1))) _)
  refine PIo_be (fun s9 e9 => ?_)
  obtain ⟨h9, -⟩ := n6.pf (Or.inr rfl) ⟨h4.2.1, Nat.lt_succ_self _⟩ (fun w gs j hw ew hj ej => by
    by_cases z : w = s4.2.1
    · rw [z, onew_eq] at ew; cases ew
    · rw [onew_ne z] at ew
      have := (h4.2.2.1 w gs j _ hw ew hj ej).2
      omega) e9
  exact PIo_some h9
/-- **what accepted() calls keeps it** -/
theorem rwI_ok : iKpt (rwI g0) := ⟨fun σ y n h => h.na y n, fun σ k n h => h.no k n, fun σ a ci fs k v h e hw _ => h.pu e (fun fs' i r ec hi er => by
  injection ec with ec; injection ec with ec1 ec2
  obtain ⟨n5, n6⟩ := wrl_4 (ci, k) hw ec1
  rw [← ec2] at er
  refine ⟨fs, by rw [ec1], ?_⟩
  rcases hi with rfl | rfl
  · rw [List.getElem?_set_ne n5] at er; exact er
  · rw [List.getElem?_set_ne n6] at er; exact er), fun σ a y y' h e => h.pu e (fun fs' i r ec => by cases ec), fun n call κ x0 x1 σ h => h.mk n call κ x0 x1⟩
end RWI
