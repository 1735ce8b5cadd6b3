/-! NAMES of a PROGRAM have no terms before accepted() -/
/-- NAMES from g on have no terms -/
def n5I (g : Nat) (σ : oSt) : Prop := ∀ a fs, g ≤ a → σ.1 a = some (.inr (6, fs)) → fs.length = 8 ∧ fs[5]? = some .null
section N5I
variable {g : Nat} {σ : oSt}
theorem n5I.pu (h : n5I g σ) {a : Nat} {c' : oC} (hk : ∀ fs', g ≤ a → c' = .inr (6, fs') → fs'.length = 8 ∧ fs'[5]? = some .null) : n5I g (oput σ a c') := fun w fs hw e => by
  by_cases z : w = a
  · rw [z, oput_eq] at e
    injection e with e
    exact hk fs (by rw [← z]; exact hw) e
  · rw [oput_ne z] at e; exact h w fs hw e
theorem odef_65 : (odef 6).length = 8 ∧ (odef 6)[5]? = some .null := by decide +kernel
theorem wrk_65 : ∀ x, x ∈ wrlK → x.1 = 6 → x.2 ≠ 5 := by decide +kernel
theorem n5I.na (h : n5I g σ) (y) (n : Nat) : n5I g (onew σ (.inl y) n) := fun w fs hw e => by
  by_cases c : w = σ.2.1
  · rw [c, onew_eq] at e; cases e
  · rw [onew_ne c] at e; exact h w fs hw e
theorem n5I.no (h : n5I g σ) (k n : Nat) : n5I g (onew σ (.inr (k, odef k)) n) := fun w fs hw e => by
  by_cases c : w = σ.2.1
  · rw [c, onew_eq] at e
    injection e with e; injection e with e; injection e with e1 e2
    rw [← e2, e1]
    exact odef_65
  · rw [onew_ne c] at e; exact h w fs hw e
theorem n5I.pf (h : n5I g σ) {r : Option Nat} {ci i : Nat} {x : Value} (hi : ci ≠ 6) {s : oSt} (e : opf σ r ci i x = some s) : n5I g s := by
  unfold opf at e
  split at e
  · split at e
    · split at e
      · injection e with e
        rw [← e]
        refine h.pu (fun fs' _ ec => ?_)
        injection ec with ec; injection ec with ec _
        exact absurd ec hi
      · cases e
    · cases e
  · cases e
/-- **compile() keeps it** -/
theorem n5I_ok : iKptK (n5I g) := ⟨fun σ y n h => h.na y n, fun σ k n h => h.no k n, fun σ a ci fs k v h e hw _ => h.pu (fun fs' hg ec => by
  injection ec with ec; injection ec with ec1 ec2
  have n5 := wrk_65 (ci, k) hw ec1
  subst ec1
  obtain ⟨h1, h2⟩ := h a fs hg e
  rw [← ec2, List.length_set, List.getElem?_set_ne n5]
  exact ⟨h1, h2⟩), fun σ a y y' h e => h.pu (fun fs' _ ec => by cases ec), fun n call κ x0 x1 σ h => by
  unfold ob_X2_makeRoom
  refine PIo_gd ?_
  show PIo (n5I g) (obn (opf (onew σ (.inl (.int, x1.toNatClampNeg, .inl (fun _ => 0))) x1.toNatClampNeg) x0 4 5 (va_rf (some σ.2.1))) _)
  refine PIo_be (fun s4 e4 => ?_)
  have h4 := (h.na (FieldType.int, x1.toNatClampNeg, .inl (fun _ => 0)) x1.toNatClampNeg).pf (by decide) e4
  refine PIo_gd ?_
  show PIo (n5I g) (obn (opf (onew s4 (.inl (.object (oq 11).1, x1.toNatClampNeg, .inr (.inr (.inr (.inr (fun _ => none)))))) x1.toNatClampNeg) x0 4 6 (va_rf (some s4.2.1))) _)
  refine PIo_be (fun s9 e9 => ?_)
  exact PIo_some ((h4.na (FieldType.object (oq 11).1, x1.toNatClampNeg, .inr (.inr (.inr (.inr (fun _ => none))))) x1.toNatClampNeg).pf (by decide) e9)⟩
theorem n5I_compile {κ : oKv} {T n : Nat} {x : Option Nat} {w : Option Value × oSt} (hfr : ∀ q, σ.2.1 ≤ q → σ.1 q = none) (e : oF κ T n 178 [va_rf x] σ = some w) : n5I σ.2.1 w.2 := (cQoK_oF (κ := κ) n5I_ok T n).c178 _ σ (fun a fs ha e => by rw [hfr a ha] at e; cases e) w e
end N5I
