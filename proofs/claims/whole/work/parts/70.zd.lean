/-! the methods of the reference as plain functions: what they are made of -/
abbrev zRs : Type := Option (Option Value × zSt)
abbrev zCl : Type := Nat → List Value → zSt → zRs
def zlet (s : zSt) (f : zSt → zRs) : zRs := f s
theorem zlet_e {s : zSt} {f : zSt → zRs} {v : Option Value × zSt} (h : zlet s f = some v) : ∃ s1, s1 = s ∧ f s1 = some v := ⟨s, rfl, h⟩
def zgd (b : Bool) (r : zRs) : zRs := if b = true then r else none
theorem zgd_e {b : Bool} {r : zRs} {v : Option Value × zSt} (h : zgd b r = some v) : b = true ∧ r = some v := by
  unfold zgd at h
  split at h
  · exact ⟨by assumption, h⟩
  · cases h
/-- in the row -/
def zin (i : Int32) (n : Nat) : Bool := decide (0 ≤ i.toInt ∧ i.toInt < n)
theorem zin_ok {i : Int32} {n : Nat} (h : zin i n = true) : vp_in i n := vp_in_iff.mpr (of_decide_eq_true h)
theorem znz_ok {p : Prop} [Decidable p] (h : decide p = true) : p := of_decide_eq_true h
def zbo (v : Int32) : Bool := decide (v = 0 ∨ v = 1)
theorem zbo_n {v : Int32} (h : zbo v = true) : narrow .boolean (.int v) = .int v := by
  rcases of_decide_eq_true h with h | h <;> subst h <;> decide
theorem zbo_f {v : Int32} (h : zbo v = true) : fits .boolean (.int v) = true := by
  rcases of_decide_eq_true h with h | h <;> subst h <;> decide
def zcv (r : zRs) (f : zSt → zRs) : zRs := match r with
  | some (none, s) => f s
  | _ => none
theorem zcv_e {r : zRs} {f : zSt → zRs} {v : Option Value × zSt} (h : zcv r f = some v) : ∃ s, r = some (none, s) ∧ f s = some v := by
  unfold zcv at h
  split at h
  · exact ⟨_, rfl, h⟩
  · cases h
def zci (r : zRs) (f : Int32 → zSt → zRs) : zRs := match r with
  | some (some (.int x), s) => f x s
  | _ => none
theorem zci_e {r : zRs} {f : Int32 → zSt → zRs} {v : Option Value × zSt} (h : zci r f = some v) : ∃ x s, r = some (some (.int x), s) ∧ f x s = some v := by
  unfold zci at h
  split at h
  · exact ⟨_, _, rfl, h⟩
  · cases h
def zcl' (r : zRs) (f : Int64 → zSt → zRs) : zRs := match r with
  | some (some (.long x), s) => f x s
  | _ => none
theorem zcl'_e {r : zRs} {f : Int64 → zSt → zRs} {v : Option Value × zSt} (h : zcl' r f = some v) : ∃ x s, r = some (some (.long x), s) ∧ f x s = some v := by
  unfold zcl' at h
  split at h
  · exact ⟨_, _, rfl, h⟩
  · cases h
def zso (r : Option Int32) (f : Int32 → zRs) : zRs := match r with
  | some x => f x
  | none => none
theorem zso_e {r : Option Int32} {f : Int32 → zRs} {v : Option Value × zSt} (h : zso r f = some v) : ∃ x, r = some x ∧ f x = some v := by
  unfold zso at h
  split at h
  · exact ⟨_, rfl, h⟩
  · cases h
theorem z_ne {x v : Int32} {k : Int} (h : ¬ x = v) (hk : v.toInt = k) : x.toInt ≠ k := fun e => h (Int32.toInt_inj.mp (by rw [e, hk]))
theorem zlk_goesOn {x : Int32} (h0 : ¬ x = 0) (h1 : ¬ x = 1) : Op.lookupswitch.offset (#[(0, 25), (1, 80)] : Array (Int × Int)).toList 92 x.toInt = 92 := by
  have a := z_ne h0 (k := 0) (by decide)
  have b := z_ne h1 (k := 1) (by decide)
  simp [Op.lookupswitch.offset, a, b, Ne.symm a, Ne.symm b]
