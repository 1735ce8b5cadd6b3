/-! weakenAll(): what single writes keep: when a Known was changed; how many cells there are -/
/-- every Known knows when it was changed, and never before the beginning -/
def kn8 (σ : oSt) : Prop := ∀ w fs, σ.1 w = some (.inr (4, fs)) → ∃ v : Int32, fs[8]? = some (.int v) ∧ 0 ≤ v.toInt
/-- cells made and the next cell go on side by side -/
def cnI (K : Int) (σ : oSt) : Prop := (σ.2.1 : Int) = σ.2.2.1 + K
section KN8
variable {σ : oSt} {K : Int}
theorem kn8.pu (h : kn8 σ) {a : Nat} {c' : oC} (hk : ∀ fs', c' = .inr (4, fs') → ∃ v : Int32, fs'[8]? = some (.int v) ∧ 0 ≤ v.toInt) : kn8 (oput σ a c') := fun w fs e => by
  by_cases z : w = a
  · rw [z, oput_eq] at e
    injection e with e
    exact hk fs e
  · rw [oput_ne z] at e; exact h w fs e
theorem odef_48 : (odef 4)[8]? = some (.int 0) := by decide +kernel
theorem wrl_48 : ∀ x, x ∈ wrl → x.1 = 4 → x.2 ≠ 8 := by decide +kernel
theorem kn8.na (h : kn8 σ) (y) (n : Nat) : kn8 (onew σ (.inl y) n) := fun w fs e => by
  by_cases c : w = σ.2.1
  · rw [c, onew_eq] at e; cases e
  · rw [onew_ne c] at e; exact h w fs e
theorem kn8.no (h : kn8 σ) (k n : Nat) : kn8 (onew σ (.inr (k, odef k)) n) := fun w fs e => by
  by_cases c : w = σ.2.1
  · rw [c, onew_eq] at e
    injection e with e; injection e with e; injection e with e1 e2
    rw [← e2, e1]
    exact ⟨0, odef_48, by decide⟩
  · rw [onew_ne c] at e; exact h w fs e
theorem kn8.pf (h : kn8 σ) {r : Option Nat} {i : Nat} {x : Value} (hi : i ≠ 8) {s : oSt} (e : opf σ r 4 i x = some s) : kn8 s := by
  unfold opf at e
  split at e
  · split at e
    · rename_i a _ o e1
      split at e
      · rename_i c
        injection e with e
        obtain ⟨oi, ofs⟩ := o
        obtain ⟨c1, -⟩ := c
        have c1 : oi = 4 := c1
        subst c1
        rw [← e]
        refine h.pu (fun fs' ec => ?_)
        injection ec with ec; injection ec with _ ec
        rw [← ec, List.getElem?_set_ne hi]
        exact h _ _ e1
      · cases e
    · cases e
  · cases e
theorem kn8.mk (h : kn8 σ) (n : Nat) (call : oCl) (κ : oKv) (x0 : Option Nat) (x1 : Int32) : PIo kn8 (ob_X2_makeRoom n call κ x0 x1 σ) := by
  unfold ob_X2_makeRoom
  refine PIo_gd ?_
  show PIo kn8 (obn (opf (onew σ (.inl (.int, x1.toNatClampNeg, .inl (fun _ => 0))) x1.toNatClampNeg) x0 4 5 (va_rf (some σ.2.1))) _)
  refine PIo_be (fun s4 e4 => ?_)
  have h4 := (h.na (FieldType.int, x1.toNatClampNeg, .inl (fun _ => 0)) x1.toNatClampNeg).pf (by decide) e4
  refine PIo_gd ?_
  show PIo kn8 (obn (opf (onew s4 (.inl (.object (oq 11).1, x1.toNatClampNeg, .inr (.inr (.inr (.inr (fun _ => none)))))) x1.toNatClampNeg) x0 4 6 (va_rf (some s4.2.1))) _)
  refine PIo_be (fun s9 e9 => ?_)
  exact PIo_some ((h4.na (FieldType.object (oq 11).1, x1.toNatClampNeg, .inr (.inr (.inr (.inr (fun _ => none))))) x1.toNatClampNeg).pf (by decide) e9)
/-- **what accepted() calls keeps it** -/
theorem kn8_ok : iKpt kn8 := ⟨fun σ y n h => h.na y n, fun σ k n h => h.no k n, fun σ a ci fs k v h e hw _ => h.pu (fun fs' ec => by
  injection ec with ec; injection ec with ec1 ec2
  have n8 := wrl_48 (ci, k) hw ec1
  subst ec1
  rw [← ec2, List.getElem?_set_ne n8]
  exact h _ _ e), fun σ a y y' h e => h.pu (fun fs' ec => by cases ec), fun n call κ x0 x1 σ h => h.mk n call κ x0 x1⟩
theorem cnI.nw (h : cnI K σ) (c : oC) (n : Nat) : cnI K (onew σ c n) := by
  have h : (σ.2.1 : Int) = σ.2.2.1 + K := h
  show ((σ.2.1 + 1 : Nat) : Int) = ((σ.2.2.1 + 1 : Nat) : Int) + K
  omega
theorem cnI.pf (h : cnI K σ) {r : Option Nat} {ci i : Nat} {x : Value} {s : oSt} (e : opf σ r ci i x = some s) : cnI K s := by
  unfold opf at e
  split at e
  · split at e
    · split at e
      · injection e with e
        rw [← e]; exact h
      · cases e
    · cases e
  · cases e
theorem cnI_ok : iKpt (cnI K) := ⟨fun σ y n h => h.nw _ n, fun σ k n h => h.nw _ n, fun σ a ci fs k v h _ _ _ => h, fun σ a y y' h _ => h, fun n call κ x0 x1 σ h => by
  unfold ob_X2_makeRoom
  refine PIo_gd ?_
  show PIo (cnI K) (obn (opf (onew σ (.inl (.int, x1.toNatClampNeg, .inl (fun _ => 0))) x1.toNatClampNeg) x0 4 5 (va_rf (some σ.2.1))) _)
  refine PIo_be (fun s4 e4 => ?_)
  have h4 := (h.nw (.inl (.int, x1.toNatClampNeg, .inl (fun _ => 0))) x1.toNatClampNeg).pf e4
  refine PIo_gd ?_
  show PIo (cnI K) (obn (opf (onew s4 (.inl (.object (oq 11).1, x1.toNatClampNeg, .inr (.inr (.inr (.inr (fun _ => none)))))) x1.toNatClampNeg) x0 4 6 (va_rf (some s4.2.1))) _)
  refine PIo_be (fun s9 e9 => ?_)
  exact PIo_some ((h4.nw (.inl (.object (oq 11).1, x1.toNatClampNeg, .inr (.inr (.inr (.inr (fun _ => none)))))) x1.toNatClampNeg).pf e9)⟩
/-- how often the Octagon can grow -/
theorem gMo.cn {len len' : Nat} {σ' : oSt} (g : gMo len len' σ σ') (h : cnI K σ) (h' : cnI K σ') (hl : len' ≤ 201600) : σ'.2.1 ≤ σ.2.1 + 25 := by
  obtain ⟨-, -, ⟨k, k1, k2⟩, -⟩ := g
  have h : (σ.2.1 : Int) = σ.2.2.1 + K := h
  have h' : (σ'.2.1 : Int) = σ'.2.2.1 + K := h'
  have k3 : 2 ^ k < 2 ^ 26 := by
    have : 1 * 2 ^ k ≤ (len + 1) * 2 ^ k := Nat.mul_le_mul_right _ (by omega)
    have e : (2 : Nat) ^ 26 = 67108864 := by decide
    omega
  have := (Nat.pow_lt_pow_iff_right (by decide : 1 < 2)).mp k3
  omega
end KN8
