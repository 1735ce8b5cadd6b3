/-! run(), the class: room in the heap -/
section HRM
variable {κ : oKv} {T n : Nat} {σ : oSt} {ma ha hl top k : Nat} {fm : List Value} {hp : Nat → Int64}
/-- what changes where the heap grows: the Machine's cell, the heap's cell, and perhaps a new one -/
def hGr (ma ha hl : Nat) (σ σ' : oSt) (ha' hl' : Nat) : Prop := (∀ x, x < σ.2.1 → x ≠ ma → x ≠ ha → σ'.1 x = σ.1 x) ∧ (∀ q, σ'.2.1 ≤ q → σ'.1 q = none) ∧ ((ha' = ha ∧ hl' = hl ∧ σ'.2 = σ.2) ∨ (ha' = σ.2.1 ∧ (2 * hl < hl' ∧ hl' ≤ 664200 ∧ 64 ≤ hl) ∧ σ'.2 = (σ.2.1 + 1, σ.2.2.1 + 1, σ.2.2.2 + hl')))
theorem c_rm33 {call : oCl} (M : hMa ma fm ha hl hp top σ) (hk : top + k ≤ hl) : oj_X3_room_33 T call κ (some ma) (nI k) σ = some (some (.int (nI top)), oput σ ma (.inr (5, fm.set 5 (.int (nI (top + k)))))) := by
  obtain ⟨⟨m1, m2⟩, ⟨m3, m4⟩, m5, m6, m7, m8⟩ := M
  have a : (oput σ ma (.inr (5, fm.set 5 (.int (nI (top + k)))))).1 ma = some (.inr (5, fm.set 5 (.int (nI (top + k))))) := oput_eq _ _ _
  have e : nI (top + k) - nI k = nI top := by
    rw [← nI_add, Int32.add_sub_cancel]
  unfold oj_X3_room_33
  rw [ofd_at m1, m4, ovi_in, obn_at, nI_add, opf_at m1 (by rw [m2]; decide), obn_at, ofd_at a, List.getElem?_set_self (by rw [m2]; decide), ovi_in, obn_at, e]
/-- **room() (76)** -/
theorem h_room (M : hMa ma fm ha hl hp top σ) (hk : top + k ≤ 332100) (hne : ma ≠ ha) (hml : ma < σ.2.1) (hhl : ha < σ.2.1) (hfr : ∀ q, σ.2.1 ≤ q → σ.1 q = none) : ∃ σ' ha' hl' hp', oF κ T (n + 2) 76 [va_rf (some ma), .int (nI k)] σ = some (some (.int (nI top)), σ') ∧ hMa ma ((fm.set 4 (.ref ha')).set 5 (.int (nI (top + k)))) ha' hl' hp' (top + k) σ' ∧ (∀ i, i < top → hp' i = hp i) ∧ hGr ma ha hl σ σ' ha' hl' ∧ ha' ≠ ma ∧ ha' < σ'.2.1 := by
  obtain ⟨⟨m1, m2⟩, ⟨m3, m4⟩, m5, m6, m7, m8⟩ := id M
  have o4 : ovr (ofd σ (some ma) 5 4) = some (some ha) := M.hp4
  have o5 : ovi (ofd σ (some ma) 5 5) = some (nI top) := by rw [ofd_at m1, m4]; rfl
  have l0 : oln2 κ σ (some ha) = some (nI hl) := by simp only [oln2, m5]; rfl
  rw [oE_X3_room]
  unfold ob_X3_room
  rw [o5, obn_at, o4, obn_at, l0, obn_at, nI_add]
  by_cases z : top + k ≤ hl
  · rw [if_pos (nI_le (by omega) (by omega)), c_rm33 M z]
    have f4 : fm.set 4 (.ref ha) = fm := List.ext_getElem? fun i => by
      by_cases c : i = 4
      · subst c; rw [List.getElem?_set_self (by rw [m2]; decide), m3]
      · rw [List.getElem?_set_ne (fun w => c w.symm)]
    refine ⟨_, ha, hl, hp, rfl, ⟨⟨by rw [f4]; exact oput_eq _ _ _, by rw [List.length_set, List.length_set]; exact m2⟩, ⟨?_, ?_⟩, (oput_ne hne.symm).trans m5, by omega, z, m8⟩, fun _ _ => rfl, ⟨fun x _ h1 _ => oput_ne h1, fun q hq => (oput_ne (by have hq : σ.2.1 ≤ q := hq; omega)).trans (hfr q hq), Or.inl ⟨rfl, rfl, rfl⟩⟩, hne.symm, hhl⟩
    · rw [List.getElem?_set_ne (by decide), List.getElem?_set_self (by rw [m2]; decide)]
    · rw [List.getElem?_set_self (by rw [List.length_set, m2]; decide)]
  · rw [if_neg (nI_ge (by omega) (by omega)), obn_at, obn_at, nI_add, show (2 : Int32) * nI (top + k) = nI (2 * (top + k)) by rw [show (2 : Int32) = nI 2 from rfl, nI_mul]]
    generalize hM2 : 2 * (top + k) = M2
    have hm2 : 2 * hl < M2 := by omega
    have hm3 : M2 ≤ 664200 := by omega
    have o1 : onn (nI M2) = true := by
      simp only [onn, nI_clamp (show M2 < 2 ^ 31 by omega), nI_neg1 (show M2 < 2 ^ 31 by omega), decide_eq_true (show M2 ≤ 60000000 by omega), not_false_eq_true, decide_true, Bool.and_self]
    have r1 : (onew σ (.inl (.long, M2, .inr (.inl (fun _ => 0)))) M2).1 ha = some (.inl (.long, hl, .inr (.inl hp))) := by rw [onew_ne (by omega)]; exact m5
    have r2 : (onew σ (.inl (.long, M2, .inr (.inl (fun _ => 0)))) M2).1 σ.2.1 = some (.inl (.long, M2, .inr (.inl (fun _ => 0)))) := onew_eq _ _ _
    have r3 : (onew σ (.inl (.long, M2, .inr (.inl (fun _ => 0)))) M2).1 ma = some (.inr (5, fm)) := by rw [onew_ne (by omega)]; exact m1
    have l2 : oln2 κ (onew σ (.inl (.long, M2, .inr (.inl (fun _ => 0)))) M2) (some ha) = some (nI hl) := by simp only [oln2, r1]; rfl
    have ix : oix 0 0 (nI hl) hl M2 = true := oix_0 (Nat.le_refl _) (by omega) (by omega)
    have CT : oF κ T (n + 1) 239 [va_rf (some ha), .int (nI M2)] σ = some (some (va_rf (some σ.2.1)), oput (onew σ (.inl (.long, M2, .inr (.inl (fun _ => 0)))) M2) σ.2.1 (.inl (.long, M2, .inr (.inl (va_cpy hp (fun _ => 0) 0 0 hl))))) := by
      rw [oE_J7_copyOf_c38d5]
      unfold ob_J7_copyOf_c38d5
      rw [l0, obn_at, if_neg (fun e => by have := nI_inj' (by omega) (by omega) e; omega), ogd_at o1, olet_at, nI_clamp (show M2 < 2 ^ 31 by omega), l2, obn_at, if_neg (show ¬ nI M2 < nI hl from fun e => Int32.lt_irrefl (Int32.lt_trans e (nI_lt (by omega) (by omega))))]
      have CY : ocy (onew σ (.inl (.long, M2, .inr (.inl (fun _ => 0)))) M2) (some ha) 0 (some σ.2.1) 0 (nI hl) = some (oput (onew σ (.inl (.long, M2, .inr (.inl (fun _ => 0)))) M2) σ.2.1 (.inl (.long, M2, .inr (.inl (va_cpy hp (fun _ => 0) 0 0 hl))))) := by
        simp only [ocy, r1, r2, ix, if_true, nI_clamp (show hl < 2 ^ 31 by omega), show (0 : Int32).toNatClampNeg = 0 by decide]
      rw [CY, obn_at]
    rw [CT, orn_at]
    generalize hσ2 : oput (onew σ (.inl (.long, M2, .inr (.inl (fun _ => 0)))) M2) σ.2.1 (.inl (.long, M2, .inr (.inl (va_cpy hp (fun _ => 0) 0 0 hl)))) = σ2
    have b1 : σ2.1 ma = some (.inr (5, fm)) := by rw [← hσ2, oput_ne (by omega)]; exact r3
    have b2 : σ2.1 σ.2.1 = some (.inl (.long, M2, .inr (.inl (va_cpy hp (fun _ => 0) 0 0 hl)))) := by rw [← hσ2]; exact oput_eq _ _ _
    have b3 : ∀ x, x < σ.2.1 → σ2.1 x = σ.1 x := fun x hx => by rw [← hσ2, oput_ne (by omega), onew_ne (by omega)]
    have b4 : ∀ x, σ.2.1 < x → σ2.1 x = σ.1 x := fun x hx => by rw [← hσ2, oput_ne (by omega), onew_ne (by omega)]
    have b5 : σ2.2 = (σ.2.1 + 1, σ.2.2.1 + 1, σ.2.2.2 + M2) := by rw [← hσ2]; rfl
    rw [show va_rf (some σ.2.1) = Value.ref σ.2.1 from rfl, opf_at b1 (by rw [m2]; decide), obn_at]
    have M' : hMa ma (fm.set 4 (.ref σ.2.1)) σ.2.1 M2 (va_cpy hp (fun _ => 0) 0 0 hl) top (oput σ2 ma (.inr (5, fm.set 4 (.ref σ.2.1)))) := ⟨⟨oput_eq _ _ _, by rw [List.length_set]; exact m2⟩, ⟨by rw [List.getElem?_set_self (by rw [m2]; decide)], by rw [List.getElem?_set_ne (by decide)]; exact m4⟩, (oput_ne (by omega)).trans b2, m6, by omega, by omega⟩
    rw [c_rm33 M' (by omega), oput_oput]
    refine ⟨_, σ.2.1, M2, va_cpy hp (fun _ => 0) 0 0 hl, rfl, ⟨⟨oput_eq _ _ _, by rw [List.length_set, List.length_set]; exact m2⟩, ⟨?_, ?_⟩, (oput_ne (by omega)).trans b2, by omega, by omega, by omega⟩, fun i hi => ?_, ⟨fun x hx h1 _ => (oput_ne h1).trans (b3 x hx), fun q hq => ?_, Or.inr ⟨rfl, ⟨hm2, hm3, by omega⟩, b5⟩⟩, (show σ.2.1 ≠ ma from fun w => by omega), ?_⟩
    · rw [List.getElem?_set_ne (by decide), List.getElem?_set_self (by rw [m2]; decide)]
    · rw [List.getElem?_set_self (by rw [List.length_set, m2]; decide)]
    · show (if 0 ≤ i ∧ i < 0 + hl then hp (0 + (i - 0)) else 0) = hp i
      rw [if_pos (by omega), show 0 + (i - 0) = i by omega]
    · have hq : σ2.2.1 ≤ q := hq
      rw [b5] at hq
      have hq : σ.2.1 + 1 ≤ q := hq
      rw [oput_ne (by omega), b4 q (by omega)]
      exact hfr q (by omega)
    · show σ.2.1 < σ2.2.1
      rw [b5]
      exact Nat.lt_succ_self _
end HRM
