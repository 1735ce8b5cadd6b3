/-! accepted(): without a PROGRAM, and again -/
section LA2
variable {ks : Nat → Nat} {qs : List Nat} {κ : oKv} {T s x y n n' p c : Nat} {a : Nat → Int32} {σ u : oSt} {τ v : zSt} {fs cf : List Value}
theorem loI_okW : iKptW (loI s) := ⟨fun σ y n h => h.nw _ n, fun σ k n h => h.nw _ n, fun σ a ci fs k v h e _ _ => h.pu e, fun σ a y y' h e => h.pu e, fun n call κ x0 x1 σ h => by
  unfold ob_X2_makeRoom
  refine PIo_gd ?_
  show PIo (loI s) (obn (opf (onew σ (.inl (.int, x1.toNatClampNeg, .inl (fun _ => 0))) x1.toNatClampNeg) x0 4 5 (va_rf (some σ.2.1))) _)
  refine PIo_be (fun s4 e4 => ?_)
  have h4 := (h.nw (.inl (.int, x1.toNatClampNeg, .inl (fun _ => 0))) x1.toNatClampNeg).pf e4
  refine PIo_gd ?_
  show PIo (loI s) (obn (opf (onew s4 (.inl (.object (oq 11).1, x1.toNatClampNeg, .inr (.inr (.inr (.inr (fun _ => none)))))) x1.toNatClampNeg) x0 4 6 (va_rf (some s4.2.1))) _)
  refine PIo_be (fun s9 e9 => ?_)
  exact PIo_some ((h4.nw (.inl (.object (oq 11).1, x1.toNatClampNeg, .inr (.inr (.inr (.inr (fun _ => none)))))) x1.toNatClampNeg).pf e9)⟩
theorem lcpI_i {X : oRs} {Y : zRs} (h : lcpI X Y = some (u, v)) : ∃ r, X = some (some (.int r), u) ∧ Y = some (some (.int r), v) := by
  unfold lcpI at h
  split at h
  · rename_i r u' r' v' 
    split at h
    · rename_i e
      injection h with h
      injection h with h1 h2
      rw [h1, h2, ← e]
      exact ⟨r, rfl, rfl⟩
    · cases h
  · cases h
/-- nothing comes to lie below over accepted() -/
theorem lo_ac (h : lst (oF κ T n) (zF y qs ks T n') x y a σ τ 3 = some (u, v)) (l : loI s σ) : loI s u := by
  have h : lcpI (oF κ T n 179 [va_rf (some x)] σ) (zF y qs ks T n' 111 [.ref y] τ) = some (u, v) := h
  obtain ⟨r, h1, -⟩ := lcpI_i h
  exact (cQoW_oF (κ := κ) loI_okW T n).c179 _ _ l _ h1
/-- **accepted() without a PROGRAM** -/
theorem lr_acN (hx : σ.1 x = some (.inr (14, fs))) (f2 : fs[2]? = some .null) (h66 : τ.1 66 = 0) : lst (oF κ T (n + 1)) (zF y qs ks T (n' + 1)) x y a σ τ 3 = some (σ, τ) := by
  show lcpI (oF κ T (n + 1) 179 [va_rf (some x)] σ) (zF y qs ks T (n' + 1) 111 [.ref y] τ) = _
  rw [oE_X12_accepted, zE_accepted]
  unfold ob_X12_accepted b_accepted
  rw [show ovr (ofd σ (some x) 14 2) = some none by rw [ofd_at hx, f2]; rfl, obn_at, if_pos rfl, if_pos h66]
  rfl
/-- **accepted() again** -/
theorem lr_ac2 (hx : σ.1 x = some (.inr (14, fs))) (hl : fs.length = 13) (f2 : fs[2]? = some (.ref p)) (f4 : fs[4]? = some (.ref c)) (hc : σ.1 c = some (.inr (2, cf))) (c9 : cf[9]? = some (.int (τ.1 69))) (h66 : τ.1 66 = 1) (h67 : τ.1 67 = 1) (h68 : τ.1 68 = if 0 ≤ τ.1 69 then 0 else 1) : lst (oF κ T (n + 1)) (zF y qs ks T (n' + 1)) x y a σ τ 3 = some (oput σ x (.inr (14, fs.set 5 (.int (τ.1 69)))), zI τ 67 1) := by
  show lcpI (oF κ T (n + 1) 179 [va_rf (some x)] σ) (zF y qs ks T (n' + 1) 111 [.ref y] τ) = _
  have e1 : oF κ T (n + 1) 179 [va_rf (some x)] σ = some (some (.int (if 0 ≤ τ.1 69 then 0 else 1)), oput σ x (.inr (14, fs.set 5 (.int (τ.1 69))))) := by
    rw [oE_X12_accepted]
    unfold ob_X12_accepted
    rw [show ovr (ofd σ (some x) 14 2) = some (some p) by rw [ofd_at hx, f2]; rfl, obn_at, if_neg (fun z => by cases z), show ovr (ofd σ (some x) 14 4) = some (some c) by rw [ofd_at hx, f4]; rfl, obn_at, if_neg (fun z => by cases z)]
    unfold oj_X12_accepted_60
    rw [ofd_at hx, f4, ovr_rf, obn_at, ofd_at hc, c9]
    show obn (opf σ (some x) 14 5 (.int (τ.1 69))) _ = _
    rw [opf_at hx (by omega), obn_at, ofd_at (oput_eq _ _ _), List.getElem?_set_self (by omega)]
    show (if 0 ≤ τ.1 69 then _ else _) = _
    split <;> rfl
  have e2 : zF y qs ks T (n' + 1) 111 [.ref y] τ = some (some (.int (if 0 ≤ τ.1 69 then 0 else 1)), zI τ 67 1) := by
    rw [zE_accepted]
    unfold b_accepted
    rw [if_neg (by rw [h66]; decide), if_neg (by rw [h67]; decide)]
    unfold j_accepted_20
    show some (some (Value.int ((zI τ 67 1).1 68)), zI τ 67 1) = _
    rw [zI_ne (by decide), h68]
  rw [e1, e2]
  show (if (if 0 ≤ τ.1 69 then (0 : Int32) else 1) = (if 0 ≤ τ.1 69 then 0 else 1) then some _ else none) = _
  rw [if_pos rfl]
end LA2
