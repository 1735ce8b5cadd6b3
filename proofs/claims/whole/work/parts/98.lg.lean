/-! the start of both sides; scripts that never call compile() -/
/-- there is no program -/
def lNone (x : Nat) (σ : oSt) (τ : zSt) : Prop := ofd σ (some x) 14 2 = some .null ∧ τ.1 66 = 0
theorem lS1_h (sz : Nat) : lS1 sz = hP sz [] (.inr (14, odef 14)) [] 1 13 := by
  have e : lS1 sz = onew (hS sz [] 0 0) (.inr (14, odef 14)) 13 := by
    unfold lS1
    rw [oq_n.2.2.2.2]
    congr 1
    refine oSt_ext (fun q => ?_) rfl
    show none = if sz ≤ q then ([] : List oC)[q - sz]? else none
    simp
  rw [e, hS_new]
  rfl
/-- the class as it is made -/
def lU (κ : oKv) (sz : Nat) : oSt := hP sz [] (.inr (14, [.ref (sz + 1), .int 0, .null, .null, .null, .int (-1), .ref (sz + 2), .ref (sz + 3), .int 0, .int 0, .ref (sz + 4), .ref (sz + 5), .ref (sz + 12)])) [cB 2000, cB 128, cB 128, .inr (1, [.int 0, .ref κ.2.2.1, .int 0]), .inr (3, [.ref (sz + 6), .ref (sz + 8), .ref (sz + 9), .int 0, .ref (sz + 10), .ref (sz + 11), .int 0, .int 0, .null, .int 0]), cOct (sz + 7), cL0, cQ (oq 7).1 40, cZ 40, cQ (oq 6).1 40, cZ 40, .inr (5, [.null, .int 0, .ref (sz + 13), .ref (sz + 14), .ref (sz + 15), .int 0, .ref (sz + 16), .ref (sz + 17), .ref (sz + 18), .int 0, .int 0, .int 0, .int 0, .int 0, .int 0, .long 0, .long 0, .int 0]), cJ 6, cA 6, cJ 64, cQ (oq 7).1 1683, cI 1683, cI 1683] 19 7590
theorem lU_ok (κ : oKv) (T n sz : Nat) : oF κ T (n + 4) 173 [.ref sz] (lS1 sz) = some (none, lU κ sz) := by
  rw [lS1_h]
  have h := h_class κ T n sz 1 13 []
  exact h
theorem lU_at (κ : oKv) (sz k : Nat) : (lU κ sz).1 (sz + k) = (lU κ sz).1 (sz + k) := rfl
theorem lU_0 (κ : oKv) (sz : Nat) : (lU κ sz).1 sz = some (.inr (14, [.ref (sz + 1), .int 0, .null, .null, .null, .int (-1), .ref (sz + 2), .ref (sz + 3), .int 0, .int 0, .ref (sz + 4), .ref (sz + 5), .ref (sz + 12)])) := by
  have h := hS_at sz 0 19 7590
  exact h _
theorem lU_1 (κ : oKv) (sz : Nat) : (lU κ sz).1 (sz + 1) = some (cB 2000) := by
  have h := hS_at sz 1 19 7590
  exact h _
theorem lU_2 (κ : oKv) (sz : Nat) : (lU κ sz).1 (sz + 2) = some (cB 128) := by
  have h := hS_at sz 2 19 7590
  exact h _
theorem lU_12 (κ : oKv) (sz : Nat) : (lU κ sz).1 (sz + 12) = some (.inr (5, [.null, .int 0, .ref (sz + 13), .ref (sz + 14), .ref (sz + 15), .int 0, .ref (sz + 16), .ref (sz + 17), .ref (sz + 18), .int 0, .int 0, .int 0, .int 0, .int 0, .int 0, .long 0, .long 0, .int 0])) := by
  have h := hS_at sz 12 19 7590
  exact h _
theorem lU_rel (κ : oKv) (sz : Nat) : lRel sz (lsh (lU κ sz)) zst0 := by
  refine ⟨_, _, sz + 1, sz + 2, sz + 12, 128, fun _ => 0, fun _ => 0, ⟨lU_0 κ sz, rfl⟩, ⟨rfl, rfl, rfl, rfl, rfl, rfl⟩, ⟨lU_1 κ sz, by decide, by decide, fun j hj => ?_⟩, ⟨lU_2 κ sz, by decide, by decide, by decide, fun j hj => ?_, by omega⟩, ⟨lU_12 κ sz, rfl, rfl, by omega⟩⟩
  · have h0 : (zst0.1 3).toInt = 0 := by decide
    omega
  · have h0 : (zst0.1 5).toInt = 0 := by decide
    omega
theorem lU_none (κ : oKv) (sz : Nat) : lNone sz (lsh (lU κ sz)) zst0 := by
  refine ⟨?_, rfl⟩
  rw [ofd_at (show (lsh (lU κ sz)).1 sz = _ from lU_0 κ sz)]
  rfl
section LN
variable {κ : oKv} {ks : Nat → Nat} {qs : List Nat} {T n n' x y : Nat} {a : Nat → Int32} {σ : oSt} {τ : zSt}
theorem ln_accepted (h : lNone x σ τ) : lst (oF κ T (n + 1)) (zF y qs ks T (n' + 1)) x y a σ τ 3 = some (σ, τ) := by
  refine lcpI_ok (r := -1) ((oE_X12_accepted κ T n (some x) σ).trans ?_) ((zE_accepted y qs ks T n' τ).trans ?_)
  · simp only [ob_X12_accepted, h.1, ovr, obn, if_true]
  · simp only [b_accepted, h.2, if_true]
theorem ln_type (h : lNone x σ τ) : lst (oF κ T (n + 1)) (zF y qs ks T (n' + 1)) x y a σ τ 5 = some (σ, τ) := by
  refine lcpI_ok (r := -1) ((oE_X12_type κ T n (some x) (a 1) σ).trans ?_) ((zE_type y qs ks T n' (a 1) τ).trans ?_)
  · simp only [ob_X12_type, h.1, ovr, obn, if_true]
  · simp only [b_type, h.2, if_true]
theorem ln_give (h : lNone x σ τ) : lst (oF κ T (n + 1)) (zF y qs ks T (n' + 1)) x y a σ τ 7 = some (σ, τ) := by
  refine lcpI_ok (r := 0) ((oE_X12_give κ T n (some x) (a 1) (a 2) σ).trans ?_) ((zE_give y qs ks T n' (a 1) (a 2) τ).trans ?_)
  · simp only [ob_X12_give, h.1, ovr, obn, if_true]
  · simp only [b_give, h.2, if_true]
theorem ln_element (h : lNone x σ τ) : lst (oF κ T (n + 1)) (zF y qs ks T (n' + 1)) x y a σ τ 8 = some (σ, τ) := by
  refine lcpI_ok (r := 0) ((oE_X12_element κ T n (some x) (a 1) (a 2) (a 3) σ).trans ?_) ((zE_element y qs ks T n' (a 1) (a 2) (a 3) τ).trans ?_)
  · simp only [ob_X12_element, h.1, ovr, obn, if_true]
  · simp only [b_element, h.2, if_true]
theorem ln_run (h : lNone x σ τ) : lst (oF κ T (n + 1)) (zF y qs ks T (n' + 1)) x y a σ τ 9 = some (σ, τ) := by
  refine lcpI_ok (r := -1) ((oE_X12_run κ T n (some x) (a 1) σ).trans ?_) ((zE_run y qs ks T n' (a 1) τ).trans ?_)
  · simp only [ob_X12_run, h.1, ovr, obn, if_true]
  · simp only [b_run, h.2, if_true]
theorem lNone.keep {u : oSt} {v : zSt} (h : lNone x σ τ) (hk : lKeep x σ τ u v) : lNone x u v := ⟨by rw [hk.1 2 (by decide)]; exact h.1, by rw [hk.2.2.2.1 66 (by decide)]; exact h.2⟩
/-- a step without compile(), where there is no program -/
theorem lstep0 (hT : 21 ≤ T) (h : lRel x σ τ) (hn : lNone x σ τ) : ∀ k, k ≠ 2 → ∃ (u : oSt) (v : zSt), lst (oF κ T (n + 2)) (zF y qs ks T (n' + 1)) x y a σ τ k = some (u, v) ∧ lRel x u v ∧ lNone x u v ∧ u.2 = σ.2
  | 0, _ => by
    obtain ⟨u, v, h1, h2, h3⟩ := lr_feed (κ := κ) (ks := ks) (qs := qs) (n := n) (n' := n') (y := y) (a := a) hT h
    exact ⟨u, v, h1, h2, hn.keep h3, h3.2.2.1⟩
  | 1, _ => by
    obtain ⟨u, v, h1, h2, h3⟩ := lr_end (κ := κ) (ks := ks) (qs := qs) (T := T) (n := n + 1) (n' := n') (y := y) (a := a) h
    exact ⟨u, v, h1, h2, hn.keep h3, h3.2.2.1⟩
  | 2, h9 => absurd rfl h9
  | 3, _ => ⟨σ, τ, ln_accepted hn, h, hn, rfl⟩
  | 4, _ => ⟨σ, τ, lr_place h, h, hn, rfl⟩
  | 5, _ => ⟨σ, τ, ln_type hn, h, hn, rfl⟩
  | 6, _ => ⟨σ, τ, lr_out h, h, hn, rfl⟩
  | 7, _ => ⟨σ, τ, ln_give hn, h, hn, rfl⟩
  | 8, _ => ⟨σ, τ, ln_element hn, h, hn, rfl⟩
  | 9, _ => ⟨σ, τ, ln_run hn, h, hn, rfl⟩
  | 10, _ => ⟨σ, τ, lr_value h, h, hn, rfl⟩
  | 11, _ => ⟨σ, τ, lr_fuel h, h, hn, rfl⟩
  | k + 12, _ => ⟨σ, τ, rfl, h, hn, rfl⟩
/-- a script without compile(), where there is no program -/
theorem lrun0 {xs : Nat → Int32} {L : Nat} (hT : 21 ≤ T) (hxs : ∀ i, (xs i &&& 15).toNatClampNeg ≠ 2) : ∀ (m i : Nat) (σ : oSt) (τ : zSt), L < i + 6 * (m + 1) → lRel x σ τ → lNone x σ τ → ∃ (σ' : oSt) (τ' : zSt), lrun (oF κ T (n + 2)) (zF y qs ks T (n' + 1)) x y xs L m i σ τ = some (σ', τ') ∧ σ'.2 = σ.2
  | 0, i, σ, τ, hm, h, hn => ⟨σ, τ, by rw [lrun, if_neg (by omega)], rfl⟩
  | m + 1, i, σ, τ, hm, h, hn => by
    by_cases c : i + 6 ≤ L
    · obtain ⟨u, v, h1, h2, h3, h4⟩ := lstep0 (κ := κ) (ks := ks) (qs := qs) (n := n) (n' := n') (y := y) (a := fun k => xs (i + k)) hT h hn _ (hxs i)
      obtain ⟨σ', τ', h5, h6⟩ := lrun0 (L := L) hT hxs m (i + 6) u v (by omega) h2 h3
      refine ⟨σ', τ', ?_, h6.trans h4⟩
      rw [lrun, if_pos c, if_pos h.ob, h1]
      exact h5
    · exact ⟨σ, τ, by rw [lrun, if_neg c], rfl⟩
end LN
/-- lGoal for every script that never calls compile() -/
theorem lGoal0 {κ : oKv} {ks : Nat → Nat} {sz : Nat} {xs : Nat → Int32} {L : Nat} (hxs : ∀ i, (xs i &&& 15).toNatClampNeg ≠ 2) : lGoal κ ks sz xs L := by
  refine ⟨4, 1, oF κ 21 4, lU κ sz, by decide, by decide, oF_ok κ 21 4, lU_ok κ 21 0 sz, show 19 + 123 ≤ room_1.cells by decide, show 7590 + 2262902 ≤ room_1.slots by decide, fun qs hq _ _ => ?_⟩
  obtain ⟨σ', τ', h1, h2⟩ := lrun0 (κ := κ) (ks := ks) (qs := qs) (T := 21) (n := 2) (n' := 0) (x := sz) (y := (lU κ sz).2.1) (L := L) (by decide) hxs L 0 (lsh (lU κ sz)) zst0 (by omega) (lU_rel κ sz) (lU_none κ sz)
  refine ⟨zF (lU κ sz).2.1 qs ks 21 1, σ', τ', fun j av τ w h => zF_ok _ qs ks 21 1 j av τ w h, h1, ?_, ?_⟩
  · rw [h2]
    show 19 + 123 ≤ room_1.cells
    decide
  · rw [h2]
    show 7590 + 2262902 ≤ room_1.slots
    decide
