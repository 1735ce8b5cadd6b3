/-! the class's parser: an S begins -/
theorem oq_11 : (oq 11).2.2 = 4 := by decide +kernel
/-- the sign in front of an S -/
def aNg (kk : Nat → Int32) (s : Sum Nat Nat) : Bool := match s with
  | .inl _ => false
  | .inr i => aIs kk 45 i
def aSg (kk : Nat → Int32) (s : Sum Nat Nat) : Sum Nat Nat := match s with
  | .inl j => .inl j
  | .inr i => .inr (if aIs kk 45 i = true then i + 1 else i)
section CPU
variable {κ : oKv} {sz T n m len cnt : Nat} {kk pp ee f : Nat → Int32} {A : Nat → Nat} {nq ni : Int32} {rt : Value} {σ σ' : oSt} {D : cDt} {at' cd : Nat} {cn am bd nf ff : Int32} {s : Sum Nat Nat} {nm ns : Nat → Option Nat} {ν : nSt}
/-- cells that are new are none of the parser's -/
theorem cV.new (h : cV κ sz len cnt kk pp ee f A nq ni rt σ D at' cd cn am bd nf ff) {a : Nat} (ha : σ.2.1 ≤ a) (ha' : a < σ'.2.1) : cOk A D σ.2.1 σ' a := by
  refine ⟨ha, ha', fun hmu => ?_⟩
  unfold cMu at hmu
  rcases hmu with z | z | z | z | z | z
  · have := alt h.1.1.1 h.2.1; omega
  · have := h.1.lt (a := A 7) (by unfold cSt; simp); omega
  · have := h.1.lt (a := A 8) (by unfold cSt; simp); omega
  · have := h.1.lt (a := A 9) (by unfold cSt; simp); omega
  · have := h.1.lt (a := D.1.1) (by unfold cSt; simp); omega
  · have := h.1.lt (a := D.1.2.1) (by unfold cSt; simp); omega
theorem cV.lo (h : cV κ sz len cnt kk pp ee f A nq ni rt σ D at' cd cn am bd nf ff) : ∀ k, 1 ≤ k → k ≤ 6 → A k < σ.2.1 := fun k k1 k2 => h.1.lt (by
  unfold cSt
  have : k = 1 ∨ k = 2 ∨ k = 3 ∨ k = 4 ∨ k = 5 ∨ k = 6 := by omega
  rcases this with z | z | z | z | z | z <;> rw [z] <;> simp)
/-- an S's node, its sum and its list, all empty -/
theorem c_s0 {x1 : Int32} (h : cV κ sz len cnt kk pp ee f A nq ni rt σ D at' cd cn am bd nf ff) (ho : cO pp cnt at' bd s) (hm : 8 ≤ m) : ∃ σ1, oF κ T (m + 1) 120 [va_rf (some (A 0)), .int x1] σ = ol_X7_sum__43 T (oF κ T m) κ T (some (A 0)) x1 (some σ.2.1) 1 0 σ1 ∧ (∀ a, a < σ.2.1 → σ1.1 a = σ.1 a) ∧ cV κ sz len cnt kk pp ee f A nq ni rt σ1 D at' cd cn am bd nf ff ∧ cFr A σ D σ1 D ∧ cSp κ T pp ee f A D σ.2.1 σ1 σ.2.1 at' cd ns [] (cK kk s) (σ.2.1 + 4) (σ.2.1 + 1) (σ.2.1 + 2) (σ.2.1 + 3) 2 0 ∧ σ1.2 = (σ.2.1 + 5, σ.2.2.1 + 5, σ.2.2.2 + 32) := by
  have lowσ : κ.2.2.1 < sz := h.1.1.2.2.2
  have szσ : sz ≤ σ.2.1 := h.1.1.2.2.1
  rw [oE_X7_sum_]
  unfold ob_X7_sum_
  obtain ⟨g1, v1, -⟩ := c_node (κ := κ) (T := T) (n := m) (k := 400) h (by omega)
  rw [oob_at h.2.1, obn_at, g1, orn_at]
  have e1 : (onew σ (.inr (7, cNd 400 (pp at') (nI cd))) 21).1 σ.2.1 = some (.inr (7, cNd 400 (pp at') (nI cd))) := onew_eq _ _ _
  have k1 : ∀ a, a ≠ σ.2.1 → (onew σ (.inr (7, cNd 400 (pp at') (nI cd))) 21).1 a = σ.1 a := fun a ha => onew_ne ha
  have s1 : (onew σ (.inr (7, cNd 400 (pp at') (nI cd))) 21).2 = (σ.2.1 + 1, σ.2.2.1 + 1, σ.2.2.2 + 21) := rfl
  have fr1 := v1.1.1.1
  generalize onew σ (.inr (7, cNd 400 (pp at') (nI cd))) 21 = σ1 at v1 e1 k1 s1 fr1 ⊢
  have s11 : σ1.2.1 = σ.2.1 + 1 := by rw [s1]
  -- the sum
  rw [olet_at, oq_11, obn_at]
  have e2 : (onew σ1 (.inr (11, odef 11)) 4).1 σ1.2.1 = some (.inr (11, odef 11)) := onew_eq _ _ _
  have k2 : ∀ a, a ≠ σ1.2.1 → (onew σ1 (.inr (11, odef 11)) 4).1 a = σ1.1 a := fun a ha => onew_ne ha
  have s2 : (onew σ1 (.inr (11, odef 11)) 4).2 = (σ.2.1 + 2, σ.2.2.1 + 2, σ.2.2.2 + 25) := by
    show (σ1.2.1 + 1, σ1.2.2.1 + 1, σ1.2.2.2 + 4) = _
    rw [s1]
  generalize onew σ1 (.inr (11, odef 11)) 4 = σ2 at e2 k2 s2 ⊢
  have s21 : σ2.2.1 = σ.2.1 + 2 := by rw [s2]
  have fr2 : ∀ q, σ2.2.1 ≤ q → σ2.1 q = none := fun q hq => by rw [k2 q (by omega)]; exact fr1 q (by omega)
  rw [s11] at e2 k2 ⊢
  obtain ⟨m1, hm1⟩ : ∃ m1, m = m1 + 3 := ⟨m - 3, by omega⟩
  obtain ⟨σ3, x1', x2, x3, x4, x5⟩ := x_init (κ := κ) (T := T) (n := m1 + 2) e2 fr2
  rw [show m1 + 2 + 1 = m by omega] at x1'
  rw [x1', ocv_at]
  rw [s2] at x5
  have s3 : σ3.2 = (σ.2.1 + 4, σ.2.2.1 + 4, σ.2.2.2 + 29) := by rw [x5]
  rw [s21] at x2 x3 x4
  have e3 : σ3.1 σ.2.1 = some (.inr (7, cNd 400 (pp at') (nI cd))) := by rw [x3 _ (by omega) (by omega), k2 _ (by omega)]; exact e1
  have p4 : opf σ3 (some σ.2.1) 7 19 (va_rf (some (σ.2.1 + 1))) = some (oput σ3 σ.2.1 (.inr (7, (cNd 400 (pp at') (nI cd)).set 19 (.ref (σ.2.1 + 1))))) := opf_at e3 (show 19 < 21 by decide)
  rw [p4, obn_at]
  have e4 : (oput σ3 σ.2.1 (.inr (7, (cNd 400 (pp at') (nI cd)).set 19 (.ref (σ.2.1 + 1))))).1 σ.2.1 = some (.inr (7, (cNd 400 (pp at') (nI cd)).set 19 (.ref (σ.2.1 + 1)))) := oput_eq _ _ _
  have k4 : ∀ a, a ≠ σ.2.1 → (oput σ3 σ.2.1 (.inr (7, (cNd 400 (pp at') (nI cd)).set 19 (.ref (σ.2.1 + 1))))).1 a = σ3.1 a := fun a ha => oput_ne ha
  have s4 : (oput σ3 σ.2.1 (.inr (7, (cNd 400 (pp at') (nI cd)).set 19 (.ref (σ.2.1 + 1))))).2 = (σ.2.1 + 4, σ.2.2.1 + 4, σ.2.2.2 + 29) := s3
  generalize oput σ3 σ.2.1 (.inr (7, (cNd 400 (pp at') (nI cd)).set 19 (.ref (σ.2.1 + 1)))) = σ4 at e4 k4 s4 ⊢
  have s41 : σ4.2.1 = σ.2.1 + 4 := by rw [s4]
  -- the list
  rw [olet_at, oq_1, obn_at]
  have e5 : (onew σ4 (.inr (1, odef 1)) 3).1 σ4.2.1 = some (.inr (1, odef 1)) := onew_eq _ _ _
  have k5 : ∀ a, a ≠ σ4.2.1 → (onew σ4 (.inr (1, odef 1)) 3).1 a = σ4.1 a := fun a ha => onew_ne ha
  have s5 : (onew σ4 (.inr (1, odef 1)) 3).2 = (σ.2.1 + 5, σ.2.2.1 + 5, σ.2.2.2 + 32) := by
    show (σ4.2.1 + 1, σ4.2.2.1 + 1, σ4.2.2.2 + 3) = _
    rw [s4]
  generalize onew σ4 (.inr (1, odef 1)) 3 = σ5 at e5 k5 s5 ⊢
  rw [s41] at e5 k5 ⊢
  rw [hm1, l_init e5, ocv_at, ← hm1]
  have e6 : (oput σ5 (σ.2.1 + 4) (.inr (1, [.int 0, .ref κ.2.2.1, .int 0]))).1 (σ.2.1 + 4) = some (.inr (1, [.int 0, .ref κ.2.2.1, .int 0])) := oput_eq _ _ _
  have k6 : ∀ a, a ≠ σ.2.1 + 4 → (oput σ5 (σ.2.1 + 4) (.inr (1, [.int 0, .ref κ.2.2.1, .int 0]))).1 a = σ5.1 a := fun a ha => oput_ne ha
  have s6 : (oput σ5 (σ.2.1 + 4) (.inr (1, [.int 0, .ref κ.2.2.1, .int 0]))).2 = (σ.2.1 + 5, σ.2.2.1 + 5, σ.2.2.2 + 32) := s5
  generalize oput σ5 (σ.2.1 + 4) (.inr (1, [.int 0, .ref κ.2.2.1, .int 0])) = σ6 at e6 k6 s6 ⊢
  have e6' : σ6.1 σ.2.1 = some (.inr (7, (cNd 400 (pp at') (nI cd)).set 19 (.ref (σ.2.1 + 1)))) := by rw [k6 _ (by omega), k5 _ (by omega)]; exact e4
  have p7 : opf σ6 (some σ.2.1) 7 18 (va_rf (some (σ.2.1 + 4))) = some (oput σ6 σ.2.1 (.inr (7, cSf (pp at') (nI cd) 0 .null (σ.2.1 + 4) (σ.2.1 + 1)))) := by
    rw [opf_at e6' (show 18 < 21 by decide)]
    rfl
  rw [p7, obn_at]
  have e7 : (oput σ6 σ.2.1 (.inr (7, cSf (pp at') (nI cd) 0 .null (σ.2.1 + 4) (σ.2.1 + 1)))).1 σ.2.1 = some (.inr (7, cSf (pp at') (nI cd) 0 .null (σ.2.1 + 4) (σ.2.1 + 1))) := oput_eq _ _ _
  have k7 : ∀ a, a ≠ σ.2.1 → (oput σ6 σ.2.1 (.inr (7, cSf (pp at') (nI cd) 0 .null (σ.2.1 + 4) (σ.2.1 + 1)))).1 a = σ6.1 a := fun a ha => oput_ne ha
  have s7 : (oput σ6 σ.2.1 (.inr (7, cSf (pp at') (nI cd) 0 .null (σ.2.1 + 4) (σ.2.1 + 1)))).2 = (σ.2.1 + 5, σ.2.2.1 + 5, σ.2.2.2 + 32) := s6
  generalize oput σ6 σ.2.1 (.inr (7, cSf (pp at') (nI cd) 0 .null (σ.2.1 + 4) (σ.2.1 + 1))) = σ7 at e7 k7 s7 ⊢
  have old : ∀ a, a < σ.2.1 → σ7.1 a = σ.1 a := fun a ha => by rw [k7 a (by omega), k6 a (by omega), k5 a (by omega), k4 a (by omega), x3 a (by omega) (by omega), k2 a (by omega), k1 a (by omega)]
  have fr7 : ∀ q, σ7.2.1 ≤ q → σ7.1 q = none := fun q hq => by
    rw [s7] at hq
    have hq' : σ.2.1 + 5 ≤ q := hq
    rw [k7 q (by omega), k6 q (by omega), k5 q (by omega), k4 q (by omega)]
    exact x4 q (by omega)
  have v7 : cV κ sz len cnt kk pp ee f A nq ni rt σ7 D at' cd cn am bd nf ff := (h.ex old fr7 (by rw [s7]; exact Nat.le_add_right _ _)).1
  rw [oob_at v7.2.1, obn_at, c_kind (n := m) v7 ho (by omega), oin_at]
  have p8 : opf σ7 (some σ.2.1) 7 6 (.int (cK kk s)) = some (oput σ7 σ.2.1 (.inr (7, cSf (pp at') (nI cd) (cK kk s) .null (σ.2.1 + 4) (σ.2.1 + 1)))) := by
    rw [opf_at e7 (show 6 < 21 by decide)]
    rfl
  rw [p8, obn_at]
  have e8 : (oput σ7 σ.2.1 (.inr (7, cSf (pp at') (nI cd) (cK kk s) .null (σ.2.1 + 4) (σ.2.1 + 1)))).1 σ.2.1 = some (.inr (7, cSf (pp at') (nI cd) (cK kk s) .null (σ.2.1 + 4) (σ.2.1 + 1))) := oput_eq _ _ _
  have k8 : ∀ a, a ≠ σ.2.1 → (oput σ7 σ.2.1 (.inr (7, cSf (pp at') (nI cd) (cK kk s) .null (σ.2.1 + 4) (σ.2.1 + 1)))).1 a = σ7.1 a := fun a ha => oput_ne ha
  have s8 : (oput σ7 σ.2.1 (.inr (7, cSf (pp at') (nI cd) (cK kk s) .null (σ.2.1 + 4) (σ.2.1 + 1)))).2 = (σ.2.1 + 5, σ.2.2.1 + 5, σ.2.2.2 + 32) := s7
  generalize oput σ7 σ.2.1 (.inr (7, cSf (pp at') (nI cd) (cK kk s) .null (σ.2.1 + 4) (σ.2.1 + 1))) = σ8 at e8 k8 s8 ⊢
  have s81 : σ8.2.1 = σ.2.1 + 5 := by rw [s8]
  have old8 : ∀ a, a < σ.2.1 → σ8.1 a = σ.1 a := fun a ha => by rw [k8 a (by omega)]; exact old a ha
  obtain ⟨v8, r8⟩ := h.ex old8 (fun q hq => by rw [k8 q (by omega)]; exact fr7 q (by rw [s7]; exact (by omega : σ.2.1 + 5 ≤ q))) (by omega)
  refine ⟨σ8, rfl, old8, v8, r8, ⟨e8, ⟨κ.2.2.1, 0, fun _ => none, ⟨?_, Or.inl ⟨rfl, rfl, rfl, ?_⟩, fun j hj => absurd hj (Nat.not_lt_zero _)⟩, fun k p ek => ?_, Or.inr ⟨rfl, ?_⟩, Nat.zero_le _, Nat.le_refl _⟩, ?_, h.new (Nat.le_refl _) (by omega), h.new (by omega) (by omega), h.new (by omega) (by omega), h.new (by omega) (by omega), h.new (by omega) (by omega)⟩, s8⟩
  · rw [k8 _ (by omega), k7 _ (by omega)]; exact e6
  · rw [old8 _ (by omega)]; exact h.1.1.2.1 _ lowσ
  · exact absurd ek (by show ¬ ([] : List tP)[k]? = some p; simp)
  · rw [old8 _ (by omega)]; exact h.1.1.2.1 _ lowσ
  · obtain ⟨g0, h0', y1, y2, y3, y4, y5⟩ := x2
    have kk8 : ∀ a, a ≠ σ.2.1 → a ≠ σ.2.1 + 4 → σ8.1 a = σ3.1 a := fun a z1 z2 => by rw [k8 a z1, k7 a z1, k6 a z2, k5 a z2, k4 a z1]
    refine ⟨g0, h0', ?_, ?_, ?_, y4, fun k b c ek => ?_⟩
    · rw [kk8 _ (by omega) (by omega)]; exact y1
    · rw [kk8 _ (by omega) (by omega)]; exact y2
    · rw [kk8 _ (by omega) (by omega)]; exact y3
    · exact absurd ek (by show ¬ ([] : List (Nat × Int32))[k]? = some (b, c); simp)
end CPU
