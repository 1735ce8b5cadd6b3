/-! CAPACITIES: the reference's rows, but INSTANCES, NAMES, conditions and what must be SO -/
section ACC
theorem yFr_a (a b : tY) : yFr (yA a b) = yFr a + yFr b + yNd b := rfl
theorem aC_75 : ∀ (q : Nat) (y : tY), (∀ i, i < q → yIs (yRs i y)) → aC 75 q y ≤ (yLv y - 1) * (yLv y - 1) + 2 * q
  | 0, _, _ => Nat.zero_le _
  | q + 1, y, h => by
    obtain ⟨a, b, e⟩ : ∃ a b, y = yA a b := ⟨_, _, h 0 (by omega)⟩
    subst e
    have I := aC_75 q b (fun i hi => h (i + 1) (by omega))
    have i1 := yFr_lv a
    have i3 := yNd_lv b
    have pa := yLv_pos a
    have pb := yLv_pos b
    show 1 + yFr a + yNd b + aC 75 q b ≤ (yLv a + yLv b - 1) * (yLv a + yLv b - 1) + 2 * (q + 1)
    obtain ⟨p, hp⟩ : ∃ p, yLv a = p + 1 := ⟨yLv a - 1, by omega⟩
    obtain ⟨r, hr⟩ : ∃ r, yLv b = r + 1 := ⟨yLv b - 1, by omega⟩
    rw [hp] at i1 ⊢
    rw [hr] at I i3 ⊢
    rw [show p + 1 - 1 = p by omega] at i1
    rw [show r + 1 - 1 = r by omega] at I
    rw [show p + 1 + (r + 1) - 1 = p + (r + 1) by omega]
    have e : (p + (r + 1)) * (p + (r + 1)) = p * p + r * r + 2 * (p * (r + 1)) + 2 * r + 1 := by
      simp only [Nat.add_mul, Nat.mul_add, Nat.mul_one, Nat.one_mul, Nat.mul_comm r p]
      omega
    rw [e]
    omega
theorem aC_79 {k : Nat} (hk : k = 79 ∨ k = 91) : ∀ (q : Nat) (y : tY), (∀ i, i < q → yIs (yRs i y)) → 2 * aC k q y + yLv y ≤ yLv y * yLv y + 2 * q
  | 0, y, _ => by
    have := Nat.le_mul_of_pos_left (yLv y) (yLv_pos y)
    show 2 * 0 + yLv y ≤ _
    omega
  | q + 1, y, h => by
    obtain ⟨a, b, e⟩ : ∃ a b, y = yA a b := ⟨_, _, h 0 (by omega)⟩
    subst e
    have I := aC_79 hk q b (fun i hi => h (i + 1) (by omega))
    have i1 := yFs_lv a
    have i3 := yLs_lv b
    have pa := yLv_pos a
    have s : aC k (q + 1) (yA a b) ≤ 1 + yFs a + yLs b + aC k q b := by
      have ce := cE1_le k
      show cE1 k + fitC a k + ptC b k + aC k q b ≤ _
      have f1 : fitC a k = yFs a := by rcases hk with r | r <;> rw [r] <;> rfl
      have f2 : ptC b k = yLs b := by rcases hk with r | r <;> rw [r] <;> rfl
      rw [f1, f2]
      omega
    show 2 * aC k (q + 1) (yA a b) + (yLv a + yLv b) ≤ (yLv a + yLv b) * (yLv a + yLv b) + 2 * (q + 1)
    have e : (yLv a + yLv b) * (yLv a + yLv b) = yLv a * yLv a + yLv b * yLv b + 2 * (yLv a * yLv b) := by
      simp only [Nat.add_mul, Nat.mul_add, Nat.mul_comm (yLv b) (yLv a)]
      omega
    have e2 : yLv b ≤ yLv a * yLv b := Nat.le_mul_of_pos_left _ pa
    rw [e]
    omega
theorem fitC_o {k : Nat} (h : k ≠ 75 ∧ k ≠ 79 ∧ k ≠ 91) (y : tY) : fitC y k ≤ yLv y := by
  unfold fitC
  rw [if_neg h.1, if_neg h.2.1, if_neg h.2.2]
  have := yFe_lv y
  have := yLs_lv y
  split
  · omega
  · split <;> omega
theorem aC_o {k : Nat} (hk : k ≠ 75 ∧ k ≠ 79 ∧ k ≠ 91) : ∀ (q : Nat) (y : tY), (∀ i, i < q → yIs (yRs i y)) → aC k q y ≤ yLv y + q
  | 0, _, _ => Nat.zero_le _
  | q + 1, y, h => by
    obtain ⟨a, b, e⟩ : ∃ a b, y = yA a b := ⟨_, _, h 0 (by omega)⟩
    subst e
    have I := aC_o hk q b (fun i hi => h (i + 1) (by omega))
    have i1 := fitC_o hk a
    have ce := cE1_le k
    have e2 : ptC b k = 0 := by
      unfold ptC
      rw [if_neg hk.1, if_neg hk.2.1, if_neg hk.2.2]
    show cE1 k + fitC a k + ptC b k + aC k q b ≤ yLv a + yLv b + (q + 1)
    rw [e2]
    omega
theorem fitC_r {k : Nat} (y : tY) (h : yIs y) : fitC (yR y) k ≤ fitC y k := by
  obtain ⟨a, b, e⟩ : ∃ a b, y = yA a b := ⟨_, _, h⟩
  subst e
  show fitC b k ≤ fitC (yA a b) k
  unfold fitC
  have h1 : yFr (yA a b) = yFr a + yFr b + yNd b := rfl
  have h2 : yFs (yA a b) = yFs a + yFs b + yLs b := rfl
  have h3 : yFe (yA a b) = yFe a + yFe b + 1 := rfl
  have h4 : yLs (yA a b) = yLs a + yLs b := rfl
  rw [h1, h2, h3, h4]
  split
  · omega
  · split
    · omega
    · split
      · omega
      · split
        · omega
        · split <;> omega
end ACC
section TXW
variable {T len cnt j N S P Q x0 : Nat} {kk pp ee f fc : Nat → Int32} {xs : List tQ} {is : List (Nat × Nat)} {e : tT} {α : Nat → tY} {g' : gG} {ρ' : Nat → tY} {τ : zSt}
/-- no NAME's type is larger than the largest TEMPLATE -/
theorem tx_nn (hT : 2010 ≤ T) (hp : pgT T len cnt j kk pp ee f fc xs is e α) (hR : pgR T len cnt kk pp ee f xs is e α N S P Q x0 g' ρ' τ) (u : Nat) : yLv (pTN f pp ee is e α u) ≤ tMx (tLs (pTE f pp ee is e α) (pTN f pp ee is e α) e) := by
  have m1 := tMx_1 (tLs (pTE f pp ee is e α) (pTN f pp ee is e α) e)
  by_cases hu : u ∈ is.map Prod.fst ++ tW e
  · obtain ⟨y1, y2⟩ := tx_yg hp hR
    have yg := y2 u hu
    obtain ⟨-, -, -, w0, nd, gok⟩ := tx_1 hT hp hR.2.1
    by_cases hk : yK (pTN f pp ee is e α u) = 1
    · obtain ⟨ρ, -, rp⟩ := tx_rp hT hp hR.2.1
      obtain ⟨id, m, d, C, ⟨h1, h2⟩, -⟩ := rp u hu (pTN f pp ee is e α u) (by
        cases ez : pTN f pp ee is e α u with
        | leaf => rw [ez] at hk; cases hk
        | inner k a b c d' =>
          rw [ez] at hk
          have hk : k + 1 = 1 := hk
          exact ⟨by omega, Or.inl rfl⟩)
      obtain ⟨-, -, -, -, -, ⟨⟨-, wf, -⟩, -⟩, -⟩ := hp
      obtain ⟨l1, l2⟩ := gUn_le (tE := pTE f pp ee is e α) (tN := pTN f pp ee is e α) e 0 (is.map Prod.fst) _ wf gok (tMx_le _) (id, m) h1
      have yu : yG (uY (pTE f pp ee is e α) (pTN f pp ee is e α) id) := by
        rcases l2 with ⟨w, q1, q2⟩ | ⟨w, q1, q2⟩
        · rw [q2]; exact y1 w q1
        · rw [q2]; exact y2 w (List.mem_append_right _ q1)
      rw [h2]
      exact Nat.le_trans (yG.rs d _ yu) l1
    · have e1 : yLv (pTN f pp ee is e α u) = 1 := by
        cases ez : pTN f pp ee is e α u with
        | leaf => rfl
        | inner k a b c d' =>
          rw [ez] at hk
          unfold yLv
          rw [if_neg (fun z => hk (by rw [z]; rfl))]
      omega
  · have e1 : (mEnd f pp ee is e).2.2.1 u = mB 0 := by
      show (mE f pp ee e (is.map Prod.fst) (mIn is mI0)).1.2.2.1 u = _
      rw [(mLe.e e _ _).2.2 u (fun z => hu (List.mem_append_right _ z)), mIn_0 is mI0 (fun z => hu (List.mem_append_left _ z))]
      rfl
    have e2 : pTN f pp ee is e α u = yB 0 := by
      show (mEnd f pp ee is e).2.2.1 u α = _
      rw [e1]
      rfl
    rw [e2]
    exact m1
theorem nm_75 : ∀ M, M < 62 → 120 * M + (61 - M) * (8 + ((M - 1) * (M - 1) + 8)) + ((M - 1) * (M - 1) + 8) + 6 ≤ 40000 := by decide
theorem nm_79 : ∀ M, M < 62 → 60 * M + (61 - M) * (8 + (M * M / 2 + 4)) + (M * M / 2 + 4) + 6 ≤ 24000 := by decide
theorem nm_o : ∀ M, M < 62 → 120 * M + (61 - M) * (8 + (M + 4)) + (M + 4) + 6 ≤ 12000 := by decide
/-- **most rows are large enough** -/
theorem tx_rw (hT : 2010 ≤ T) (hp : pgT T len cnt j kk pp ee f fc xs is e α) (hR : pgR T len cnt kk pp ee f xs is e α N S P Q x0 g' ρ' τ) (yc : tY) (c k : Nat) (hk : k ≠ 98 ∧ k ≠ 99 ∧ k ≠ 100 ∧ k ≠ 110 ∧ k ≠ 123) : (if k = 75 ∨ k = 79 ∨ k = 109 then 6 else 0) + gTc f pp ee (pTE f pp ee is e α) (pTN f pp ee is e α) xs e (is.map Prod.fst) yc c k ≤ uLm k := by
  have lv := tx_lv hp
  have nn := tx_nn hT hp hR
  obtain ⟨⟨-, -, -, -, -, f3, -⟩, -, -, w0, nd, gok⟩ := tx_1 hT hp hR.2.1
  obtain ⟨-, -, -, -, -, ⟨⟨-, wf, -, ⟨-, -, a3⟩, -⟩, -⟩, -⟩ := hp
  have gok : gOk f pp ee (pTE f pp ee is e α) (pTN f pp ee is e α) e (is.map Prod.fst) _ := gok
  have ln := tMx_ln (tLs (pTE f pp ee is e α) (pTN f pp ee is e α) e)
  have ml := tMx_le (tLs (pTE f pp ee is e α) (pTN f pp ee is e α) e)
  have m1 := tMx_1 (tLs (pTE f pp ee is e α) (pTN f pp ee is e α) e)
  have l1 := tLv_ln (tLs (pTE f pp ee is e α) (pTN f pp ee is e α) e)
  generalize tMx (tLs (pTE f pp ee is e α) (pTN f pp ee is e α) e) = M at *
  have fin : ∀ {W : tY → Nat} {P w1 B : Nat}, (∀ y c q, tpC xs y c q k + 2 * fitC y k + 8 ≤ W y) → 2 ≤ P → (∀ u q, q ≤ 4 → (∀ i, i < q → yIs (yRs i (pTN f pp ee is e α u))) → aC k q (pTN f pp ee is e α u) ≤ P) → (∀ y, yLv y ≤ M → W y ≤ w1 * (yLv y * M) + 8) → w1 * 60 * M + (61 - M) * (8 + P) + P + 6 ≤ B → 6 + gTc f pp ee (pTE f pp ee is e α) (pTN f pp ee is e α) xs e (is.map Prod.fst) yc c k ≤ B := fun {W P w1 B} h1 h2 h3 h4 h5 => by
    have i1 := ((gTc_le (kk := kk) (cnt := cnt) (pp := pp) hk.2.2.2.1 hk.2.2.2.2 h1 fitC_r h2 h3 e).1 0 (by decide) wf a3 f3 (is.map Prod.fst) _ yc c gok).1 rfl
    have i2 := tSm_b (P := P) h4 (tLs (pTE f pp ee is e α) (pTN f pp ee is e α) e) ml
    have i3 : w1 * (tLv (tLs (pTE f pp ee is e α) (pTN f pp ee is e α) e) * M) ≤ w1 * 60 * M := by
      rw [Nat.mul_assoc]
      exact Nat.mul_le_mul_left _ (Nat.mul_le_mul_right _ lv)
    have i4 : (tLs (pTE f pp ee is e α) (pTN f pp ee is e α) e).length * (8 + P) ≤ (61 - M) * (8 + P) := Nat.mul_le_mul_right _ (by omega)
    omega
  have M61 : M < 62 := by omega
  by_cases c75 : k = 75
  · subst c75
    have := fin (W := fun y => yNd y + 2 * yFr y + 8) (P := (M - 1) * (M - 1) + 8) (w1 := 2) (B := 40000) (fun y c q => Nat.le_refl _) (by omega) (fun u q hq h => by
      have a1 := aC_75 q _ h
      have a2 := Nat.mul_le_mul (show yLv (pTN f pp ee is e α u) - 1 ≤ M - 1 by have := nn u; omega) (show yLv (pTN f pp ee is e α u) - 1 ≤ M - 1 by have := nn u; omega)
      omega) (fun y hy => by
      have a1 := yNd_lv y
      have a2 := yFr_lv y
      have a3 := Nat.mul_le_mul_left (yLv y) hy
      obtain ⟨p, hp⟩ : ∃ p, yLv y = p + 1 := ⟨yLv y - 1, by have := yLv_pos y; omega⟩
      rw [hp] at a1 a2 a3 ⊢
      rw [show p + 1 - 1 = p by omega] at a2
      have e2 : (p + 1) * (p + 1) = p * p + 2 * p + 1 := by
        simp only [Nat.add_mul, Nat.mul_add, Nat.mul_one, Nat.one_mul]
        omega
      show yNd y + 2 * yFr y + 8 ≤ _
      omega) (nm_75 M M61)
    exact this
  · by_cases c79 : k = 79 ∨ k = 91
    · have := fin (W := fun y => yLs y + 2 * yFs y + 8) (P := M * M / 2 + 4) (w1 := 1) (B := 24000) (fun y c q => by
        have t1 : tpC xs y c q k ≤ yLs y := by
          rcases c79 with r | r <;> rw [r]
          · exact Nat.le_refl _
          · exact Nat.zero_le _
        have t2 : fitC y k = yFs y := by rcases c79 with r | r <;> rw [r] <;> rfl
        rw [t2]
        omega) (by omega) (fun u q hq h => by
        have a1 := aC_79 c79 q _ h
        have a2 := Nat.mul_le_mul (nn u) (nn u)
        omega) (fun y hy => by
        have a1 := yLs_lv y
        have a2 := yFs_lv y
        have a3 := Nat.mul_le_mul_left (yLv y) hy
        rw [Nat.one_mul]
        show yLs y + 2 * yFs y + 8 ≤ _
        omega) (by have := nm_79 M M61; omega)
      have u1 : uLm k = 24000 := by rcases c79 with r | r <;> rw [r] <;> rfl
      rw [u1]
      have : (if k = 75 ∨ k = 79 ∨ k = 109 then 6 else 0) ≤ 6 := by split <;> omega
      omega
    · have ko : k ≠ 75 ∧ k ≠ 79 ∧ k ≠ 91 := ⟨c75, fun z => c79 (Or.inl z), fun z => c79 (Or.inr z)⟩
      have := fin (W := fun y => 2 * yLv y + 8) (P := M + 4) (w1 := 2) (B := 12000) (fun y c q => by
        have t1 : tpC xs y c q k = 0 := by
          unfold tpC
          rw [if_neg ko.1, if_neg ko.2.1, if_neg hk.1, if_neg hk.2.1, if_neg hk.2.2.1]
        have := fitC_o ko y
        rw [t1]
        omega) (by omega) (fun u q hq h => by
        have a1 := aC_o ko q _ h
        have := nn u
        omega) (fun y hy => by
        have a3 := Nat.mul_le_mul_left (yLv y) m1
        rw [Nat.mul_one] at a3
        show 2 * yLv y + 8 ≤ _
        omega) (nm_o M M61)
      have u1 : 12000 ≤ uLm k := by
        unfold uLm
        rw [if_neg ko.1, if_neg ko.2.1]
        split
        · exact Nat.le_refl _
        · rw [if_neg ko.2.2, if_neg hk.1, if_neg hk.2.1, if_neg hk.2.2.1, if_neg hk.2.2.2.2]
          exact Nat.le_refl _
      have : (if k = 75 ∨ k = 79 ∨ k = 109 then 6 else 0) ≤ 6 := by split <;> omega
      omega
end TXW
