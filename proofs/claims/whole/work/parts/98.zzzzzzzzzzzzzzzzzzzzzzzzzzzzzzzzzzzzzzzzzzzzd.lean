/-! LETTERS: of a PROGRAM -/
theorem wk_218 : wLn (nI 218) = 4 ∧ cLt (nI 218) = true := by decide +kernel
theorem wk_209 : wLn (nI 209) = 5 ∧ cLt (nI 209) = true := by decide +kernel
theorem wk_bs : (wLn (nI 210) = 3 ∧ aF (nI 210) = 1) ∧ (wLn (nI 200) = 5 ∧ aF (nI 200) = 1) ∧ (wLn (nI 213) = 4 ∧ aF (nI 213) = 1) ∧ wLn (nI 202) = 4 := by decide +kernel
section AQL
variable {kk : Nat → Int32} {T cnt : Nat} {Pp : Nat → Nat}
theorem Pp_mj (W : ∀ j, j < cnt → Pp j + wLn (kk j) + wSp (kk j) (kk (j + 1)) ≤ Pp (j + 1)) (i j : Nat) (h1 : i ≤ j) (h2 : j ≤ cnt) : Pp i + (j - i) ≤ Pp j := by
  have h3 := Pp_mo W (j - i) i (by omega)
  rw [show i + (j - i) = j by omega] at h3
  exact h3
/-- QUALS -/
theorem aQc_l (W : ∀ j, j < cnt → Pp j + wLn (kk j) + wSp (kk j) (kk (j + 1)) ≤ Pp (j + 1)) : ∀ (r i : Nat) (xs : List tQ) (j : Nat), aQc kk r i = .inr (xs, j) → j ≤ cnt → i ≤ j ∧ 272 * (j - i) + 3793 * xs.length + 309 * Pp i ≤ 1680 * xs.length + 309 * Pp j
  | 0, i, xs, j, h, _ => by
    injection h with h
    injection h with h1 h2
    rw [← h1, ← h2]
    refine ⟨Nat.le_refl _, ?_⟩
    show 272 * (i - i) + 3793 * 0 + 309 * Pp i ≤ 1680 * 0 + 309 * Pp i
    omega
  | r + 1, i, xs, j, h, hj => by
    unfold aQc at h
    split at h
    · rename_i c
      have c := aIs_t c
      obtain ⟨x, j1, h1, h⟩ := on_inr h
      obtain ⟨ys, j2, h2, h⟩ := on_inr h
      injection h with h
      injection h with e1 e2
      subst e2
      have w1 := aQl_7 h1
      obtain ⟨f1, f2⟩ := aQc_l W r j1 ys j2 h2 hj
      obtain ⟨i1, i2, i3, i4, t1, -⟩ := aQl_eq h1
      have k1 := (aBs_c t1).2
      have b1 : 3 ≤ wLn (kk (i + 1)) ∧ aF (kk (i + 1)) = 1 := by
        obtain ⟨⟨z1, z2⟩, ⟨z3, z4⟩, ⟨z5, z6⟩, -⟩ := wk_bs
        rcases k1 with ⟨-, e⟩ | ⟨-, e⟩ | ⟨-, e⟩
        · rw [e, z1, z2]; decide
        · rw [e, z3, z4]; decide
        · rw [e, z5, z6]; decide
      have v1 := W i (by omega)
      rw [c, wk_218.1, wSp_L wk_218.2, b1.2] at v1
      have v2 := W (i + 1) (by omega)
      have v3 := Pp_mj W (i + 1 + 1) j1 (by omega) (by omega)
      rw [← e1, List.length_cons]
      omega
    · injection h with h
      injection h with h1 h2
      rw [← h1, ← h2]
      refine ⟨Nat.le_refl _, ?_⟩
      show 272 * (i - i) + 3793 * 0 + 309 * Pp i ≤ 1680 * 0 + 309 * Pp i
      omega
/-- INPUTS -/
theorem aNc_l (W : ∀ j, j < cnt → Pp j + wLn (kk j) + wSp (kk j) (kk (j + 1)) ≤ Pp (j + 1)) : ∀ (r i : Nat) (xs : List (Nat × Nat)) (j : Nat), aNc kk r i = .inr (xs, j) → j ≤ cnt → i ≤ j ∧ 272 * (j - i) + 3548 * xs.length + 309 * Pp i ≤ 1200 * xs.length + 309 * Pp j
  | 0, i, xs, j, h, _ => by
    injection h with h
    injection h with h1 h2
    rw [← h1, ← h2]
    refine ⟨Nat.le_refl _, ?_⟩
    show 272 * (i - i) + 3548 * 0 + 309 * Pp i ≤ 1200 * 0 + 309 * Pp i
    omega
  | r + 1, i, xs, j, h, hj => by
    unfold aNc at h
    split at h
    · rename_i c
      have c := aIs_t c
      obtain ⟨x, j1, h1, h⟩ := on_inr h
      obtain ⟨ys, j2, h2, h⟩ := on_inr h
      injection h with h
      injection h with e1 e2
      subst e2
      obtain ⟨f1, f2⟩ := aNc_l W r j1 ys j2 h2 hj
      unfold aNp at h1
      obtain ⟨_, i1, g1, h1⟩ := on_inr h1
      obtain ⟨_, i2, g2, h1⟩ := on_inr h1
      obtain ⟨b, i3, g3, h1⟩ := on_inr h1
      obtain ⟨_, i4, g4, h1⟩ := on_inr h1
      injection h1 with h1
      injection h1 with _ h1
      have w1 := aMs_k g1
      have w2 := aMs_k g2
      have w3 := aBs_c g3
      have w4 := aMs_k g4
      obtain ⟨w1a, rfl⟩ := w1
      obtain ⟨-, rfl⟩ := w2
      obtain ⟨rfl, w3b⟩ := w3
      obtain ⟨-, rfl⟩ := w4
      have b1 : 3 ≤ wLn (kk (i + 1 + 1 + 1)) := by
        obtain ⟨⟨z1, z2⟩, ⟨z3, z4⟩, ⟨z5, z6⟩, z7⟩ := wk_bs
        rcases w3b with ⟨-, e⟩ | ⟨-, e⟩ | ⟨-, e⟩
        · rw [e, z1]; decide
        · rw [e, z7]; decide
        · rw [e, z3]; decide
      have v1 := W i (by omega)
      rw [c, wk_209.1, wSp_L wk_209.2, w1a, wk_1.2.2.2] at v1
      have v2 := Pp_mj W (i + 1) (i + 1 + 1 + 1) (by omega) (by omega)
      have v3 := W (i + 1 + 1 + 1) (by omega)
      have v4 := Pp_mj W (i + 1 + 1 + 1 + 1) (i + 1 + 1 + 1 + 1 + 1) (by omega) (by omega)
      rw [← e1, List.length_cons]
      subst h1
      omega
    · injection h with h
      injection h with h1 h2
      rw [← h1, ← h2]
      refine ⟨Nat.le_refl _, ?_⟩
      show 272 * (i - i) + 3548 * 0 + 309 * Pp i ≤ 1200 * 0 + 309 * Pp i
      omega
end AQL
section TXG
variable {kk pp ee f fc : Nat → Int32} {T len cnt j N S P A x0 : Nat} {xs : List tQ} {is : List (Nat × Nat)} {e : tT} {α : Nat → tY} {τ : zSt}
/-- **what the letters of a PROGRAM pay for** -/
theorem tx_gn (hT : 2010 ≤ T) (hp : pgT T len cnt j kk pp ee f fc xs is e α) (hr : rPo T len cnt kk pp ee f xs is e N S P A x0 τ) : 272 * cnt + 16 * (tW e).length + 8 * nF e + bW e + gnL e + 3793 * xs.length + 3548 * is.length ≤ sv e + 1680 * xs.length + 1200 * is.length + 309 * len + 618 + 89 * pnL e := by
  obtain ⟨⟨l1, l2, -⟩, p2, -, -, -, -, ow, hz, -⟩ := hp
  obtain ⟨⟨-, -, -, -, ww, kc, -⟩, -⟩ := hr
  have W : ∀ j, j < cnt → (fun j => (pp j).toNatClampNeg) j + wLn (kk j) + wSp (kk j) (kk (j + 1)) ≤ (fun j => (pp j).toNatClampNeg) (j + 1) := fun j hj => wd_st hT l1 ww ow kc hj
  have Pc : (fun j => (pp j).toNatClampNeg) cnt = len := by
    show (pp cnt).toNatClampNeg = len
    rw [kc.2]
    exact nI_tn (by omega)
  generalize (fun j => (pp j).toNatClampNeg) = Pp at W Pc
  rw [aPr_c] at p2
  obtain ⟨qs', i1, h1, p2⟩ := on_inr p2
  obtain ⟨is', i2, h2, p2⟩ := on_inr p2
  obtain ⟨t', i3, h3, p2⟩ := on_inr p2
  split at p2
  · rename_i ei
    injection p2 with p2
    injection p2 with p2 _
    injection p2 with e1 p2
    injection p2 with e2 e3
    subst e1 e2 e3
    obtain ⟨a0, -, -, a1⟩ := aE_gn hz W _ _ _ _ h3
    have a1 := a1 (by omega)
    obtain ⟨q0, q1⟩ := aQc_l W _ _ _ _ h1 (by
      have := (aNc_5 _ _ _ _ h2)
      omega)
    obtain ⟨n0, n1⟩ := aNc_l W _ _ _ _ h2 (by omega)
    have g1 := aF_1 (kk i2)
    have g2 := eF_1 (kk i3)
    rw [ei] at a1 a0
    rw [Pc] at a1
    rw [ei] at g2
    omega
  · cases p2
end TXG
