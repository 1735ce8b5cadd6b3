/-! ROOM: words, against what compile() leaves, needs and cells at each place -/
section ESV
variable {kk : Nat → Int32} {T cnt : Nat}
/-- what the words of an E pay for -/
def pSv (i : Nat) (t : tT) (j : Nat) : Prop := sv t + 100 * nNd t ≤ 240 * (j - i) ∧ 8 * cXn t ≤ bW t + 32 * (j - i)
theorem pSv.mk {i j : Nat} {t : tT} {a b c d : Nat} (h1 : sv t = a) (h2 : nNd t = b) (h3 : cXn t = c) (h4 : bW t = d) (h : a + 100 * b ≤ 240 * (j - i) ∧ 8 * c ≤ d + 32 * (j - i)) : pSv i t j := by
  unfold pSv
  rw [h1, h2, h3, h4]
  exact h
set_option maxHeartbeats 2000000 in
theorem aE_sv (hz : ∀ i, cnt ≤ i → kk i = 0) (k i : Nat) (t : tT) (j : Nat) (h : aE kk T k i = .inr (t, j)) : i < j ∧ pSv i t j := by
  refine aE_ind (P := fun k i t j => i < j ∧ pSv i t j) (Q := fun k q i t j => i ≤ j ∧ pSv i t j) ?_ ?_ ?_ ?_ ?_ ?_ ?_ ?_ ?_ ?_ ?_ ?_ ?_ ?_ ?_ ?_ ?_ ?_ ?_ ?_ k i t j h
  · rintro k i a l b j c1 c2 ⟨a0, a1, a2⟩ c3 ⟨b0, b1, b2⟩
    exact ⟨by omega, pSv.mk (a := 915 + (sv a + sv b)) (b := 0 + (nNd a + nNd b)) (c := 1 + (cXn a + cXn b)) (d := 4 + (bW a + bW b)) rfl rfl rfl rfl (by omega)⟩
  · rintro k i q a l b j c1 c2 c2' q1 q4 cq ⟨a0, a1, a2⟩ c3 ⟨b0, b1, b2⟩
    exact ⟨by omega, pSv.mk (a := 1300 + (sv a + sv b)) (b := 0 + (nNd a + nNd b)) (c := 1 + 4 * q + (cXn a + cXn b)) (d := 4 + 19 * q + (bW a + bW b)) rfl rfl rfl rfl (by omega)⟩
  · rintro k i a j c1 c2 c3 ⟨a0, a1, a2⟩
    exact ⟨by omega, pSv.mk (a := 600 + (sv a + 0)) (b := 0 + (nNd a + 0)) (c := 4 + cXn a) (d := 19 + (bW a + 0)) rfl rfl rfl rfl (by omega)⟩
  · rintro k i c l a m b j c1 hc c2 ⟨a0, a1, a2⟩ c3 ⟨b0, b1, b2⟩
    have e0 := aE_nd0 hz _ _ _ _ hc
    exact ⟨by omega, pSv.mk (a := 450 + (0 + (0 + (sv a + sv b)))) (b := 0 + (0 + (0 + (nNd a + nNd b)))) (c := 2 + (cXn a + cXn b)) (d := 8 + (0 + (0 + (bW a + bW b)))) rfl rfl rfl rfl (by omega)⟩
  · rintro k i c l a j c1 hc c2 ⟨a0, a1, a2⟩
    have e0 := aE_nd0 hz _ _ _ _ hc
    exact ⟨by omega, pSv.mk (a := 230 + (0 + sv a)) (b := 1 + (0 + nNd a)) (c := 1 + cXn a) (d := 9 + (0 + bW a)) rfl rfl rfl rfl (by omega)⟩
  · rintro k i S l S' m a j c1 c2 c3 hS c4 c5 hS' c6 ⟨a0, a1, a2⟩
    obtain ⟨⟨-, f1⟩, -⟩ := aSm_fx hS
    obtain ⟨⟨-, g1⟩, -⟩ := aSm_fx hS'
    exact ⟨by omega, pSv.mk (a := 0 + (sv a + 0)) (b := 1 + (nNd a + 0)) (c := cXn a) (d := 5 + (bW a + 0)) rfl rfl rfl rfl (by omega)⟩
  · rintro k i S j c1 hS
    obtain ⟨⟨-, f1⟩, -⟩ := aSm_fx hS
    exact ⟨by omega, pSv.mk (a := 0) (b := 1) (c := 3) (d := 22) rfl rfl rfl rfl (by omega)⟩
  · rintro k i g hg
    rcases hg with ⟨c1, rfl⟩ | ⟨c1, rfl⟩ | ⟨c1, rfl⟩
    · exact ⟨by omega, pSv.mk (a := 0) (b := 0) (c := 1) (d := 15) rfl rfl rfl rfl (by omega)⟩
    · exact ⟨by omega, pSv.mk (a := 0) (b := 0) (c := 1) (d := 15) rfl rfl rfl rfl (by omega)⟩
    · exact ⟨by omega, pSv.mk (a := 0) (b := 0) (c := 6) (d := 25) rfl rfl rfl rfl (by omega)⟩
  · rintro k i S j c1 hS
    obtain ⟨⟨-, f1⟩, -⟩ := aSm_fx hS
    exact ⟨by omega, pSv.mk (a := 70) (b := 0) (c := 3) (d := 17) rfl rfl rfl rfl (by omega)⟩
  · rintro k i g S l S' j hg hS hS'
    obtain ⟨⟨-, f1⟩, -⟩ := aSm_fx hS
    obtain ⟨⟨-, g1⟩, -⟩ := aSm_fx hS'
    rcases hg with ⟨c1, rfl⟩ | ⟨c1, rfl⟩ | ⟨c1, rfl⟩
    · exact ⟨by omega, pSv.mk (a := 0) (b := 0) (c := 6) (d := 25) rfl rfl rfl rfl (by omega)⟩
    · exact ⟨by omega, pSv.mk (a := 0) (b := 1) (c := 1) (d := 20) rfl rfl rfl rfl (by omega)⟩
    · exact ⟨by omega, pSv.mk (a := 0) (b := 1) (c := 6) (d := 32) rfl rfl rfl rfl (by omega)⟩
  · rintro k i S l c1 c2 hS c3
    obtain ⟨⟨-, f1⟩, -⟩ := aSm_fx hS
    exact ⟨by omega, pSv.mk (a := 0) (b := 1) (c := 1) (d := 20) rfl rfl rfl rfl (by omega)⟩
  · rintro k i as j c1 c2 ⟨a0, a1, a2⟩
    exact ⟨by omega, pSv.mk (a := 161 + (sv as + 0)) (b := 0 + (nNd as + 0)) (c := cXn as) (d := 0 + (bW as + 0)) rfl rfl rfl rfl (by omega)⟩
  · rintro k i a l c1 ⟨a0, a1, a2⟩ c2
    exact ⟨by omega, pSv.mk (a := 455 + (sv a + 0)) (b := 0 + (nNd a + 0)) (c := cXn a) (d := 0 + (bW a + 0)) rfl rfl rfl rfl (by omega)⟩
  · rintro k i S l c1 hS c2
    obtain ⟨⟨-, f1⟩, -⟩ := aSm_fx hS
    exact ⟨by omega, pSv.mk (a := 0) (b := 0) (c := 6) (d := 25) rfl rfl rfl rfl (by omega)⟩
  · rintro k i a l b j c1 c2 ⟨a0, a1, a2⟩ c3 c4 c5 c6 ⟨b0, b1, b2⟩
    exact ⟨by omega, pSv.mk (a := 900 + (sv a + sv b)) (b := 0 + (nNd a + nNd b)) (c := 11 + (cXn a + cXn b)) (d := 56 + (bW a + bW b)) rfl rfl rfl rfl (by omega)⟩
  · rintro k q i c1
    exact ⟨Nat.le_refl _, pSv.mk (a := 0) (b := 0) (c := 0) (d := 0) rfl rfl rfl rfl (by omega)⟩
  · rintro k q i b j c1 c2 c3 ⟨b0, b1, b2⟩
    exact ⟨by omega, pSv.mk (a := 132 + (0 + sv b)) (b := 0 + (0 + nNd b)) (c := 9 + cXn b) (d := 49 + (0 + bW b)) rfl rfl rfl rfl (by omega)⟩
  · rintro k q i S l b j c1 c2 hS c3 ⟨b0, b1, b2⟩
    obtain ⟨⟨-, f1⟩, -⟩ := aSm_fx hS
    exact ⟨by omega, pSv.mk (a := 551 + (0 + sv b)) (b := 0 + (0 + nNd b)) (c := 9 + cXn b) (d := 49 + (0 + bW b)) rfl rfl rfl rfl (by omega)⟩
  · rintro k q i e l b j c1 c2 ⟨a0, a1, a2⟩ c3 ⟨b0, b1, b2⟩
    exact ⟨by omega, pSv.mk (a := 450 + (sv e + sv b)) (b := 0 + (nNd e + nNd b)) (c := 6 + (cXn e + cXn b)) (d := 49 + (bW e + bW b)) rfl rfl rfl rfl (by omega)⟩
  · rintro k q i v b j c1 ⟨b0, b1, b2⟩
    exact ⟨by omega, pSv.mk (a := 160 + (0 + sv b)) (b := 0 + (0 + nNd b)) (c := 7 + cXn b) (d := 45 + (0 + bW b)) rfl rfl rfl rfl (by omega)⟩
end ESV
section TSV
variable {T len cnt j N S P A x0 : Nat} {kk pp ee f fc : Nat → Int32} {xs : List tQ} {is : List (Nat × Nat)} {e : tT} {α : Nat → tY} {τ : zSt}
/-- **words of a PROGRAM** -/
theorem tx_sv (hp : pgT T len cnt j kk pp ee f fc xs is e α) : sv e + 100 * nNd e + 1680 * xs.length + 1200 * is.length ≤ 240 * cnt ∧ 8 * cXn e ≤ bW e + 32 * cnt := by
  obtain ⟨⟨l1, l2, -⟩, p2, -, -, -, -, ow, hz, -⟩ := hp
  rw [aPr_c] at p2
  obtain ⟨qs', i1, h1, p2⟩ := on_inr p2
  obtain ⟨is', i2, h2, p2⟩ := on_inr p2
  obtain ⟨t', i3, h3, p2⟩ := on_inr p2
  split at p2
  · rename_i ei
    injection p2 with p2
    injection p2 with p2 _
    injection p2 with e1 p2
    injection p2 with e2 e3
    subst e1 e2 e3
    obtain ⟨a0, a1, a2⟩ := aE_sv hz _ _ _ _ h3
    have w7 := aQc_7 _ _ _ _ h1
    have w5 := aNc_5 _ _ _ _ h2
    exact ⟨by omega, by omega⟩
  · cases p2
end TSV
