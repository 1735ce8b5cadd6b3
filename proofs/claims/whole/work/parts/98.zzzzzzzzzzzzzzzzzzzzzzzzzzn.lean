/-! findDoubt(): isFormed() -/
/-- what isFormed() says of one node that it looks at -/
def ifO (σ : oSt) (m : Nat) (b : Bool) : Prop := ∃ fs k, σ.1 m = some (.inr (7, fs)) ∧ fs[0]? = some (.int k) ∧ ((k ≠ 403 ∧ b = true) ∨ (k = 403 ∧ ∃ su na ta cap L pl, fs[19]? = some (.ref su) ∧ cSm σ su na ta cap L pl ∧ b = sFa L))
section ISF
variable {κ : oKv} {T n : Nat} {σ : oSt}
theorem cSm.ob {su na ta cap : Nat} {L : List (Nat × Int32)} {pl : Int64} (h : cSm σ su na ta cap L pl) : oob σ (some su) 11 = some su := by
  obtain ⟨g, h', e, -⟩ := h
  simp [oob, e]
/-- a node that is no && -/
theorem c_if1 {m : Nat} {b : Bool} (h : ifO σ m b) (h2 : ∀ fs, σ.1 m = some (.inr (7, fs)) → fs[0]? ≠ some (.int 302)) (hT : 0 < T) : oF κ T (n + 2) 39 [va_rf (some m)] σ = some (some (.int (if b = true then 1 else 0)), σ) := by
  obtain ⟨t, rfl⟩ : ∃ t, T = t + 1 := ⟨T - 1, by omega⟩
  obtain ⟨fs, k, h1, hk, h3⟩ := h
  have n2 := h2 fs h1
  have k2 : k ≠ 302 := fun z => n2 (by rw [hk, z])
  have e0 : ovi (ofd σ (some m) 7 0) = some k := by rw [ofd_at h1, hk]; rfl
  rw [oE_X1_isFormed]
  unfold ob_X1_isFormed
  rw [e0, obn_at]
  rcases h3 with ⟨c, rfl⟩ | ⟨c, su, na, ta, cap, L, pl, s1, s2, rfl⟩
  · rw [if_neg c]
    unfold oj_X1_isFormed_20 oj_X1_isFormed_25
    rw [ol_X1_isFormed_28, e0, obn_at, if_neg k2]
    rfl
  · have e1 : ovr (ofd σ (some m) 7 19) = some (some su) := by rw [ofd_at h1, s1]; rfl
    rw [if_pos c, e1, obn_at, s2.ob, obn_at, x_fact s2]
    by_cases q : sFa L = true
    · rw [if_pos q, oin_at, if_neg (by decide)]
      unfold oj_X1_isFormed_20 oj_X1_isFormed_25
      rw [ol_X1_isFormed_28, e0, obn_at, if_neg k2]
      rfl
    · rw [if_neg q, oin_at, if_pos rfl]
      unfold oj_X1_isFormed_25
      rw [ol_X1_isFormed_28, e0, obn_at, if_neg k2]
      rfl
/-- the parts of an && -/
theorem c_if28 {m li q : Nat} {g : Nat → Option Nat} {fs : List Value} {b : Nat → Bool} (h1 : σ.1 m = some (.inr (7, fs))) (h0 : fs[0]? = some (.int 302)) (h18 : fs[18]? = some (.ref li)) (hl : oLs σ (some li) q g) (hp : ∀ i, i < q → ∃ x, g i = some x ∧ ifO σ x (b i)) : ∀ (d i t : Nat) (a : Bool), i + d = q → d < t → ∃ r : Bool, ol_X1_isFormed_28 T (oF κ T (n + 3)) κ t (some m) (if a = true then 1 else 0) (nI i) σ = some (some (.int (if r = true then 1 else 0)), σ) ∧ (r = true ↔ a = true ∧ ∀ k, i ≤ k → k < q → b k = true)
  | 0, i, t, a, hd, ht => by
    obtain ⟨t, rfl⟩ : ∃ t', t = t' + 1 := ⟨t - 1, by omega⟩
    have e0 : ovi (ofd σ (some m) 7 0) = some 302 := by rw [ofd_at h1, h0]; rfl
    have e1 : ovr (ofd σ (some m) 7 18) = some (some li) := by rw [ofd_at h1, h18]; rfl
    obtain ⟨_, _, ob, -⟩ := id hl
    have sz := l_size (κ := κ) (T := T) (n := n + 2) hl
    refine ⟨a, ?_, fun z => ⟨z, fun k p p' => by omega⟩, fun z => z.1⟩
    rw [ol_X1_isFormed_28, e0, obn_at, if_pos rfl, e1, obn_at, ob, obn_at, sz, oin_at, if_pos (by rw [show i = q by omega]; exact Int32.le_refl _)]
    cases a <;> rfl
  | d + 1, i, t, a, hd, ht => by
    obtain ⟨t, rfl⟩ : ∃ t', t = t' + 1 := ⟨t - 1, by omega⟩
    have e0 : ovi (ofd σ (some m) 7 0) = some 302 := by rw [ofd_at h1, h0]; rfl
    have e1 : ovr (ofd σ (some m) 7 18) = some (some li) := by rw [ofd_at h1, h18]; rfl
    obtain ⟨_, _, ob, -, -, hq, -⟩ := id hl
    have sz := l_size (κ := κ) (T := T) (n := n + 2) hl
    have hi : i < q := by omega
    have gt := l_get (κ := κ) (T := T) (n := n) hl hi
    obtain ⟨x, x1, gs, k, x2, x3, x4⟩ := hp i hi
    rw [x1] at gt
    have cs : ocs σ (some x) 7 = true := by simp [ocs, x2]
    have nx : nI i + 1 = nI (i + 1) := nI_p1 i
    have eK : ovi (ofd σ (some x) 7 0) = some k := by rw [ofd_at x2, x3]; rfl
    have beg : ∀ (a : Bool), ol_X1_isFormed_28 T (oF κ T (n + 3)) κ (t + 1) (some m) (if a = true then 1 else 0) (nI i) σ = ol_X1_isFormed_28 T (oF κ T (n + 3)) κ t (some m) (if (a && b i) = true then 1 else 0) (nI (i + 1)) σ := fun a => by
      rw [ol_X1_isFormed_28, e0, obn_at, if_pos rfl, e1, obn_at, ob, obn_at, sz, oin_at, if_neg (nI_ge hi hq), e1, obn_at, ob, obn_at, gt, orn_at, ogd_at cs]
      cases a with
      | false =>
        rw [if_neg (show ¬ false = true by decide), if_pos rfl]
        unfold oj_X1_isFormed_89 oj_X1_isFormed_90
        rw [nx]; rfl
      | true =>
        rw [if_pos (show true = true from rfl), if_neg (by decide), eK, obn_at, Bool.true_and]
        rcases x4 with ⟨c, eb⟩ | ⟨c, su, na, ta', cap', L, pl, s1, s2, eb⟩
        · rw [if_neg c, eb]
          unfold oj_X1_isFormed_85 oj_X1_isFormed_90
          rw [nx]; rfl
        · have e19 : ovr (ofd σ (some x) 7 19) = some (some su) := by rw [ofd_at x2, s1]; rfl
          rw [if_pos c, e19, obn_at, s2.ob, obn_at, x_fact s2, eb]
          cases qq : sFa L with
          | true =>
            rw [if_pos rfl, oin_at, if_neg (by decide)]
            unfold oj_X1_isFormed_85 oj_X1_isFormed_90
            rw [nx]
          | false =>
            rw [if_neg (by decide), oin_at, if_pos rfl]
            unfold oj_X1_isFormed_89 oj_X1_isFormed_90
            rw [nx]
    obtain ⟨r, r1, r2⟩ := c_if28 h1 h0 h18 hl hp d (i + 1) t (a && b i) (by omega) (by omega)
    refine ⟨r, (beg a).trans r1, r2.trans ?_⟩
    rw [Bool.and_eq_true]
    constructor
    · rintro ⟨⟨z1, z2⟩, z3⟩
      refine ⟨z1, fun k p p' => ?_⟩
      by_cases c : k = i
      · rw [c]; exact z2
      · exact z3 k (by omega) p'
    · rintro ⟨z1, z2⟩
      exact ⟨⟨z1, z2 i (Nat.le_refl _) hi⟩, fun k p p' => z2 k (by omega) p'⟩
/-- an && -/
theorem c_if2 {m li q : Nat} {g : Nat → Option Nat} {fs : List Value} {b : Nat → Bool} (h1 : σ.1 m = some (.inr (7, fs))) (h0 : fs[0]? = some (.int 302)) (h18 : fs[18]? = some (.ref li)) (hl : oLs σ (some li) q g) (hp : ∀ i, i < q → ∃ x, g i = some x ∧ ifO σ x (b i)) (hT : q < T) : ∃ r : Bool, oF κ T (n + 4) 39 [va_rf (some m)] σ = some (some (.int (if r = true then 1 else 0)), σ) ∧ (r = true ↔ ∀ k, k < q → b k = true) := by
  have e0 : ovi (ofd σ (some m) 7 0) = some 302 := by rw [ofd_at h1, h0]; rfl
  obtain ⟨r, r1, r2⟩ := c_if28 (κ := κ) (T := T) (n := n) h1 h0 h18 hl hp q 0 T true (by omega) hT
  refine ⟨r, ?_, r2.trans ⟨fun z k hk => z.2 k (Nat.zero_le _) hk, fun z => ⟨rfl, fun k _ hk => z k hk⟩⟩⟩
  rw [oE_X1_isFormed]
  unfold ob_X1_isFormed
  rw [e0, obn_at, if_neg (by decide)]
  unfold oj_X1_isFormed_20 oj_X1_isFormed_25
  exact r1
end ISF
