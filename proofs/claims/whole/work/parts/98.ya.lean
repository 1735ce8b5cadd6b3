/-! the reference: single -/
theorem aPt_w {kk : Nat → Int32} {g : Bool} {i j : Nat} {p : tP} (h : aPt kk g i = .inr (p, j)) : p.2.1 = g ∧ (p.1 = 1 → p.2.2 = i) ∧ p.1 < 4 ∧ i ≤ p.2.2 ∧ p.2.2 < j := by
  unfold aPt at h
  by_cases c1 : aIs kk 211 i = true
  · rw [if_pos c1] at h
    unfold aMs at h
    by_cases c : aIs kk 1 (i + 1) = true
    · rw [if_pos c] at h; cases h; exact ⟨rfl, fun e => absurd e (show ¬ (2 : Nat) = 1 by decide), show 2 < 4 by decide, show i ≤ i + 1 by omega, show i + 1 < i + 1 + 1 by omega⟩
    · rw [if_neg c] at h; cases h
  · rw [if_neg c1] at h
    by_cases c2 : aIs kk 221 i = true
    · rw [if_pos c2] at h
      unfold aMs at h
      by_cases c : aIs kk 1 (i + 1) = true
      · rw [if_pos c] at h; cases h; exact ⟨rfl, fun e => absurd e (show ¬ (3 : Nat) = 1 by decide), show 3 < 4 by decide, show i ≤ i + 1 by omega, show i + 1 < i + 1 + 1 by omega⟩
      · rw [if_neg c] at h; cases h
    · rw [if_neg c2] at h
      by_cases c3 : aIs kk 2 i = true
      · rw [if_pos c3] at h; cases h; exact ⟨rfl, fun e => absurd e (show ¬ (0 : Nat) = 1 by decide), show 0 < 4 by decide, Nat.le_refl _, Nat.lt_succ_self i⟩
      · rw [if_neg c3] at h
        unfold aMs at h
        by_cases c : aIs kk 1 i = true
        · rw [if_pos c] at h; cases h; exact ⟨rfl, fun _ => rfl, show 1 < 4 by decide, Nat.le_refl _, Nat.lt_succ_self i⟩
        · rw [if_neg c] at h; cases h
theorem aSL_w {kk : Nat → Int32} : ∀ (t i : Nat) {ps : List tP} {j : Nat}, aSL kk t i = .inr (ps, j) → i ≤ j ∧ ∀ p ∈ ps, p.1 < 4 ∧ i ≤ p.2.2 ∧ p.2.2 < j
  | 0, i, ps, j, h => by cases h
  | t + 1, i, ps, j, h => by
    rw [aSL] at h
    by_cases c : (aIs kk 43 i || aIs kk 45 i) = true
    · rw [if_pos c] at h
      cases e1 : aPt kk (aIs kk 45 i) (i + 1) with
      | inl x => rw [e1] at h; cases h
      | inr r =>
        obtain ⟨p, j1⟩ := r
        rw [e1] at h
        have h' : ((aSL kk t j1).on fun ps j' => (Sum.inr (p :: ps, j') : aR (List tP))) = .inr (ps, j) := h
        cases e2 : aSL kk t j1 with
        | inl x => rw [e2] at h'; cases h'
        | inr y =>
          obtain ⟨ps', j2⟩ := y
          rw [e2] at h'
          cases h'
          obtain ⟨a1, a2⟩ := aSL_w t j1 e2
          obtain ⟨-, -, b1, b2, b3⟩ := aPt_w e1
          refine ⟨by omega, fun q hq => ?_⟩
          cases hq with
          | head => exact ⟨b1, by omega, by omega⟩
          | tail _ hq =>
            have := a2 q hq
            exact ⟨this.1, by omega, by omega⟩
    · rw [if_neg c] at h
      cases h
      exact ⟨Nat.le_refl _, fun p hp => by cases hp⟩
/-- what is sure of an S -/
theorem aSm_w {kk : Nat → Int32} {T i j : Nat} {t : tS} (h : aSm kk T i = .inr (t, j)) : t.1 = i ∧ i < j ∧ (∀ p ∈ t.2, p.1 < 4 ∧ i ≤ p.2.2 ∧ p.2.2 < j) ∧ ∃ p ps, t.2 = p :: ps ∧ p.2.1 = aIs kk 45 i ∧ (p.1 = 1 → p.2.1 = false → p.2.2 = i) := by
  unfold aSm at h
  cases e1 : aPt kk (aIs kk 45 i) (if aIs kk 45 i = true then i + 1 else i) with
  | inl x => rw [e1] at h; cases h
  | inr r =>
    obtain ⟨p, j1⟩ := r
    rw [e1] at h
    have h' : ((aSL kk T j1).on fun ps j' => (Sum.inr ((i, p :: ps), j') : aR tS)) = .inr (t, j) := h
    cases e2 : aSL kk T j1 with
    | inl x => rw [e2] at h'; cases h'
    | inr y =>
      obtain ⟨ps', j2⟩ := y
      rw [e2] at h'
      cases h'
      obtain ⟨a1, a2⟩ := aSL_w T j1 e2
      obtain ⟨b4, b5, b1, b2, b3⟩ := aPt_w e1
      have b6 : i ≤ (if aIs kk 45 i = true then i + 1 else i) := by split <;> omega
      refine ⟨rfl, by omega, fun q hq => ?_, p, ps', rfl, b4, fun c1 c2 => ?_⟩
      · cases hq with
        | head => exact ⟨b1, by omega, by omega⟩
        | tail _ hq =>
          have := a2 q hq
          exact ⟨this.1, by omega, by omega⟩
      · have := b5 c1
        rw [← b4, c2] at this
        exact this
theorem nI_sub (a l : Nat) : nI (a + l) - nI a = nI l := by
  unfold nI
  rw [Int32.ofNat_add, Int32.add_comm, Int32.add_sub_cancel]
theorem zA_sf (τ : zSt) (k x : Nat) : zA τ k (upd (τ.2.2.1 k) x (τ.2.2.1 k x)) = τ := by
  have e : upd (τ.2.2.1 k) x (τ.2.2.1 k x) = τ.2.2.1 k := funext fun j => by
    by_cases c : j = x
    · rw [c, upd_at]
    · rw [upd_ne _ _ c]
  rw [e]
  unfold zA
  refine Prod.ext rfl (Prod.ext rfl (Prod.ext (funext fun j => ?_) rfl))
  show (if j = k then τ.2.2.1 k else τ.2.2.1 j) = τ.2.2.1 j
  by_cases c : j = k
  · rw [if_pos c, c]
  · rw [if_neg c]
section RSI
variable {κ : oKv} {ks : Nat → Nat} {qs : List Nat} {T m h0 len cnt sz d N S P A C z : Nat} {τ : zSt} {s : Sum Nat Nat} {kk pp ee f : Nat → Int32}
theorem rPc.mo {F : Nat → aR tT} {v : Int32} {τ' : zSt} {z' : Nat} (h : rPc T len cnt kk pp ee f d A C τ N S P s F z v τ') (hz : z ≤ z') : rPc T len cnt kk pp ee f d A C τ N S P s F z' v τ' := by
  obtain ⟨N', S', P', x, h1, h2, h3, ⟨h4, h5, h6⟩, h7⟩ := h
  refine ⟨N', S', P', x, h1, h2, h3, ⟨?_, h5, h6⟩, h7⟩
  have : bz (aTo s F) z ≤ bz (aTo s F) z' := by
    cases aTo s F with
    | inl j => exact hz
    | inr i => exact Nat.le_refl _
  omega
theorem aRl_lt (h : rW τ T len cnt kk pp ee f) {i : Nat} (hi : i ≤ cnt) (g : aRl kk i < 6) : i < cnt := by
  unfold aRl at g
  by_cases c1 : aIs kk 61 i = true
  · exact h.lt hi (by decide) c1
  · by_cases c2 : aIs kk 60 i = true
    · exact h.lt hi (by decide) c2
    · by_cases c3 : aIs kk 300 i = true
      · exact h.lt hi (by decide) c3
      · by_cases c4 : aIs kk 62 i = true
        · exact h.lt hi (by decide) c4
        · by_cases c5 : aIs kk 301 i = true
          · exact h.lt hi (by decide) c5
          · by_cases c6 : aIs kk 35 i = true
            · exact h.lt hi (by decide) c6
            · rw [if_neg c1, if_neg c2, if_neg c3, if_neg c4, if_neg c5, if_neg c6] at g
              exact absurd g (by decide)
/-- single, both, condition where there is a fault already -/
theorem q_singleB {j : Nat} (h : rR T len cnt kk pp ee f d τ N S P A C (.inl j)) (hm : 1 ≤ m) : zF h0 qs ks T m 24 [.ref h0] τ = some (some (.int 0), τ) := by
  obtain ⟨n, rfl⟩ : ∃ n, m = n + 1 := ⟨m - 1, by omega⟩
  rw [zE_single]
  unfold b_single
  rw [if_neg (show ¬ τ.1 11 = 0 by rw [h.2.2.1]; decide)]
/-- a reading that is not begun -/
theorem rPc.b {j : Nat} {F : Nat → aR tT} (h : rR T len cnt kk pp ee f d τ N S P A C (.inl j)) : rPc T len cnt kk pp ee f d A C τ N S P (.inl j) F z 0 τ :=
  ⟨N, S, P, 0, h, rAg.rf τ, ⟨Nat.le_refl _, Nat.le_refl _, Nat.le_refl _⟩, ⟨Nat.le_add_right _ _, Nat.le_add_right _ _, Nat.le_refl _⟩, fun _ _ => ⟨rfl, rfl, rfl⟩, ⟨rfl, by decide⟩, fun i t j e => by cases e⟩
theorem rR.dp (h : rR T len cnt kk pp ee f d τ N S P A C s) (d' : Nat) : rR T len cnt kk pp ee f d' (zI τ 33 (nI d')) N S P A C s := by
  obtain ⟨h1, ⟨a1, a2, a3, a4, a5, a6⟩, h3⟩ := h
  refine ⟨h1, ⟨rfl, a2, a3, a4, a5, a6⟩, ?_⟩
  cases s with
  | inl j => exact h3
  | inr i => exact h3
/-- one level deeper, from the next word on -/
theorem q_deep {i k : Nat} (h : rR T len cnt kk pp ee f d τ N S P A C (.inr i)) (hi : i < cnt) (hd : d + k = 30) (hm : 2 ≤ m) (K : zSt → zRs) : ∃ τ' s', (if (zI (zI τ 10 (τ.1 10 + 1)) 33 ((zI τ 10 (τ.1 10 + 1)).1 33 + 1)).1 33 ≤ 30 then K (zI (zI τ 10 (τ.1 10 + 1)) 33 ((zI τ 10 (τ.1 10 + 1)).1 33 + 1)) else zcv (zF h0 qs ks T m 13 [.ref h0] (zI (zI τ 10 (τ.1 10 + 1)) 33 ((zI τ 10 (τ.1 10 + 1)).1 33 + 1))) K) = K τ' ∧ rR T len cnt kk pp ee f (d + 1) τ' N S P A C s' ∧ rAg N S P A C τ τ' ∧ (k = 0 → s' = .inl (i + 1)) ∧ (0 < k → s' = .inr (i + 1)) := by
  obtain ⟨n1, n2⟩ := h.nx hi
  have e1 : zI (zI τ 10 (τ.1 10 + 1)) 33 ((zI τ 10 (τ.1 10 + 1)).1 33 + 1) = zI (zI τ 10 (nI (i + 1))) 33 (nI (d + 1)) := by
    have w10 : τ.1 10 = nI i := h.2.2.2.1
    have w33 : τ.1 33 = nI d := h.2.1.1
    rw [zIn _ _ (show 33 ≠ 10 by decide), w10, w33, nI_1, nI_1]
  rw [e1]
  have n3 := n1.dp (d + 1)
  have n4 : rAg N S P A C τ (zI (zI τ 10 (nI (i + 1))) 33 (nI (d + 1))) := n2.i (by omega)
  have w : (zI (zI τ 10 (nI (i + 1))) 33 (nI (d + 1))).1 33 = nI (d + 1) := zIe _ _ _
  generalize zI (zI τ 10 (nI (i + 1))) 33 (nI (d + 1)) = τ1 at n3 n4 w ⊢
  rw [w]
  by_cases c : k = 0
  · have hn : ¬ nI (d + 1) ≤ (30 : Int32) := show ¬ nI (d + 1) ≤ nI 30 from nI_ge (by omega) (by omega)
    rw [if_neg hn]
    obtain ⟨τ2, f1, f2, f3⟩ := q_form (h0 := h0) (qs := qs) (ks := ks) (m := m) n3 hm
    rw [f1]
    exact ⟨τ2, .inl (i + 1), rfl, f2, n4.tr f3 (Nat.le_refl _) (Nat.le_refl _) (Nat.le_refl _) (Nat.le_refl _) (Nat.le_refl _), fun _ => rfl, fun e => by omega⟩
  · have hn : nI (d + 1) ≤ (30 : Int32) := show nI (d + 1) ≤ nI 30 from nI_le (by omega) (by omega)
    rw [if_pos hn]
    exact ⟨τ1, .inr (i + 1), rfl, n3, n4, fun e => absurd e c, fun _ => rfl⟩
end RSI
