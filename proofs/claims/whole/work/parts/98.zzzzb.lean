/-! words stand in order; how many letters they have -/
def oW (pp ee : Nat → Int32) (cnt : Nat) : Prop := (∀ j, j + 1 < cnt → (ee j).toNatClampNeg ≤ (pp (j + 1)).toNatClampNeg) ∧ ∀ w, 0 ≤ pp w
theorem wLex_ord (T len : Nat) (g : Nat → Int32) (hlen : len ≤ 2000) : ∀ (m i : Nat) (kk pp ee : Nat → Int32) (cnt : Nat), i ≤ len → (∀ j, j < cnt → (ee j).toNatClampNeg ≤ i) → oW pp ee cnt → oW (wLex T len g m i kk pp ee cnt).2.1 (wLex T len g m i kk pp ee cnt).2.2.1 (wLex T len g m i kk pp ee cnt).2.2.2.1
  | 0, i, kk, pp, ee, cnt, h1, h2, h => by
    rw [wLex]
    exact h
  | m + 1, i, kk, pp, ee, cnt, h1, h2, h => by
    rw [wLex]
    split
    next c1 =>
      split
      · exact wLex_ord T len g hlen m (i + 1) _ _ _ _ (by omega) (fun j hj => by have := h2 j hj; omega) h
      · split
        · exact wLex_ord T len g hlen m (i + 1) _ _ _ _ (by omega) (fun j hj => by have := h2 j hj; omega) h
        · split
          · exact h
          next c2 =>
            have hwe := wEnd_le (g := g) c1
            refine wLex_ord T len g hlen m (wEnd len g i) _ _ _ _ hwe (fun j hj => ?_) ⟨fun j hj => ?_, fun w => ?_⟩
            · by_cases c3 : j = cnt
              · subst c3
                rw [upd_at, nI_clamp (by omega)]
                exact Nat.le_refl _
              · rw [upd_ne _ _ c3]
                have := h2 j (by omega)
                omega
            · rw [upd_ne ee _ (by omega)]
              by_cases c3 : j + 1 = cnt
              · rw [c3, upd_at, nI_clamp (by omega)]
                exact h2 j (by omega)
              · rw [upd_ne _ _ c3]
                exact h.1 j (by omega)
            · by_cases c3 : w = cnt
              · subst c3
                rw [upd_at]
                exact nI_pos' (by omega)
              · rw [upd_ne _ _ c3]
                exact h.2 w
    next => exact h
theorem lex_ord {T len : Nat} {g : Nat → Int32} (hlen : len ≤ 2000) {R : wRes} (hR : wLex T len g T 0 (fun _ => 0) (fun _ => 0) (fun _ => 0) 0 = R) : oW (upd R.2.1 R.2.2.2.1 (nI len)) (upd R.2.2.1 R.2.2.2.1 (nI len)) R.2.2.2.1 ∧ ∀ i, R.2.2.2.1 ≤ i → R.1 i = 0 := by
  have h := wLex_ord T len g hlen T 0 (fun _ => 0) (fun _ => 0) (fun _ => 0) 0 (Nat.zero_le _) (fun j hj => by omega) ⟨fun j hj => by omega, fun w => (by decide : (0 : Int32) ≤ 0)⟩
  have w3 := (wLex_out T len g T 0 (fun _ => 0) (fun _ => 0) (fun _ => 0) 0).2
  rw [hR] at h w3
  refine ⟨⟨fun j hj => ?_, fun w => ?_⟩, w3⟩
  · rw [upd_ne _ _ (by omega), upd_ne _ _ (by omega)]
    exact h.1 j hj
  · by_cases c3 : w = R.2.2.2.1
    · subst c3
      rw [upd_at]
      exact nI_pos' (by omega)
    · rw [upd_ne _ _ c3]
      exact h.2 w
section GWO
variable {T len cnt : Nat} {τ : zSt} {kk pp ee f : Nat → Int32}
/-- letters up to a word -/
def gL (pp : Nat → Int32) (cnt len i : Nat) : Nat := if i < cnt then (pp i).toNatClampNeg else len
theorem gL_step (hw : rW τ T len cnt kk pp ee f) (ho : oW pp ee cnt) {i : Nat} (hi : i < cnt) : ∃ a, a < len ∧ a < wEnd len (fun j => f j &&& 255) a ∧ wEnd len (fun j => f j &&& 255) a ≤ len ∧ kk i = wKind T len (fun j => f j &&& 255) a (wEnd len (fun j => f j &&& 255) a) ∧ gL pp cnt len i = a ∧ wEnd len (fun j => f j &&& 255) a ≤ gL pp cnt len (i + 1) := by
  obtain ⟨-, -, -, -, hwell, -, -, hlen⟩ := hw
  obtain ⟨a, b1, b2, b3, b4, b5, b6⟩ := hwell i hi
  refine ⟨a, b1, b2, b3, b6, ?_, ?_⟩
  · unfold gL
    rw [if_pos hi, b4, nI_clamp (by omega)]
  · unfold gL
    by_cases c : i + 1 < cnt
    · rw [if_pos c]
      have := ho.1 i c
      rw [b5, nI_clamp (by omega)] at this
      exact this
    · rw [if_neg c]
      exact b3
theorem gW_of (hT : 2010 ≤ T) (hw : rW τ T len cnt kk pp ee f) (ho : oW pp ee cnt) (hz : ∀ i, cnt ≤ i → kk i = 0) : gW kk (gL pp cnt len) := by
  have hb := hw.2.1
  have lt : ∀ i c, kk i = nI c → ¬ nI c = 0 → i < cnt := fun i c h1 h2 => by
    by_cases c3 : i < cnt
    · exact c3
    · exact absurd (h1.symm.trans (hz i (by omega))) h2
  have key : ∀ (p : Nat × String × Nat), p ∈ zKp → ¬ nI p.2.2 = 0 → p.2.1.toList.length < 1000 → ∀ i, kk i = nI p.2.2 → gL pp cnt len i + p.2.1.toList.length ≤ gL pp cnt len (i + 1) := fun p hp hn hl i hk => by
    obtain ⟨a, b1, b2, b3, b4, b5, b6⟩ := gL_step hw ho (lt i _ hk hn)
    have e := isT_code (T := T) hp hT hb b1 b2 b3
    rw [← b4, hk, decide_eq_true rfl] at e
    have := (isT_iff hl).mp e
    omega
  refine ⟨fun i hi => ?_, fun i hi => ?_, fun i hi => ?_⟩
  · have hic : i < cnt := by
      by_cases c3 : i < cnt
      · exact c3
      · exact absurd (hz i (by omega)) hi
    obtain ⟨a, b1, b2, b3, b4, b5, b6⟩ := gL_step hw ho hic
    omega
  · rcases hi with h | h | h
    · exact key (530, "let", 212) (by decide) (by decide) (by decide) i h
    · exact key (543, "fun", 206) (by decide) (by decide) (by decide) i h
    · exact key (532, "rec", 219) (by decide) (by decide) (by decide) i h
  · rcases hi with h | h
    · exact key (541, "in", 208) (by decide) (by decide) (by decide) i h
    · exact key (545, "->", 304) (by decide) (by decide) (by decide) i h
/-- places go up -/
theorem pp_up (hw : rW τ T len cnt kk pp ee f) (ho : oW pp ee cnt) : ∀ i j, i < j → j < cnt → pp i < pp j := fun i j hij hj => by
  have st : ∀ d i, i + d < cnt → gL pp cnt len i + d ≤ gL pp cnt len (i + d) := fun d => by
    induction d with
    | zero => intro i _; exact Nat.le_refl _
    | succ d IH =>
      intro i hi
      have h1 := IH i (by omega)
      obtain ⟨a, b1, b2, b3, b4, b5, b6⟩ := gL_step hw ho (show i + d < cnt by omega)
      have e : i + (d + 1) = i + d + 1 := by omega
      rw [e]
      omega
  have h := st (j - i) i (by omega)
  rw [show i + (j - i) = j by omega] at h
  obtain ⟨a, e, p1, p2, p3, p4, p5, p6⟩ := hw.vl (show i < cnt by omega)
  obtain ⟨a', e', r1, r2, r3, r4, r5, r6⟩ := hw.vl hj
  unfold gL at h
  rw [if_pos (by omega), if_pos hj, p1, r1, nI_clamp (by omega), nI_clamp (by omega)] at h
  rw [p1, r1]
  exact Int32.not_le.mp (nI_ge (by omega) (by omega))
end GWO
