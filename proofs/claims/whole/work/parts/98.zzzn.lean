/-! the reference: sameWord, tell -/
section KRT
variable {ks : Nat → Nat} {qs : List Nat} {T n h0 len cnt : Nat} {τ : zSt} {kk pp ee f : Nat → Int32}
/-- sameWord(c, d) -/
theorem r_sameW {c d : Nat} (hT : 2010 ≤ T) (hw : rW τ T len cnt kk pp ee f) (hc : c < cnt) (hd : d < cnt) : zF h0 qs ks T (n + 1) 31 [.ref h0, .int (nI c), .int (nI d)] τ = some (some (.int (b01 (wEq f pp ee c d))), τ) := by
  have hcn := hw.cn
  obtain ⟨a, e, p1, p2, p3, p4, p5, p6⟩ := hw.vl hc
  obtain ⟨a', e', r1, r2, r3, r4, r5, r6⟩ := hw.vl hd
  rw [zE_sameWord]
  unfold b_sameWord wEq tEq wL wA
  simp only [zgd, zin_n (show c < 2010 by omega) (by decide), zin_n (show d < 2010 by omega) (by decide), if_true, nI_clamp (show c < 2 ^ 31 by omega), nI_clamp (show d < 2 ^ 31 by omega), p3, p4, r3, r4, nI_sub' p5, nI_sub' r5, p1, p2, r1, r2, nI_clamp (show a < 2 ^ 31 by omega), nI_clamp (show e < 2 ^ 31 by omega), nI_clamp (show a' < 2 ^ 31 by omega), nI_clamp (show e' < 2 ^ 31 by omega)]
  by_cases c1 : e - a = e' - a'
  · rw [if_pos (by rw [c1])]
    have h := r_sameL (T := T) (h0 := h0) (qs := qs) (ks := ks) (call := zF h0 qs ks T n) (τ := τ) (f := f) (l := e - a) (show c < 2010 by omega) (show d < 2010 by omega) p3 (by rw [p4]; congr 1; omega) r3 (by omega) (by omega) hw.1 T 0 (Nat.zero_le _) (by omega)
    refine h.trans ?_
    refine congrArg (fun b => some (some (Value.int (b01 b)), τ)) ?_
    exact decide_eq_decide.mpr ⟨fun z => ⟨c1, fun j hj => z j hj (Nat.zero_le _)⟩, fun z i h1 _ => z.2 i h1⟩
  · rw [if_neg (fun z => c1 (nI_inj' (by omega) (by omega) z)), decide_eq_false (fun z => c1 z.1)]
    rfl
/-- tell(w) -/
theorem r_tell {q : kSt} {w : Nat} (hw : rW τ T len cnt kk pp ee f) (h : kR τ q) (hi : w < cnt) (hL : q.2.1.length < 700) : ∃ τ', zF h0 qs ks T (n + 1) 33 [.ref h0, .int (nI w)] τ = some (some (.int (nI q.2.1.length)), τ') ∧ kR τ' (kTell w q) ∧ kFm τ τ' := by
  have hcn := hw.cn
  obtain ⟨⟨h1, h2⟩, ⟨h3, h4⟩, h5, h6⟩ := h
  rw [zE_tell]
  unfold b_tell
  simp only [zgd, zlet, h1, zin_n hL (by decide), zin_n (show w < 2010 by omega) (by decide), if_true, nI_clamp (show w < 2 ^ 31 by omega), nI_clamp (show q.2.1.length < 2 ^ 31 by omega)]
  refine ⟨zI (zA (zA τ 30 (upd (τ.2.2.1 30) q.2.1.length (nI w))) 32 (upd (τ.2.2.1 32) w (τ.1 50))) 50 (τ.1 50 + 1), ?_, ⟨⟨?_, fun i u e => ?_⟩, ⟨h3, h4⟩, ?_, h6⟩, ⟨fun k c _ _ => if_neg c, rfl, fun k c d _ => (if_neg d).trans (if_neg c), rfl⟩⟩
  · show some (some (Value.int ((τ.1 50 + 1) - 1)), zI (zA (zA τ 30 (upd (τ.2.2.1 30) q.2.1.length (nI w))) 32 (upd (τ.2.2.1 32) w (τ.1 50))) 50 (τ.1 50 + 1)) = _
    refine congrArg (fun v => some (some (Value.int v), zI (zA (zA τ 30 (upd (τ.2.2.1 30) q.2.1.length (nI w))) 32 (upd (τ.2.2.1 32) w (τ.1 50))) 50 (τ.1 50 + 1))) ?_
    rw [h1, show nI q.2.1.length + 1 = nI (q.2.1.length + 1) from nI_add _ 1 ▸ rfl, nI_s1]
  · show τ.1 50 + 1 = nI (q.2.1 ++ [w]).length
    rw [h1, List.length_append]
    exact nI_add _ 1 ▸ rfl
  · show upd (τ.2.2.1 30) q.2.1.length (nI w) i = nI u
    by_cases c : i < q.2.1.length
    · rw [upd_ne _ _ (by omega)]
      exact h2 i u (by rw [← e]; exact (List.getElem?_append_left c).symm)
    · have e' : (q.2.1 ++ [w])[i]? = some u := e
      rw [List.getElem?_append_right (by omega)] at e'
      have : i = q.2.1.length := by
        by_cases c2 : i - q.2.1.length = 0
        · omega
        · rw [List.getElem?_eq_none (by simp; omega)] at e'; cases e'
      subst this
      rw [Nat.sub_self] at e'
      injection e' with e'
      rw [upd_at, ← e']
  · show upd (τ.2.2.1 32) w (τ.1 50) = upd q.2.2.1 w (nI q.2.1.length)
    rw [h5, h1]
end KRT
