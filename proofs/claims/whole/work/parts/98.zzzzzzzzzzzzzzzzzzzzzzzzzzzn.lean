/-! TEMPLATES have at most 60 leaves -/
theorem yLs_v : ∀ y : tY, yLs y ≤ yLv y ∧ 1 ≤ yLv y
  | .leaf => ⟨Nat.zero_le _, Nat.le_refl _⟩
  | .inner k _ _ a b => by
    have A := yLs_v a
    have B := yLs_v b
    unfold yLs yLv
    by_cases c : k = 0
    · rw [if_pos c, if_pos c]; omega
    · rw [if_neg c, if_neg c]
      split <;> omega
theorem yDp_v : ∀ y : tY, yDp y + 1 ≤ yLv y
  | .leaf => Nat.le_refl _
  | .inner k _ _ a b => by
    have A := yDp_v a
    have B := yDp_v b
    have A' := (yLs_v a).2
    have B' := (yLs_v b).2
    unfold yDp yLv
    by_cases c : k = 0
    · rw [if_pos c, if_pos c]; omega
    · rw [if_neg c, if_neg c]; omega
theorem yFz_v : ∀ (y : tY) (q : Nat), yFz y q + 1 ≤ yLv y
  | .leaf, _ => Nat.le_refl _
  | .inner k _ _ a b, q => by
    have A := yFz_v a 0
    have B := yFz_v b (q - 1)
    unfold yFz yLv
    by_cases c : k = 0
    · rw [if_pos c, if_pos c]
      split <;> omega
    · rw [if_neg c, if_neg c]; omega
theorem ySx_v : ∀ y : tY, ySx y + 1 ≤ yLv y
  | .leaf => Nat.le_refl _
  | .inner k _ _ a b => by
    have A := ySx_v a
    have B := ySx_v b
    have A' := (yLs_v a).2
    unfold ySx yLv
    by_cases c : k = 0
    · rw [if_pos c, if_pos c]
      split <;> omega
    · rw [if_neg c, if_neg c]; omega
section TOV
variable {kk pp : Nat → Int32} {cnt : Nat} {tE tN : Nat → tY}
theorem fVo_ok {y : tY} {pl : Int32} {q : Nat × Int32} (hp : 0 ≤ pl) (hq : q.2 = -1 → q.1 ≤ 60) : ((fVo y pl q).2 = -1 → (fVo y pl q).1 ≤ 60) ∧ ((fVo y pl q).2 = -1 → q.2 = -1 ∧ (fVo y pl q).1 = q.1 + yLv y) := by
  have ne : pl ≠ -1 := fun z => by rw [z] at hp; exact absurd hp (by decide)
  unfold fVo
  by_cases c : q.1 ≤ 60
  · rw [if_pos c]
    by_cases c2 : q.1 + yLv y ≤ 60
    · rw [if_pos c2]
      exact ⟨fun _ => c2, fun z => ⟨z, rfl⟩⟩
    · rw [if_neg c2]
      exact ⟨fun z => absurd z ne, fun z => absurd z ne⟩
  · rw [if_neg c]
    exact ⟨hq, fun z => absurd (hq z) c⟩
/-- how many leaves all TEMPLATES have -/
def tLv (l : List (Nat × tY × List Nat)) : Nat := (l.map (fun x => yLv x.2.1)).sum
theorem tLv_ap (l m : List (Nat × tY × List Nat)) : tLv (l ++ m) = tLv l + tLv m := by
  unfold tLv
  rw [List.map_append, List.sum_append]
theorem tLv_co (x : Nat × tY × List Nat) (l : List (Nat × tY × List Nat)) : tLv (x :: l) = yLv x.2.1 + tLv l := by
  unfold tLv
  rw [List.map_cons, List.sum_cons]
theorem tOv_ok (hp : ∀ w, 0 ≤ pp w) : ∀ (t : tT) (l : Nat) (q : Nat × Int32), tWf kk cnt t l → tGd kk cnt t → (q.2 = -1 → q.1 ≤ 60) → ((tOv pp tE tN t q).2 = -1 → (tOv pp tE tN t q).1 ≤ 60) ∧ ((tOv pp tE tN t q).2 = -1 → q.2 = -1 ∧ (tOv pp tE tN t q).1 = q.1 + tLv (tLs tE tN t))
  | .leaf, _, q, _, _, hq => ⟨hq, fun z => ⟨z, rfl⟩⟩
  | .inner g d z a b, l, q, wf, gd, hq => by
    obtain ⟨w1, w2, w3, w4, w5, w6, w7, w8, w9⟩ := wf.ch
    have Ia := fun l q => tOv_ok hp a l q
    have Ib := fun l q => tOv_ok hp b l q
    obtain ⟨-, -, ⟨-, g14, g3⟩, ga, gb⟩ := gd
    have lf : (g = 7 ∨ g = 8 ∨ g = 9 ∨ g = 10 ∨ g = 11 ∨ g = 12 ∨ g = 13 ∨ g = 17 → a = .leaf ∧ b = .leaf) ∧ (g = 33 ∨ g = 35 → a = .leaf) ∧ (g = 16 → b = .leaf) := by
      rcases wf with ⟨_, h, _⟩ | ⟨_, _, _, h⟩ | ⟨_, h⟩
      · subst h; exact ⟨fun e => absurd e (by decide), fun e => absurd e (by decide), fun e => absurd e (by decide)⟩
      · rcases h with ⟨h, _, q⟩ | ⟨h, _⟩ | ⟨h, _, q, _⟩ <;> subst h
        · exact ⟨fun e => absurd e (by decide), fun _ => q, fun e => absurd e (by decide)⟩
        · exact ⟨fun e => absurd e (by decide), fun e => absurd e (by decide), fun e => absurd e (by decide)⟩
        · exact ⟨fun e => absurd e (by decide), fun _ => q, fun e => absurd e (by decide)⟩
      · refine ⟨fun e => ?_, fun e => ?_, fun e => ?_⟩
        all_goals rcases h with ⟨h, _⟩ | ⟨h, _⟩ | ⟨h, _⟩ | ⟨h, wc, _⟩ | ⟨h, wc, _⟩ | ⟨h, _, wc, _⟩ | ⟨h, _, _, wc⟩ | ⟨h, _, wc⟩ | ⟨h, _, wc⟩ | ⟨h, _, wc⟩ | ⟨h, _⟩ | ⟨h, _, _, wc⟩ | ⟨h, _⟩ | ⟨h, _⟩
        all_goals first | omega | exact wc
    have two : ∀ (la lb : Nat) (q : Nat × Int32), tWf kk cnt a la → tWf kk cnt b lb → (q.2 = -1 → q.1 ≤ 60) → ((tOv pp tE tN b (tOv pp tE tN a q)).2 = -1 → (tOv pp tE tN b (tOv pp tE tN a q)).1 ≤ 60) ∧ ((tOv pp tE tN b (tOv pp tE tN a q)).2 = -1 → q.2 = -1 ∧ (tOv pp tE tN b (tOv pp tE tN a q)).1 = q.1 + tLv (tLs tE tN a ++ tLs tE tN b)) := fun la lb q wa wb hq => by
      obtain ⟨a1, a2⟩ := Ia la q wa ga hq
      obtain ⟨b1, b2⟩ := Ib lb _ wb gb a1
      refine ⟨b1, fun z => ?_⟩
      obtain ⟨e1, e2⟩ := b2 z
      obtain ⟨e3, e4⟩ := a2 e1
      exact ⟨e3, by rw [e2, e4, tLv_ap]; omega⟩
    have pre : ∀ (y : tY) (X : Nat × Int32 → Nat × Int32) (m : Nat) (q : Nat × Int32), (q.2 = -1 → q.1 ≤ 60) → (∀ q : Nat × Int32, (q.2 = -1 → q.1 ≤ 60) → ((X q).2 = -1 → (X q).1 ≤ 60) ∧ ((X q).2 = -1 → q.2 = -1 ∧ (X q).1 = q.1 + m)) → ((X (fVo y (pp d.1) q)).2 = -1 → (X (fVo y (pp d.1) q)).1 ≤ 60) ∧ ((X (fVo y (pp d.1) q)).2 = -1 → q.2 = -1 ∧ (X (fVo y (pp d.1) q)).1 = q.1 + (yLv y + m)) := fun y X m q hq hX => by
      obtain ⟨f1, f2⟩ := fVo_ok (y := y) (hp d.1) hq
      obtain ⟨x1, x2⟩ := hX _ f1
      refine ⟨x1, fun z => ?_⟩
      obtain ⟨e1, e2⟩ := x2 z
      obtain ⟨e3, e4⟩ := f2 e1
      exact ⟨e3, by rw [e2, e4]; omega⟩
    unfold tOv tLs
    by_cases c1 : g = 1 ∨ g = 19
    · rw [if_pos c1, if_pos c1, tLv_co]
      obtain ⟨wa, wb⟩ := w1 (by omega)
      exact pre _ (fun q => tOv pp tE tN b (tOv pp tE tN a q)) _ q hq (fun q hq => two 0 0 q wa wb hq)
    rw [if_neg c1, if_neg c1]
    by_cases c2 : g = 2
    · rw [if_pos c2, if_pos c2, tLv_co, tLv_co]
      obtain ⟨wa, wb⟩ := w1 (by omega)
      exact pre _ (fun q => tOv pp tE tN b (tOv pp tE tN a (fVo (tN (d.1 + 2)) (pp d.1) q))) _ q hq (fun q hq => pre _ (fun q => tOv pp tE tN b (tOv pp tE tN a q)) _ q hq (fun q hq => two 0 0 q wa wb hq))
    rw [if_neg c2, if_neg c2]
    by_cases c3 : g = 3
    · rw [if_pos c3, if_pos c3, tLv_co]
      exact pre _ (fun q => tOv pp tE tN a q) _ q hq (fun q hq => Ia 0 q (w2 (by omega)) ga hq)
    rw [if_neg c3, if_neg c3]
    by_cases c4 : g = 4
    · rw [if_pos c4, if_pos c4, tLv_co]
      exact pre _ (fun q => tOv pp tE tN b q) _ q hq (fun q hq => Ib 1 q (w3 c4) gb hq)
    rw [if_neg c4, if_neg c4]
    by_cases c5 : g = 5
    · rw [if_pos c5, if_pos (Or.inl c5)]
      exact Ib 0 q (w4 c5) gb hq
    rw [if_neg c5]
    by_cases c33 : g = 33
    · rw [if_pos c33, if_pos (by omega)]
      exact Ib 2 q (w6 (by omega)) gb hq
    rw [if_neg c33]
    by_cases c35 : g = 35
    · rw [if_pos (by omega), lf.2.1 (by omega)]
      exact Ib 2 q (w6 (by omega)) gb hq
    rw [if_neg (by omega)]
    by_cases c6 : g = 6 ∨ g = 15 ∨ g = 16
    · rw [if_pos c6]
      have eb : b = .leaf := by
        rcases c6 with h | h | h
        · exact g3 (by omega)
        · exact g3 (by omega)
        · exact lf.2.2 h
      rw [eb]
      have wa : ∃ l, tWf kk cnt a l := by
        rcases c6 with h | h | h
        · exact ⟨0, w2 (by omega)⟩
        · exact ⟨2, w5 h⟩
        · exact ⟨0, w2 (by omega)⟩
      obtain ⟨la, wa⟩ := wa
      exact Ia la q wa ga hq
    rw [if_neg c6]
    by_cases c7 : g = 31 ∨ g = 34
    · rw [if_pos c7]
      rcases c7 with h | h
      · obtain ⟨wa, wb⟩ := w1 (by omega)
        exact two 0 0 q wa wb hq
      · obtain ⟨wa, wb⟩ := w7 h
        exact two 0 2 q wa wb hq
    rw [if_neg c7]
    have eab : a = .leaf ∧ b = .leaf := by
      by_cases c8 : g = 14 ∨ g = 18
      · exact g14 c8
      · exact lf.1 (by clear w1 w2 w3 w4 w5 w6 w7; omega)
    rw [eab.1, eab.2]
    exact ⟨hq, fun z => ⟨z, rfl⟩⟩
theorem tLv_me {x : Nat × tY × List Nat} : ∀ {l : List (Nat × tY × List Nat)}, x ∈ l → yLv x.2.1 ≤ tLv l
  | [], h => by cases h
  | y :: l, h => by
    rw [tLv_co]
    rcases List.mem_cons.mp h with z | z
    · rw [z]; omega
    · have := tLv_me z
      omega
theorem lsF_le : ∀ l : List (Nat × tY × List Nat), lsF l ≤ tLv l
  | [] => Nat.le_refl _
  | x :: l => by
    have := lsF_le l
    have := yFz_v x.2.1 x.2.2.length
    rw [tLv_co]
    unfold lsF
    rw [List.map_cons, List.sum_cons]
    show _ + lsF l ≤ _
    omega
end TOV
