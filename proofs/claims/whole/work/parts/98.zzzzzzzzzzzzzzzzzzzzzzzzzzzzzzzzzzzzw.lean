/-! type(): how large a told NAME's type is -/
def yPv (y : tY) : Prop := yPr y ∧ yLv y ≤ 60
theorem yPv.l : ∀ {y : tY}, yPv y → yPv (yL y)
  | .leaf, h => h
  | .inner k _ _ a b, ⟨h1, h2⟩ => by
    show yPv a
    unfold yPr at h1
    unfold yLv at h2
    by_cases c : k = 0
    · rw [if_pos c] at h1 h2
      exact ⟨h1.1, by omega⟩
    · rw [if_neg c] at h1
      rw [h1.1]
      exact ⟨trivial, by show 1 ≤ 60; omega⟩
theorem yPv.r : ∀ {y : tY}, yPv y → yPv (yR y)
  | .leaf, h => h
  | .inner k _ _ a b, ⟨h1, h2⟩ => by
    show yPv b
    unfold yPr at h1
    unfold yLv at h2
    by_cases c : k = 0
    · rw [if_pos c] at h1 h2
      exact ⟨h1.2, by omega⟩
    · rw [if_neg c] at h1
      rw [h1.2]
      exact ⟨trivial, by show 1 ≤ 60; omega⟩
theorem yPv.p : ∀ (p : List Bool) {y : tY}, yPv y → yPv (pTy y p)
  | [], _, h => h
  | false :: p, y, h => yPv.p p (y := yL y) h.l
  | true :: p, y, h => yPv.p p (y := yR y) h.r
theorem tSz_lv : ∀ y : tY, yPr y → tSz y + 1 ≤ 2 * yLv y
  | .leaf, _ => by show 0 + 1 ≤ 2 * 1; omega
  | .inner k _ _ a b, h => by
    unfold yPr at h
    unfold tSz yLv
    by_cases c : k = 0
    · rw [if_pos c] at h ⊢
      have := tSz_lv a h.1
      have := tSz_lv b h.2
      omega
    · rw [if_neg c] at h ⊢
      rw [h.1, h.2]
      show 0 + 0 + 1 + 1 ≤ 2 * 1
      omega
theorem rtO_P {P : tY → Prop} (h0 : P .leaf) : ∀ (l : List gTm) (k : Nat), (∀ m, m ∈ l → P m.2.2.1) → P (rtO l k).2.2.1
  | [], _, _ => h0
  | m :: l, k, h => by
    unfold rtO
    split
    · exact h m (List.mem_cons_self ..)
    · exact rtO_P h0 l k (fun m' hm => h m' (List.mem_cons_of_mem _ hm))
theorem tLv_le : ∀ (l : List (Nat × tY × List Nat)) (x : Nat × tY × List Nat), x ∈ l → yLv x.2.1 ≤ tLv l
  | [], _, h => by cases h
  | y :: l, x, h => by
    show _ ≤ yLv y.2.1 + tLv l
    rcases List.mem_cons.mp h with r | r
    · rw [r]; omega
    · have := tLv_le l x r; omega
section TYZ
variable {T len cnt j N S P A x0 u : Nat} {kk pp ee f fc : Nat → Int32} {xs : List tQ} {is : List (Nat × Nat)} {e : tT} {α : Nat → tY} {g' : gG} {ρ' : Nat → tY} {τ : zSt} {Γ : uGm} {C Bq : Int} {Lp : Nat → Prop} {q : Nat → gTy}
/-- a told NAME's type has at most 60 levels -/
theorem ty_lv (hp : pgT T len cnt j kk pp ee f fc xs is e α) (hR : pgR T len cnt kk pp ee f xs is e α N S P A x0 g' ρ' τ) (gd : gGd Γ C Bq (pRt f pp ee is e α) (pTN f pp ee is e α) Lp q u) (yw : yW (pTN f pp ee is e α u)) (hu : u ∈ is.map Prod.fst ++ tW e) : yLv (pTN f pp ee is e α u) ≤ 60 ∧ tSz (pTN f pp ee is e α u) ≤ 119 ∧ (q u).2.length ≤ 100 := by
  have hpr := tx_pr hp hR
  have hlv := tx_lv hp
  have pr : yPr (pTN f pp ee is e α u) := by
    obtain ⟨i, hi⟩ := List.getElem?_of_mem hu
    obtain ⟨c, -, c2, c3⟩ := hR.2.2.2.2 i u hi
    obtain ⟨-, h2, h3, -⟩ := hR.2.2.1
    have := (gCo.pr h2 h3 _ c (Nat.le_refl _) c2).1
    rw [c3] at this
    exact this
  obtain ⟨gS, S0, -, wf⟩ := gd
  have lv : yLv (pTN f pp ee is e α u) ≤ 60 ∧ (q u).2.length ≤ 100 := by
    unfold wfT at wf
    cases eq : (q u).1 with
    | inl x =>
      rw [eq] at wf
      have e1 : x.1 = pTN f pp ee is e α u := by rw [← gS]; unfold gSy; rw [eq]
      have k1 := wf.1.2.1
      rw [e1] at k1
      refine ⟨?_, by rw [wf.1.1]; exact Nat.zero_le _⟩
      generalize pTN f pp ee is e α u = y at k1 yw
      match y, k1, yw with
      | .leaf, _, yw => exact yw.elim
      | .inner k _ _ a b, k1, _ =>
        have c : k ≠ 0 := fun z => k1 (by rw [z]; rfl)
        unfold yLv
        rw [if_neg c]
        decide
    | inr m =>
      rw [eq] at wf
      have e1 : m.2.2.1 = pTN f pp ee is e α u := by rw [← gS]; unfold gSy; rw [eq]
      refine ⟨?_, by have := wf.1.2.2.1; have := wf.2.1.1; omega⟩
      rw [← e1, wf.1.1, mGo_ty]
      refine (yPv.p _ (rtO_P (P := yPv) ⟨trivial, by show 1 ≤ 60; omega⟩ _ _ (fun m' hm => ?_))).2
      have mm : m3 m' ∈ tLs (pTE f pp ee is e α) (pTN f pp ee is e α) e := by
        rw [← (tLe_3 (tE := pTE f pp ee is e α) (tN := pTN f pp ee is e α) e (is.map Prod.fst)).1]
        exact List.mem_map.mpr ⟨m', hm, rfl⟩
      exact ⟨(hpr _ mm).1, Nat.le_trans (tLv_le _ _ mm) hlv⟩
  have := tSz_lv _ pr
  exact ⟨lv.1, by omega, lv.2⟩
end TYZ
