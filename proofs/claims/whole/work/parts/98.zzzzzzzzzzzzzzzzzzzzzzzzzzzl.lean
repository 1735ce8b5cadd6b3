/-! a read PROGRAM: what its text gives -/
section TXB
variable {kk pp ee f fc R : Nat → Int32} {T len cnt j N S P A x0 : Nat} {xs : List tQ} {is : List (Nat × Nat)} {e : tT} {α : Nat → tY} {τ : zSt}
theorem aE_w0 (k i : Nat) (t : tT) (j : Nat) (h : aE kk T k i = .inr (t, j)) : 0 ∉ tW t := by
  have ap : ∀ {a b : List Nat}, 0 ∉ a → 0 ∉ b → 0 ∉ a ++ b := fun h1 h2 z => (List.mem_append.mp z).elim h1 h2
  have co : ∀ {x : Nat} {b : List Nat}, x ≠ 0 → 0 ∉ b → 0 ∉ x :: b := fun h1 h2 z => (List.mem_cons.mp z).elim (fun e => h1 e.symm) h2
  refine aE_ind (P := fun k i t j => 0 ∉ tW t) (Q := fun k q i t j => 0 ∉ tW t) ?_ ?_ ?_ ?_ ?_ ?_ ?_ ?_ ?_ ?_ ?_ ?_ ?_ ?_ ?_ ?_ ?_ ?_ ?_ ?_ k i t j h
  · intro k i a l b j _ _ Pa _ Pb
    exact co (Nat.succ_ne_zero _) (ap Pa Pb)
  · intro k i q a l b j _ _ _ _ _ _ Pa _ Pb
    refine co (Nat.succ_ne_zero _) (ap (fun z => ?_) (ap Pa Pb))
    have := (List.mem_range'_1.mp z).1
    exact absurd this (by show ¬ i + 3 ≤ 0; omega)
  · intro k i a j _ _ _ Pa
    exact co (Nat.succ_ne_zero _) Pa
  · intro k i c l a m b j _ h1 _ Pa _ Pb
    exact ap Pa Pb
  · intro k i c l a j _ h1 _ Pa
    exact Pa
  · intro k i S l S' m a j _ _ _ h1 _ _ h2 _ Pa
    exact Pa
  · intro k i S j _ h1
    exact fun z => by cases z
  · intro k i g hg
    rcases hg with ⟨_, rfl⟩ | ⟨_, rfl⟩ | ⟨_, rfl⟩ <;> exact fun z => by cases z
  · intro k i S j _ h1
    exact fun z => by cases z
  · intro k i g S l S' j hg h1 h2
    rcases hg with ⟨_, rfl⟩ | ⟨_, rfl⟩ | ⟨_, rfl⟩ <;> exact fun z => by cases z
  · intro k i S l _ _ h1 _
    exact fun z => by cases z
  · intro k i as j _ _ Qa
    exact Qa
  · intro k i a l _ Pa _
    exact ap Pa (fun z => by cases z)
  · intro k i S l _ h1 _
    exact fun z => by cases z
  · intro k i a l b j _ _ Pa _ _ _ _ Pb
    exact ap Pa (ap (co (Nat.succ_ne_zero _) (co (Nat.succ_ne_zero _) (fun z => by cases z))) Pb)
  · intro k q i _
    exact fun z => by cases z
  · intro k q i b j _ _ _ Qb
    exact ap (fun z => by cases z) Qb
  · intro k q i S l b j _ _ h1 _ Qb
    exact ap (fun z => by cases z) Qb
  · intro k q i e l b j _ _ Pe _ Qb
    exact ap Pe Qb
  · intro k q i v b j _ Qb
    exact ap (fun z => by cases z) Qb
theorem aNs_w0 : ∀ (q i : Nat) {is : List (Nat × Nat)} {j : Nat}, aNs kk q i = .inr (is, j) → 0 ∉ is.map Prod.fst
  | 0, i, is, j, h => by
    unfold aNs at h
    split at h
    · cases h
    · injection h with h; injection h with h _
      rw [← h]
      exact fun z => by cases z
  | q + 1, i, is, j, h => by
    unfold aNs at h
    split at h
    · obtain ⟨x, l, e1, h⟩ := on_inr h
      obtain ⟨ys, l2, e2, h⟩ := on_inr h
      injection h with h; injection h with h _
      have a := aNs_w0 q l e2
      rw [← h]
      intro z
      rw [List.map_cons] at z
      rcases List.mem_cons.mp z with z | z
      · unfold aNp at e1
        obtain ⟨_, _, _, e1⟩ := on_inr e1
        obtain ⟨_, _, _, e1⟩ := on_inr e1
        obtain ⟨_, _, _, e1⟩ := on_inr e1
        obtain ⟨_, _, _, e1⟩ := on_inr e1
        injection e1 with e1; injection e1 with e1 _
        rw [← e1] at z
        exact absurd z (Nat.succ_ne_zero _).symm
      · exact a z
    · injection h with h; injection h with h _
      rw [← h]
      exact fun z => by cases z
theorem aPr_0 (h : aPr kk T cnt = .inr ((xs, is, e), j)) : 0 ∉ is.map Prod.fst ++ tW e := by
  unfold aPr at h
  obtain ⟨ys, l, e1, h⟩ := on_inr h
  obtain ⟨is', l2, e2, h⟩ := on_inr h
  obtain ⟨t, l3, e3, h⟩ := on_inr h
  split at h
  · injection h with h; injection h with h _; injection h with h1 h2; injection h2 with h2 h3
    rw [← h2, ← h3]
    exact fun z => (List.mem_append.mp z).elim (aNs_w0 6 l e2) (aE_w0 31 l2 t l3 e3)
  · cases h
theorem rTo.me {L : List Nat} {w : Nat} (h : rTo R L w) : w ∈ L := by
  obtain ⟨n, -, h⟩ := h
  exact List.mem_of_getElem? h
/-- **what the text of a PROGRAM gives** -/
theorem tx_1 (hT : 2010 ≤ T) (hp : pgT T len cnt j kk pp ee f fc xs is e α) (hr : rPo T len cnt kk pp ee f xs is e N S P A x0 τ) : (tKn kk e ∧ tPr e ∧ tCq kk e ∧ tBn e ∧ tRm kk e ∧ tF3 e ∧ tR1 e) ∧ fRt f pp ee e (is.map Prod.fst) 0 ∧ wTx T f pp ee e (is.map Prod.fst) ∧ 0 ∉ is.map Prod.fst ++ tW e ∧ (is.map Prod.fst ++ tW e).Nodup ∧ gOk f pp ee (fun u => (mEnd f pp ee is e).2.2.2.1 u α) (fun u => (mEnd f pp ee is e).2.2.1 u α) e (is.map Prod.fst) ((mE f pp ee e (is.map Prod.fst) (mIn is mI0)).2 α) := by
  obtain ⟨⟨p1, p1', p1''⟩, p2, p3, p4, ⟨p5, p5'⟩, ⟨⟨g1, g2, ⟨i0, g3⟩, ⟨g4, g4', g4''⟩, g5, g6, g7⟩, p6', p6'', p6'''⟩, p7, p8, p9, p10, p11, p12⟩ := hp
  obtain ⟨r1, -, -, -, -, -, ⟨r2, r3, r4⟩⟩ := hr
  obtain ⟨⟨q1, q2⟩, j', q3⟩ := aPr_d p2
  have pp0 : ∀ w, 0 ≤ pp w := p7.2
  have kn := aE_kn _ _ _ _ q3
  have pr := aE_pr _ _ _ _ q3
  have cq := aE_cq p8 (by omega) _ _ _ _ q3 (Nat.le_refl _)
  have bn := aE_bn _ _ _ _ q3
  have fn := (aE_fn3 _ _ _ _ q3).1
  have fr := (fE_ok pp0 e (is.map Prod.fst) 0 (-1) (by rw [p5]; decide)).2
  have w0 := aPr_0 p2
  have nd : (is.map Prod.fst ++ tW e).Nodup := List.Nodup.sublist ((List.Sublist.refl _).append (tW_sub e)) g6
  refine ⟨⟨kn, pr, cq, bn.1, bn.2, fn.1, fn.2⟩, fr, wTx_of hT r1 e 0 _ 0 g2 r2 p6' kn pr cq fr bn.1, w0, nd, ?_⟩
  obtain ⟨n1, n2, n3⟩ := List.nodup_append.mp nd
  refine (mE_ok (kk := kk) (cnt := cnt) e).1 0 (by decide) g2 (is.map Prod.fst) (mIn is mI0) i0 cnt ⟨g3, p4, fun u hu => ?_, fun u _ => rfl, fun u _ _ => rfl, fun u hu z => ?_, n2⟩
  · show (mE f pp ee e (is.map Prod.fst) (mIn is mI0)).1.2.2.1 u α = _
    rw [(mLe.e e _ _).2.2 u (fun z => ?_)]
    rcases hu with hu | hu
    · rw [hu] at z
      exact w0 (List.mem_append_right _ z)
    · exact n3 u hu u z rfl
  · rcases hu with hu | hu
    · rw [hu] at z
      exact w0 (List.mem_append_right _ z)
    · exact n3 u hu u z rfl
end TXB
