/-! the class's parser: a QUAL -/
/-- a REL without # -/
def aRe (kk : Nat → Int32) (i : Nat) : aR Nat := if aRl kk i < 5 then .inr (aRl kk i, i + 1) else .inl i
def bCd (g : Nat) : Int32 := if g = 0 then 210 else if g = 1 then 200 else 213
def rCd (r : Nat) : Int32 := if r = 0 then 61 else if r = 1 then 60 else if r = 2 then 300 else if r = 3 then 62 else 301
theorem aRl_5 {kk : Nat → Int32} {i : Nat} : (aRl kk i < 5 ↔ cRl (kk i) = true) ∧ (aRl kk i < 5 → kk i = rCd (aRl kk i)) := by
  have E : ∀ k : Nat, aIs kk k i = true ↔ kk i = nI k := fun k => ⟨fun z => of_decide_eq_true z, fun z => decide_eq_true z⟩
  unfold aRl cRl
  by_cases c0 : aIs kk 61 i = true
  · rw [if_pos c0]; have z := (E 61).mp c0; exact ⟨⟨fun _ => by rw [z]; decide, fun _ => by decide⟩, fun _ => z⟩
  rw [if_neg c0]
  by_cases c1 : aIs kk 60 i = true
  · rw [if_pos c1]; have z := (E 60).mp c1; exact ⟨⟨fun _ => by rw [z]; decide, fun _ => by decide⟩, fun _ => z⟩
  rw [if_neg c1]
  by_cases c2 : aIs kk 300 i = true
  · rw [if_pos c2]; have z := (E 300).mp c2; exact ⟨⟨fun _ => by rw [z]; decide, fun _ => by decide⟩, fun _ => z⟩
  rw [if_neg c2]
  by_cases c3 : aIs kk 62 i = true
  · rw [if_pos c3]; have z := (E 62).mp c3; exact ⟨⟨fun _ => by rw [z]; decide, fun _ => by decide⟩, fun _ => z⟩
  rw [if_neg c3]
  by_cases c4 : aIs kk 301 i = true
  · rw [if_pos c4]; have z := (E 301).mp c4; exact ⟨⟨fun _ => by rw [z]; decide, fun _ => by decide⟩, fun _ => z⟩
  rw [if_neg c4]
  have no : ¬ (decide (kk i = 61) || (decide (kk i = 60) || (decide (kk i = 300) || (decide (kk i = 62) || decide (kk i = 301))))) = true := fun z => by
    simp only [Bool.or_eq_true, decide_eq_true_eq] at z
    rcases z with y | y | y | y | y
    · exact c0 ((E 61).mpr y)
    · exact c1 ((E 60).mpr y)
    · exact c2 ((E 300).mpr y)
    · exact c3 ((E 62).mpr y)
    · exact c4 ((E 301).mpr y)
  split
  · exact ⟨⟨fun z => absurd z (by decide), fun z => absurd z no⟩, fun z => absurd z (by decide)⟩
  · exact ⟨⟨fun z => absurd z (by decide), fun z => absurd z no⟩, fun z => absurd z (by decide)⟩
theorem aBs_c {kk : Nat → Int32} {a b c i g j : Nat} (h : aBs kk a b c i = .inr (g, j)) : j = i + 1 ∧ ((g = 0 ∧ kk i = nI a) ∨ (g = 1 ∧ kk i = nI b) ∨ (g = 2 ∧ kk i = nI c)) := by
  unfold aBs at h
  split at h
  · injection h with h; injection h with h1 h2; exact ⟨h2.symm, Or.inl ⟨h1.symm, of_decide_eq_true (by assumption)⟩⟩
  · split at h
    · injection h with h; injection h with h1 h2; exact ⟨h2.symm, Or.inr (Or.inl ⟨h1.symm, of_decide_eq_true (by assumption)⟩)⟩
    · split at h
      · injection h with h; injection h with h1 h2; exact ⟨h2.symm, Or.inr (Or.inr ⟨h1.symm, of_decide_eq_true (by assumption)⟩)⟩
      · cases h
theorem aQl_st (kk : Nat → Int32) (i : Nat) : (aQl kk i).st = aTo (aTo (aTo (aTo (aTo (aTo (.inr (i + 1)) (aBs kk 210 200 213)) (aMs kk 58)) (aMs kk 224)) (aRe kk)) (aQu kk)) (aMs kk 59) := by
  unfold aQl
  simp only [aTo]
  cases aBs kk 210 200 213 (i + 1) with
  | inl k => rfl
  | inr p =>
  obtain ⟨g, i1⟩ := p
  simp only [aR.on, aR.st]
  cases aMs kk 58 i1 with
  | inl k => rfl
  | inr p =>
  obtain ⟨t, i2⟩ := p
  simp only
  cases aMs kk 224 i2 with
  | inl k => rfl
  | inr p =>
  obtain ⟨t, i3⟩ := p
  simp only
  unfold aRe
  by_cases c : aRl kk i3 < 5
  · rw [if_pos c, if_pos c, aQt_u]
    simp only
    cases aQu kk (i3 + 1) with
    | inl k => rfl
    | inr p =>
      obtain ⟨x, i4⟩ := p
      simp only [aR.on]
      cases aMs kk 59 i4 with
      | inl k => rfl
      | inr p => rfl
  · rw [if_neg c, if_neg c]
theorem aQl_eq {kk : Nat → Int32} {i j : Nat} {x : tQ} (h : aQl kk i = .inr (x, j)) : ∃ i1 i2 i3 i4, aBs kk 210 200 213 (i + 1) = .inr (x.1, i1) ∧ aMs kk 58 i1 = .inr ((), i2) ∧ aMs kk 224 i2 = .inr ((), i3) ∧ aRe kk i3 = .inr (x.2.1, i3 + 1) ∧ aQu kk (i3 + 1) = .inr (x.2.2, i4) ∧ aMs kk 59 i4 = .inr ((), j) := by
  unfold aQl at h
  obtain ⟨g, i1, h1, h⟩ := on_inr h
  obtain ⟨_, i2, h2, h⟩ := on_inr h
  obtain ⟨_, i3, h3, h⟩ := on_inr h
  split at h
  · rename_i c
    rw [aQt_u] at h
    obtain ⟨y, i4, h4, h⟩ := on_inr h
    obtain ⟨_, i5, h5, h⟩ := on_inr h
    injection h with h
    injection h with hh1 hh2
    subst hh1
    subst hh2
    exact ⟨i1, i2, i3, i4, h1, h2, h3, by unfold aRe; rw [if_pos c], h4, h5⟩
  · cases h
section CRN
variable {κ : oKv} {sz T n m len cnt : Nat} {kk pp ee f : Nat → Int32} {A : Nat → Nat} {nq ni : Int32} {rt : Value} {σ σ' : oSt} {D D' : cDt} {at' cd q : Nat} {cn am bd nf ff : Int32} {s : Sum Nat Nat} {nm nm' : Nat → Option Nat} {ν : nSt} {lo e i : Nat} {fb fr fz fn g : Nat → Int32}
set_option maxHeartbeats 1000000 in
/-- readQual -/
theorem c_qual (h : cV κ sz len cnt kk pp ee f A nq ni rt σ D at' cd cn am bd nf ff) (ho : cO pp cnt at' bd (.inr at')) (hi : at' < cnt) (hR : cRw A σ fb fr fz fn) (hz : fz q = 0 ∧ fn q = 0) (hnq : nq = nI q) (hq : q < 6) (hm : 8 ≤ m) (hT : 2010 ≤ T) : ∃ σ' at2 bd2 fb' fr' fz' fn', oF κ T (m + 1) 112 [va_rf (some (A 0))] σ = some (none, σ') ∧ cV κ sz len cnt kk pp ee f A nq ni rt σ' D at2 cd cn am bd2 nf ff ∧ cO pp cnt at2 bd2 (aQl kk at').st ∧ (∀ a, a ≠ A 0 → a ≠ A 10 → a ≠ A 11 → a ≠ A 12 → a ≠ A 13 → σ'.1 a = σ.1 a) ∧ σ'.2 = σ.2 ∧ at' < at2 ∧ cRw A σ' fb' fr' fz' fn' ∧ (∀ j, j ≠ q → fb' j = fb j ∧ fr' j = fr j ∧ fz' j = fz j ∧ fn' j = fn j) ∧ (∀ x j, aQl kk at' = .inr (x, j) → fb' q = bCd x.1 ∧ fr' q = rCd x.2.1 ∧ fz' q = zSr x.2.2 ∧ fn' q = zNu T f pp ee x.2.2.2.2) := by
  rw [oE_X7_readQual]
  unfold ob_X7_readQual
  obtain ⟨σ1, a1, v1, o1, q1, z1, k1⟩ := w_next (κ := κ) (T := T) (n := m) h ho hi (by omega)
  have R1 := hR.k0 h.2.1 k1
  have ck : cK kk (.inr (at' + 1)) = kk (at' + 1) := rfl
  rw [oob_at h.2.1, obn_at, a1, ocv_at, oob_at v1.2.1, obn_at, c_kind (n := m) v1 o1 (by omega), oin_at, ck]
  -- from the base on
  have BAS : ∀ (σ2 : oSt) (at2 : Nat) (bd2 : Int32) (fb2 : Nat → Int32), cV κ sz len cnt kk pp ee f A nq ni rt σ2 D at2 cd cn am bd2 nf ff → cO pp cnt at2 bd2 (aTo (.inr (at' + 1)) (aBs kk 210 200 213)) → (∀ a, a ≠ A 0 → a ≠ A 10 → σ2.1 a = σ1.1 a) → σ2.2 = σ1.2 → at' < at2 → cRw A σ2 fb2 fr fz fn → (∀ j, j ≠ q → fb2 j = fb j) → (∀ g j, aBs kk 210 200 213 (at' + 1) = .inr (g, j) → fb2 q = bCd g) → ∃ σ' at2 bd2 fb' fr' fz' fn', oj_X7_readQual_51 T (oF κ T m) κ (some (A 0)) σ2 = some (none, σ') ∧ cV κ sz len cnt kk pp ee f A nq ni rt σ' D at2 cd cn am bd2 nf ff ∧ cO pp cnt at2 bd2 (aQl kk at').st ∧ (∀ a, a ≠ A 0 → a ≠ A 10 → a ≠ A 11 → a ≠ A 12 → a ≠ A 13 → σ'.1 a = σ.1 a) ∧ σ'.2 = σ.2 ∧ at' < at2 ∧ cRw A σ' fb' fr' fz' fn' ∧ (∀ j, j ≠ q → fb' j = fb j ∧ fr' j = fr j ∧ fz' j = fz j ∧ fn' j = fn j) ∧ (∀ x j, aQl kk at' = .inr (x, j) → fb' q = bCd x.1 ∧ fr' q = rCd x.2.1 ∧ fz' q = zSr x.2.2 ∧ fn' q = zNu T f pp ee x.2.2.2.2) := fun σ2 at2 bd2 fb2 v2 o2 k2 z2 hlt R2 hfb hfb2 => by
    unfold oj_X7_readQual_51
    obtain ⟨σ3, at3, bd3, x1, v3, o3, r3, z3, k3, x5⟩ := c_expect (κ := κ) (T := T) (k := 58) (n := m) v2 o2 (by decide) (by omega)
    have x1' : oF κ T m 108 [va_rf (some (A 0)), .int 58] σ2 = some (none, σ3) := x1
    obtain ⟨σ4, at4, bd4, y1, v4, o4, r4, z4, k4, y5⟩ := c_expect (κ := κ) (T := T) (k := 224) (n := m) v3 o3 (by decide) (by omega)
    have y1' : oF κ T m 108 [va_rf (some (A 0)), .int 224] σ3 = some (none, σ4) := y1
    have R4 := (R2.k0 v2.2.1 k3).k0 v3.2.1 k4
    have f5 : ofd σ4 (some (A 0)) 9 5 = some (.ref (A 11)) := by rw [ofd_at v4.2.1]; rfl
    have f8 : ofd σ4 (some (A 0)) 9 8 = some (.int (nI q)) := by rw [ofd_at v4.2.1, hnq]; rfl
    obtain ⟨⟨s1, s2, s3, s4⟩, s5⟩ := R4
    obtain ⟨σ5, w1, v5, e5, k5, z5⟩ := w_row (k := 11) (v := cK kk (aTo (aTo (aTo (.inr (at' + 1)) (aBs kk 210 200 213)) (aMs kk 58)) (aMs kk 224))) v4 s2 ⟨by omega, by omega, by omega⟩ hq
    have R5 : cRw A σ5 fb2 (upd fr q (cK kk (aTo (aTo (aTo (.inr (at' + 1)) (aBs kk 210 200 213)) (aMs kk 58)) (aMs kk 224)))) fz fn := ⟨⟨(k5 _ (by omega)).trans s1, e5, (k5 _ (by omega)).trans s3, (k5 _ (by omega)).trans s4⟩, s5⟩
    obtain ⟨m1, hm1⟩ : ∃ m1, m = m1 + 1 := ⟨m - 1, by omega⟩
    have CR := c_rel (κ := κ) (T := T) (n := m1) (v := cK kk (aTo (aTo (aTo (.inr (at' + 1)) (aBs kk 210 200 213)) (aMs kk 58)) (aMs kk 224))) (σ := σ5)
    rw [← hm1] at CR
    rw [oob_at v2.2.1, obn_at, x1', ocv_at, oob_at v3.2.1, obn_at, y1', ocv_at, f5, ovr_rf, obn_at, f8, ovi_i, obn_at, oob_at v4.2.1, obn_at, c_kind (n := m) v4 o4 (by omega), oin_at, w1, obn_at, oob_at v5.2.1, obn_at, c_kind (n := m) v5 o4 (by omega), oin_at, CR, oin_at]
    -- from the term on
    have TRM : ∀ (σ6 : oSt) (at6 : Nat) (bd6 : Int32), cV κ sz len cnt kk pp ee f A nq ni rt σ6 D at6 cd cn am bd6 nf ff → cO pp cnt at6 bd6 (aTo (aTo (aTo (aTo (.inr (at' + 1)) (aBs kk 210 200 213)) (aMs kk 58)) (aMs kk 224)) (aRe kk)) → (∀ a, a ≠ A 0 → σ6.1 a = σ5.1 a) → σ6.2 = σ5.2 → at4 ≤ at6 → ∃ σ' at2 bd2 fb' fr' fz' fn', oj_X7_readQual_98 T (oF κ T m) κ (some (A 0)) σ6 = some (none, σ') ∧ cV κ sz len cnt kk pp ee f A nq ni rt σ' D at2 cd cn am bd2 nf ff ∧ cO pp cnt at2 bd2 (aQl kk at').st ∧ (∀ a, a ≠ A 0 → a ≠ A 10 → a ≠ A 11 → a ≠ A 12 → a ≠ A 13 → σ'.1 a = σ.1 a) ∧ σ'.2 = σ.2 ∧ at' < at2 ∧ cRw A σ' fb' fr' fz' fn' ∧ (∀ j, j ≠ q → fb' j = fb j ∧ fr' j = fr j ∧ fz' j = fz j ∧ fn' j = fn j) ∧ (∀ x j, aQl kk at' = .inr (x, j) → fb' q = bCd x.1 ∧ fr' q = rCd x.2.1 ∧ fz' q = zSr x.2.2 ∧ fn' q = zNu T f pp ee x.2.2.2.2) := fun σ6 at6 bd6 v6 o6 k6 z6 h46 => by
      unfold oj_X7_readQual_98
      have R6 := R5.k0 v5.2.1 k6
      obtain ⟨σ7, at7, bd7, fz7, fn7, b1, v7, o7, k7, z7, b5, R7, b6, b7⟩ := c_qterm (κ := κ) (T := T) (m := m1) v6 o6 R6 hz hnq hq (by omega) hT
      rw [← hm1] at b1
      obtain ⟨σ8, at8, bd8, u1, v8, o8, r8, z8, k8, u5⟩ := c_expect (κ := κ) (T := T) (k := 59) (n := m) v7 o7 (by decide) (by omega)
      have u1' : oF κ T m 108 [va_rf (some (A 0)), .int 59] σ7 = some (none, σ8) := u1
      rw [oob_at v6.2.1, obn_at, b1, ocv_at, oob_at v7.2.1, obn_at, u1', ocv_at]
      refine ⟨σ8, at8, bd8, fb2, _, fz7, fn7, rfl, v8, by rw [aQl_st]; exact o8, fun a h0 h10 h11 h12 h13 => ?_, ?_, by omega, R7.k0 v7.2.1 k8, fun j hj => ⟨hfb j hj, upd_ne _ _ hj, (b6 j hj).1, (b6 j hj).2⟩, fun x j hx => ?_⟩
      · rw [k8 a h0, k7 a h0 h12 h13, k6 a h0, k5 a h11, k4 a h0, k3 a h0, k2 a h0 h10, k1 a h0]
      · rw [z8, z7, z6, z5, z4, z3, z2, z1]
      · obtain ⟨i1, i2, i3, i4, t1, t2, t3, t4, t5, t6⟩ := aQl_eq hx
        have S0 := aTo_eq (s := .inr (at' + 1)) rfl t1
        have Sa := aTo_eq S0 t2
        have Sb := aTo_eq Sa t3
        have Sc := aTo_eq Sb t4
        obtain ⟨w1, w2⟩ := b7 (i3 + 1) x.2.2 i4 Sc t5
        refine ⟨hfb2 _ _ t1, ?_, w1, w2⟩
        rw [upd_at, Sb]
        show kk i3 = _
        unfold aRe at t4
        split at t4
        · rename_i c5
          injection t4 with t4
          injection t4 with t7 t8
          rw [← t7]
          exact aRl_5.2 c5
        · cases t4
    by_cases c : cRl (cK kk (aTo (aTo (aTo (.inr (at' + 1)) (aBs kk 210 200 213)) (aMs kk 58)) (aMs kk 224))) = true
    · obtain ⟨i3, hs3⟩ : ∃ i3, aTo (aTo (aTo (.inr (at' + 1)) (aBs kk 210 200 213)) (aMs kk 58)) (aMs kk 224) = .inr i3 := by
        cases e : aTo (aTo (aTo (.inr (at' + 1)) (aBs kk 210 200 213)) (aMs kk 58)) (aMs kk 224) with
        | inl j => rw [e] at c; exact absurd (show cRl 0 = true from c) (by decide)
        | inr i3 => exact ⟨i3, rfl⟩
      rw [hs3] at c o4
      have c5 : aRl kk i3 < 5 := aRl_5.1.mpr c
      have hat := o4.2.1
      subst hat
      have hlt4 : at4 < cnt := by
        by_cases q : at4 < cnt
        · exact q
        · have : at4 = cnt := by have := o4.2.2; omega
          rw [show cK kk (.inr at4) = kk at4 from rfl, this, v4.1.2.2.2.2.2.1] at c
          exact absurd c (by decide)
      rw [hs3, if_pos c, if_neg (by decide)]
      obtain ⟨σ6, a6, v6, o6, q6, z6, k6⟩ := w_next (κ := κ) (T := T) (n := m) v5 o4 hlt4 (by omega)
      rw [oob_at v5.2.1, obn_at, a6, ocv_at]
      refine TRM σ6 (at4 + 1) bd4 v6 ?_ k6 z6 (Nat.le_succ _)
      rw [hs3, aTo_ok]
      unfold aRe
      rw [if_pos c5]
      exact o6
    · rw [if_neg c, if_pos rfl]
      obtain ⟨σ6, bd6, f1, v6, o6, r6, z6, k6⟩ := c_fail (κ := κ) (T := T) (n := m) v5 o4 (by omega)
      rw [oob_at v5.2.1, obn_at, f1, ocv_at]
      refine TRM σ6 at4 bd6 v6 ?_ k6 z6 (Nat.le_refl _)
      have es : aTo (aTo (aTo (aTo (.inr (at' + 1)) (aBs kk 210 200 213)) (aMs kk 58)) (aMs kk 224)) (aRe kk) = .inl (aWr (aTo (aTo (aTo (.inr (at' + 1)) (aBs kk 210 200 213)) (aMs kk 58)) (aMs kk 224))) := by
        cases e : aTo (aTo (aTo (.inr (at' + 1)) (aBs kk 210 200 213)) (aMs kk 58)) (aMs kk 224) with
        | inl j => rfl
        | inr i3 =>
          rw [e] at c
          rw [aTo_ok]
          unfold aRe
          rw [if_neg (fun z => c (aRl_5.1.mp z))]
          rfl
      rw [es]
      exact o6
  -- the base
  have OK : ∀ (k g : Nat), kk (at' + 1) = nI k → bCd g = nI k → 0 < k → k < 2 ^ 31 → aBs kk 210 200 213 (at' + 1) = .inr (g, at' + 2) → ∃ σ' at2 bd2 fb' fr' fz' fn', oj_X7_readQual_30 T (oF κ T m) κ (some (A 0)) (kk (at' + 1)) σ1 = some (none, σ') ∧ cV κ sz len cnt kk pp ee f A nq ni rt σ' D at2 cd cn am bd2 nf ff ∧ cO pp cnt at2 bd2 (aQl kk at').st ∧ (∀ a, a ≠ A 0 → a ≠ A 10 → a ≠ A 11 → a ≠ A 12 → a ≠ A 13 → σ'.1 a = σ.1 a) ∧ σ'.2 = σ.2 ∧ at' < at2 ∧ cRw A σ' fb' fr' fz' fn' ∧ (∀ j, j ≠ q → fb' j = fb j ∧ fr' j = fr j ∧ fz' j = fz j ∧ fn' j = fn j) ∧ (∀ x j, aQl kk at' = .inr (x, j) → fb' q = bCd x.1 ∧ fr' q = rCd x.2.1 ∧ fz' q = zSr x.2.2 ∧ fn' q = zNu T f pp ee x.2.2.2.2) := fun k g hk hb h0 hk2 hB => by
    unfold oj_X7_readQual_30
    have hlt := kk_lt v1 o1.2.2 hk h0 hk2
    have f4 : ofd σ1 (some (A 0)) 9 4 = some (.ref (A 10)) := by rw [ofd_at v1.2.1]; rfl
    have f8 : ofd σ1 (some (A 0)) 9 8 = some (.int (nI q)) := by rw [ofd_at v1.2.1, hnq]; rfl
    obtain ⟨⟨s1, s2, s3, s4⟩, s5⟩ := R1
    obtain ⟨σ2, w1, v2, e2, k2, z2⟩ := w_row (k := 10) (v := kk (at' + 1)) v1 s1 ⟨by omega, by omega, by omega⟩ hq
    have R2 : cRw A σ2 (upd fb q (kk (at' + 1))) fr fz fn := ⟨⟨e2, (k2 _ (by omega)).trans s2, (k2 _ (by omega)).trans s3, (k2 _ (by omega)).trans s4⟩, s5⟩
    obtain ⟨σ3, a3, v3, o3, q3, z3, k3⟩ := w_next (κ := κ) (T := T) (n := m) v2 o1 hlt (by omega)
    rw [f4, ovr_rf, obn_at, f8, ovi_i, obn_at, w1, obn_at, oob_at v2.2.1, obn_at, a3, ocv_at]
    refine BAS σ3 (at' + 1 + 1) bd _ v3 (by rw [aTo_ok, hB]; exact o3) (fun a h0 h10 => by rw [k3 a h0, k2 a h10]) (z3.trans z2) (by omega) (R2.k0 v2.2.1 k3) (fun j hj => upd_ne _ _ hj) (fun g' j' hg' => ?_)
    rw [hB] at hg'
    injection hg' with hg'
    injection hg' with hg1 hg2
    rw [upd_at, hk, ← hg1, hb]
  by_cases c1 : kk (at' + 1) = 210
  · rw [if_pos c1]
    exact OK 210 0 c1 rfl (by decide) (by decide) (by unfold aBs; rw [if_pos (show aIs kk 210 (at' + 1) = true from decide_eq_true c1)])
  rw [if_neg c1]
  have n1 : ¬ aIs kk 210 (at' + 1) = true := fun z => c1 (of_decide_eq_true z)
  by_cases c2 : kk (at' + 1) = 200
  · rw [if_pos c2]
    exact OK 200 1 c2 rfl (by decide) (by decide) (by unfold aBs; rw [if_neg n1, if_pos (show aIs kk 200 (at' + 1) = true from decide_eq_true c2)])
  rw [if_neg c2]
  have n2 : ¬ aIs kk 200 (at' + 1) = true := fun z => c2 (of_decide_eq_true z)
  by_cases c3 : kk (at' + 1) = 213
  · rw [if_pos c3]
    exact OK 213 2 c3 rfl (by decide) (by decide) (by unfold aBs; rw [if_neg n1, if_neg n2, if_pos (show aIs kk 213 (at' + 1) = true from decide_eq_true c3)])
  rw [if_neg c3]
  have n3 : ¬ aIs kk 213 (at' + 1) = true := fun z => c3 (of_decide_eq_true z)
  have hB : aBs kk 210 200 213 (at' + 1) = .inl (at' + 1) := by unfold aBs; rw [if_neg n1, if_neg n2, if_neg n3]
  obtain ⟨σ2, bd2, f1, v2, o2, r2, z2, k2⟩ := c_fail (κ := κ) (T := T) (n := m) v1 o1 (by omega)
  rw [oob_at v1.2.1, obn_at, f1, ocv_at]
  exact BAS σ2 (at' + 1) bd2 fb v2 (by rw [aTo_ok, hB]; exact o2) (fun a h0 _ => k2 a h0) z2 (by omega) (R1.k0 v1.2.1 k2) (fun _ _ => rfl) (fun g' j' hg' => by rw [hB] at hg'; cases hg')
end CRN
