/-! text facts of a read PROGRAM -/
/-- the C's of an E have && and || of two parts or more -/
def tBn : tT → Prop
  | .leaf => True
  | .inner g _ _ a b => (if g = 4 ∨ g = 5 then cBn a else tBn a) ∧ tBn b
section TXF
variable {kk pp ee f R : Nat → Int32} {T len cnt : Nat} {V : zSt} {L : List Nat}
theorem aC_bn (k i : Nat) (t : tT) (j : Nat) (h : aEi kk T (aSi kk T k) i = .inr (t, j)) : cBn t := by
  refine (aC_ind (P := fun i t j => cBn t) (R := fun i t j => cBn t) ?_ ?_ ?_ ?_ ?_ ?_ ?_ ?_ k).2 i t j h
  · exact fun i c j _ h => ⟨fun e => absurd e (by decide), h, trivial⟩
  · exact fun i c j _ h _ => h
  · exact fun i v h => ⟨fun e => absurd e (by decide), trivial, trivial⟩
  · exact fun i S j h1 _ => ⟨fun e => absurd e (by decide), trivial, trivial⟩
  · exact fun i S l S' j hr h1 h2 => ⟨fun e => absurd e (by decide), trivial, trivial⟩
  · exact fun i => trivial
  · exact fun g i c l cs j _ _ h1 h2 => ⟨fun e => absurd e (by decide), h1, h2⟩
  · exact fun g i c l cs j hg h1 h2 => by
      cases cs with
      | leaf => exact h1
      | inner => exact ⟨fun _ z => (by cases z), h1, h2⟩
theorem aPt_k0 {g : Bool} {i j : Nat} {p : tP} (h : aPt kk g i = .inr (p, j)) : (p.1 = 0 ↔ kk i = 2) ∧ p.2.1 = g := by
  unfold aPt at h
  split at h
  · rename_i c
    obtain ⟨_, _, _, h⟩ := on_inr h
    injection h with h; injection h with h _
    rw [← h]
    refine ⟨⟨fun z => absurd z (show ¬ (2 : Nat) = 0 by decide), fun z => ?_⟩, rfl⟩
    have : kk i = nI 211 := of_decide_eq_true c
    rw [this] at z
    exact absurd z (by decide)
  · split at h
    · rename_i c
      obtain ⟨_, _, _, h⟩ := on_inr h
      injection h with h; injection h with h _
      rw [← h]
      refine ⟨⟨fun z => absurd z (show ¬ (3 : Nat) = 0 by decide), fun z => ?_⟩, rfl⟩
      have : kk i = nI 221 := of_decide_eq_true c
      rw [this] at z
      exact absurd z (by decide)
    · split at h
      · rename_i c
        injection h with h; injection h with h _
        rw [← h]
        exact ⟨⟨fun _ => of_decide_eq_true c, fun _ => rfl⟩, rfl⟩
      · rename_i c
        obtain ⟨_, _, _, h⟩ := on_inr h
        injection h with h; injection h with h _
        rw [← h]
        exact ⟨⟨fun z => absurd z (show ¬ (1 : Nat) = 0 by decide), fun z => absurd (decide_eq_true (show kk i = nI 2 from z)) c⟩, rfl⟩
theorem aSm_a2 {i j : Nat} {S : tS} (h : aSm kk T i = .inr (S, j)) : tAl kk S = 2 ↔ S.2.length = 1 ∧ (S.2.headD (0, false, 0)).1 = 0 ∧ (S.2.headD (0, false, 0)).2.1 = false := by
  unfold aSm at h
  obtain ⟨p, l, e1, h⟩ := on_inr h
  obtain ⟨ps, l2, e2, h⟩ := on_inr h
  injection h with h; injection h with e3 e4; subst e3; subst e4
  obtain ⟨a1, a2⟩ := aPt_k0 e1
  show (if aIs kk 45 i = true then (0 : Int32) else if (p :: ps).length = 1 then kk i else 0) = 2 ↔ (p :: ps).length = 1 ∧ p.1 = 0 ∧ p.2.1 = false
  cases c : aIs kk 45 i with
  | true =>
    rw [c] at a2
    rw [if_pos rfl]
    exact ⟨fun z => absurd z (by decide), fun z => absurd (a2.symm.trans z.2.2) (by decide)⟩
  | false =>
    rw [c] at a1 a2
    rw [if_neg (by decide)] at a1
    rw [if_neg (by decide)]
    by_cases cl : (p :: ps).length = 1
    · rw [if_pos cl]
      exact ⟨fun z => ⟨cl, a1.mpr z, a2⟩, fun z => a1.mp z.2.1⟩
    · rw [if_neg cl]
      exact ⟨fun z => absurd z (by decide), fun z => absurd z.1 cl⟩
/-- read trees have tBn and tRm -/
theorem aE_bn (k i : Nat) (t : tT) (j : Nat) (h : aE kk T k i = .inr (t, j)) : tBn t ∧ tRm kk t := by
  refine aE_ind (P := fun k i t j => tBn t ∧ tRm kk t) (Q := fun k q i t j => tBn t ∧ tRm kk t) ?_ ?_ ?_ ?_ ?_ ?_ ?_ ?_ ?_ ?_ ?_ ?_ ?_ ?_ ?_ ?_ ?_ ?_ ?_ ?_ k i t j h
  · intro k i a l b j _ _ Pa _ Pb
    exact ⟨⟨Pa.1, Pb.1⟩, fun e => absurd e (by decide), Pa.2, Pb.2⟩
  · intro k i q a l b j _ _ _ _ _ _ Pa _ Pb
    exact ⟨⟨Pa.1, Pb.1⟩, fun e => absurd e (by decide), Pa.2, Pb.2⟩
  · intro k i a j _ _ _ Pa
    exact ⟨⟨Pa.1, trivial⟩, fun e => absurd e (by decide), Pa.2, trivial⟩
  · intro k i c l a m b j _ h1 _ Pa _ Pb
    exact ⟨⟨aC_bn _ _ _ _ h1, Pa.1, Pb.1⟩, fun e => absurd e (by decide), trivial, fun e => absurd e (by decide), Pa.2, Pb.2⟩
  · intro k i c l a j _ h1 _ Pa
    exact ⟨⟨aC_bn _ _ _ _ h1, Pa.1⟩, fun e => absurd e (by decide), trivial, Pa.2⟩
  · intro k i S l S' m a j _ _ _ h1 _ _ h2 _ Pa
    exact ⟨⟨Pa.1, trivial⟩, fun e => absurd e (by decide), Pa.2, trivial⟩
  · intro k i S j _ h1
    exact ⟨⟨trivial, trivial⟩, fun e => absurd e (by decide), trivial, trivial⟩
  · intro k i g hg
    rcases hg with ⟨_, rfl⟩ | ⟨_, rfl⟩ | ⟨_, rfl⟩ <;> exact ⟨⟨trivial, trivial⟩, fun e => absurd e (by decide), trivial, trivial⟩
  · intro k i S j _ h1
    exact ⟨⟨trivial, trivial⟩, fun e => absurd e (by decide), trivial, trivial⟩
  · intro k i g S l S' j hg h1 h2
    rcases hg with ⟨_, rfl⟩ | ⟨_, rfl⟩ | ⟨_, rfl⟩
    · exact ⟨⟨trivial, trivial⟩, fun e => absurd e (by decide), trivial, trivial⟩
    · exact ⟨⟨trivial, trivial⟩, fun e => absurd e (by decide), trivial, trivial⟩
    · exact ⟨⟨trivial, trivial⟩, fun _ => aSm_a2 h2, trivial, trivial⟩
  · intro k i S l _ _ h1 _
    exact ⟨⟨trivial, trivial⟩, fun e => absurd e (by decide), trivial, trivial⟩
  · intro k i as j _ _ Qa
    exact ⟨⟨Qa.1, trivial⟩, fun e => absurd e (by decide), Qa.2, trivial⟩
  · intro k i a l _ Pa _
    exact ⟨⟨Pa.1, trivial⟩, fun e => absurd e (by decide), Pa.2, trivial⟩
  · intro k i S l _ h1 _
    exact ⟨⟨trivial, trivial⟩, fun e => absurd e (by decide), trivial, trivial⟩
  · intro k i a l b j _ _ Pa _ _ _ _ Pb
    exact ⟨⟨Pa.1, Pb.1⟩, fun e => absurd e (by decide), Pa.2, Pb.2⟩
  · intro k q i _
    exact ⟨trivial, trivial⟩
  · intro k q i b j _ _ _ Qb
    exact ⟨⟨trivial, Qb.1⟩, fun e => absurd e (by decide), trivial, Qb.2⟩
  · intro k q i S l b j _ _ h1 _ Qb
    exact ⟨⟨trivial, Qb.1⟩, fun e => absurd e (by decide), trivial, Qb.2⟩
  · intro k q i e l b j _ _ Pe _ Qb
    exact ⟨⟨Pe.1, Qb.1⟩, fun e => absurd e (by decide), Pe.2, Qb.2⟩
  · intro k q i v b j _ Qb
    exact ⟨⟨trivial, Qb.1⟩, fun e => absurd e (by decide), trivial, Qb.2⟩
theorem cNw_of (hT : 2010 ≤ T) (hw : rW V T len cnt kk pp ee f) : ∀ (t : tT), tGd kk cnt t → cRq kk t → cNw T f pp ee t
  | .leaf, _, _ => trivial
  | .inner g d z a b, ⟨g1, _, _, ga, gb⟩, ⟨_, h2, _, ha, hb⟩ => ⟨fun e => ⟨sNw_of hT hw _ g1.1 (h2 e).1.1, sNw_of hT hw _ g1.2 (h2 e).1.2⟩, cNw_of hT hw a ga ha, cNw_of hT hw b gb hb⟩
theorem mu_bd {a b : Int} (ha : -10010000 ≤ a ∧ a ≤ 10010000) (hb : -10010000 ≤ b ∧ b ≤ 10010000) : -1125899906842624 ≤ a * b ∧ a * b ≤ 1125899906842624 := by
  have h : (a * b).natAbs ≤ 10010000 * 10010000 := by
    rw [Int.natAbs_mul]
    exact Nat.mul_le_mul (by omega) (by omega)
  omega
theorem sFn_of {env : List Nat} {ps : List tP} (hT : 2010 ≤ T) (hw : rW V T len cnt kk pp ee f) (hg : sGd cnt ps) (hk : sKn kk ps) (ho : rWs f pp ee R L env (sEv ps)) : sFn T f pp ee env ps := by
  have := sPl_sm hT hw hg hk
  refine ⟨⟨by omega, by omega⟩, fun p hp h0 => ?_⟩
  obtain ⟨n, u, -, -, h⟩ := ho p.2.2 (by
    unfold sEv sNm
    exact List.mem_map.mpr ⟨p, List.mem_filter.mpr ⟨hp, decide_eq_true (by omega)⟩, rfl⟩)
  exact ⟨u, h⟩
theorem gTs_33 {env : List Nat} {ps : List tP} {q : Nat} (h1 : q = 1 → sTe (sL (nFind f pp ee env) ps) = true) (h2 : ¬ q = 1 → ∃ k w, k ≤ 1 ∧ ps = [(k, false, w)]) (ho : rWs f pp ee R L env (sEv ps)) : gTs f pp ee env ps = true := by
  by_cases c : q = 1
  · exact h1 c
  · obtain ⟨k, w, hk, rfl⟩ := h2 c
    unfold gTs
    have : k = 0 ∨ k = 1 := by omega
    rcases this with rfl | rfl
    · rfl
    · obtain ⟨n, u, -, -, h⟩ := ho w (List.mem_singleton.mpr rfl)
      show sTe (match nFind f pp ee env w with | some b => sAdd [] b (sg false) | none => []) = true
      rw [h]
      show sTe (sAdd [] u 1) = true
      rw [sAdd_1]
      rfl
/-- **what the walk wants of the text** -/
theorem wTx_of (hT : 2010 ≤ T) (hw : rW V T len cnt kk pp ee f) : ∀ (t : tT) (l : Nat) (env : List Nat) (cn : Int32), tWf kk cnt t l → rWo f pp ee R L t env → tGd kk cnt t → tKn kk t → tPr t → tCq kk t → fRt f pp ee t env cn → tBn t → wTx T f pp ee t env
  | .leaf, _, _, _, _, _, _, _, _, _, _, _ => trivial
  | .inner g d z a b, l, env, cn, wf, wo, gd, kn, pr, cq, fr, bn => by
    obtain ⟨w1, w2, w3, w4, w5, w6, w7, w8, w9⟩ := wf.ch
    have gg : g = 1 ∨ g = 2 ∨ g = 3 ∨ g = 4 ∨ g = 5 ∨ g = 6 ∨ g = 7 ∨ g = 8 ∨ g = 9 ∨ g = 10 ∨ g = 11 ∨ g = 12 ∨ g = 13 ∨ g = 14 ∨ g = 15 ∨ g = 16 ∨ g = 17 ∨ g = 18 ∨ g = 19 ∨ g = 31 ∨ g = 33 ∨ g = 34 ∨ g = 35 := by clear w1 w2 w3 w4 w5 w6 w7; omega
    have Ia := fun l env cn => wTx_of hT hw a l env cn
    have Ib := fun l env cn => wTx_of hT hw b l env cn
    obtain ⟨⟨d1, d2⟩, d3, d4, da, db⟩ := gd
    obtain ⟨⟨k1, k2⟩, ka, kb⟩ := kn
    have pC : g = 4 ∨ g = 5 → cWf cnt a false := by
      rcases wf with ⟨_, h, _⟩ | ⟨_, _, _, h⟩ | ⟨_, h⟩
      · subst h; exact fun e => absurd e (by decide)
      · rcases h with ⟨h, _⟩ | ⟨h, _⟩ | ⟨h, _⟩ <;> subst h <;> exact fun e => absurd e (by decide)
      · intro e
        rcases h with ⟨h, _⟩ | ⟨h, _⟩ | ⟨h, _⟩ | ⟨h, wc, _⟩ | ⟨h, wc, _⟩ | ⟨h, _, wc, _⟩ | ⟨h, wc, _⟩ | ⟨h, _⟩ | ⟨h, wc, _⟩ | ⟨h, _, wc⟩ | ⟨h, _⟩ | ⟨h, _⟩ | ⟨h, _⟩ | ⟨h, _⟩
        all_goals first | omega | exact wc
    have lf : (g = 7 ∨ g = 8 ∨ g = 9 ∨ g = 10 ∨ g = 11 ∨ g = 12 ∨ g = 13 ∨ g = 17 → a = .leaf ∧ b = .leaf) ∧ (g = 33 ∨ g = 35 → a = .leaf) ∧ (g = 16 → b = .leaf) := by
      rcases wf with ⟨_, h, _⟩ | ⟨_, _, _, h⟩ | ⟨_, h⟩
      · subst h; exact ⟨fun e => absurd e (by decide), fun e => absurd e (by decide), fun e => absurd e (by decide)⟩
      · rcases h with ⟨h, _, q⟩ | ⟨h, _⟩ | ⟨h, _, q, _⟩ <;> subst h
        · exact ⟨fun e => absurd e (by decide), fun _ => q, fun e => absurd e (by decide)⟩
        · exact ⟨fun e => absurd e (by decide), fun e => absurd e (by decide), fun e => absurd e (by decide)⟩
        · exact ⟨fun e => absurd e (by decide), fun _ => q, fun e => absurd e (by decide)⟩
      · refine ⟨fun e => ?_, fun e => ?_, fun e => ?_⟩
        all_goals rcases h with ⟨h, _⟩ | ⟨h, _⟩ | ⟨h, _⟩ | ⟨h, wc, _⟩ | ⟨h, wc, _⟩ | ⟨h, _, wc, _⟩ | ⟨h, _, _, wc⟩ | ⟨h, _, wc⟩ | ⟨h, _, wc⟩ | ⟨h, _, wc⟩ | ⟨h, _⟩ | ⟨h, _, _, wc⟩ | ⟨h, _⟩ | ⟨h, _⟩
        all_goals first | omega | exact wc
    have us : ∀ {w : Nat}, rUs f pp ee R L env w → ∃ u, nFind f pp ee env w = some u := fun ⟨_, u, _, _, h⟩ => ⟨u, h⟩
    unfold rWo at wo
    unfold tPr at pr
    unfold tCq at cq
    unfold fRt at fr
    unfold tBn at bn
    unfold wTx
    rcases gg with h | h | h | h | h | h | h | h | h | h | h | h | h | h | h | h | h | h | h | h | h | h | h <;> subst h <;> simp only [reduceIte, Nat.reduceEqDiff, or_self, or_false, false_or, or_true, true_or, ne_eq, not_true_eq_false, not_false_eq_true, false_implies, true_implies, forall_const, true_and, and_true] at wo pr cq fr bn ka da db d3 d4 w1 w2 w3 w4 w5 w6 w7 pC lf ⊢
    · exact ⟨Ia 0 env cn w1.1 wo.2.1 da ka pr.1 cq.1 fr.1 bn.1, Ib 0 _ cn w1.2 wo.2.2 db kb pr.2 cq.2 fr.2 bn.2⟩
    · exact ⟨Ia 0 _ cn w1.1 wo.2.1 da ka pr.1 cq.1 fr.1 bn.1, Ib 0 _ cn w1.2 wo.2.2 db kb pr.2 cq.2 fr.2 bn.2⟩
    · exact Ia 0 _ cn w2 wo.2 da ka pr.1 cq.1 fr bn.1
    · exact ⟨⟨bn.1, cNw_of hT hw a da cq.1.1, cnt, pC⟩, Ib 1 env _ w3 wo.2 db kb pr cq.2 fr.2 bn.2⟩
    · exact ⟨⟨bn.1, cNw_of hT hw a da cq.1.1, cnt, pC⟩, Ib 0 env _ w4 wo.2 db kb pr cq.2 fr.2 bn.2⟩
    · exact ⟨us wo.1, Ia 0 env cn w2 wo.2.2.2 da ka pr.1 cq.1 fr.1 bn.1, by rw [d4]; trivial⟩
    · exact ⟨sFn_of hT hw d1 k1 wo.1, by rw [lf.1]; trivial, by rw [lf.2]; trivial⟩
    · exact ⟨by rw [lf.1]; trivial, by rw [lf.2]; trivial⟩
    · exact ⟨by rw [lf.1]; trivial, by rw [lf.2]; trivial⟩
    · exact ⟨sFn_of hT hw d1 k1 wo.1, by rw [lf.1]; trivial, by rw [lf.2]; trivial⟩
    · exact ⟨⟨sFn_of hT hw d1 k1 wo.1, sFn_of hT hw d2 k2 wo.2.1, mu_bd (sPl_sm hT hw d1 k1) (sPl_sm hT hw d2 k2)⟩, by rw [lf.1]; trivial, by rw [lf.2]; trivial⟩
    · exact ⟨⟨sFn_of hT hw d1 k1 wo.1, sFn_of hT hw d2 k2 wo.2.1, mu_bd (sPl_sm hT hw d1 k1) (sPl_sm hT hw d2 k2)⟩, by rw [lf.1]; trivial, by rw [lf.2]; trivial⟩
    · exact ⟨⟨sFn_of hT hw d1 k1 wo.1, sFn_of hT hw d2 k2 wo.2.1, mu_bd (sPl_sm hT hw d1 k1) (sPl_sm hT hw d2 k2)⟩, by rw [lf.1]; trivial, by rw [lf.2]; trivial⟩
    · exact ⟨us wo.1, by rw [d4.1]; trivial, by rw [d4.2]; trivial⟩
    · exact ⟨us wo.1, Ia 2 env cn w5 wo.2 da ka pr.1 cq.1 fr.1 bn.1, by rw [d4]; trivial⟩
    · exact ⟨Ia 0 env cn w2 wo.2.2.1 da ka pr.1 cq.1 fr.1 bn.1, by rw [lf]; trivial⟩
    · exact ⟨by rw [lf.1]; trivial, by rw [lf.2]; trivial⟩
    · exact ⟨us wo.2, by rw [d4.1]; trivial, by rw [d4.2]; trivial⟩
    · exact ⟨us wo.1, Ia 0 env cn w1.1 wo.2.1 da ka pr.1 cq.1 fr.1 bn.1, Ib 0 _ cn w1.2 wo.2.2.2 db kb pr.2 cq.2 fr.2 bn.2⟩
    · exact ⟨Ia 0 env cn w1.1 wo.2.2.1 da ka pr.1 cq.1 fr.1 bn.1, Ib 0 env cn w1.2 wo.2.2.2 db kb pr.2 cq.2 fr.2 bn.2⟩
    · exact ⟨⟨sFn_of hT hw d1 k1 wo.1, gTs_33 fr.1 pr.1 wo.1⟩, by rw [lf]; trivial, Ib 2 env cn w6 wo.2.2.2 db kb pr.2.2 cq.2 fr.2 bn.2⟩
    · exact ⟨Ia 0 env cn w7.1 wo.2.2.1 da ka pr.1 cq.1 fr.1 bn.1, Ib 2 env cn w7.2 wo.2.2.2 db kb pr.2 cq.2 fr.2 bn.2⟩
    · exact ⟨by rw [lf]; trivial, Ib 2 env cn w6 wo.2.2.2 db kb pr.2 cq.2 fr.2 bn.2⟩
end TXF
