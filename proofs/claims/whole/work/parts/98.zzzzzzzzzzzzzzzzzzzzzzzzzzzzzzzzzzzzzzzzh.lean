/-! CAPACITIES: rows that grow by FITS and puts -/
/-- what q ARGS take -/
def aC (k : Nat) : Nat → tY → Nat
  | 0, _ => 0
  | q + 1, y => cE1 k + fitC (yL y) k + ptC (yR y) k + aC k q (yR y)
/-- TEMPLATES, each W and P -/
def tSm (W : tY → Nat) (P : Nat) (l : List (Nat × tY × List Nat)) : Nat := (l.map (fun x => W x.2.1 + P)).sum
section GTC
variable {f pp ee : Nat → Int32} {tE tN : Nat → tY} {xs : List tQ} {kk : Nat → Int32} {cnt k P : Nat} {W : tY → Nat}
theorem tSm_c (x : Nat × tY × List Nat) (l : List (Nat × tY × List Nat)) : tSm W P (x :: l) = W x.2.1 + P + tSm W P l := by
  unfold tSm
  rw [List.map_cons, List.sum_cons]
theorem tSm_a (l l' : List (Nat × tY × List Nat)) : tSm W P (l ++ l') = tSm W P l + tSm W P l' := by
  unfold tSm
  rw [List.map_append, List.sum_append]
theorem cAt_ne {c n k : Nat} (h : k ≠ c) : cAt c n k = 0 := if_neg h
theorem cAt_le (c n k : Nat) : cAt c n k ≤ n := by
  unfold cAt
  split <;> omega
theorem cE1_le (k : Nat) : cE1 k ≤ 1 := by
  unfold cE1
  split <;> omega
theorem fitC_rs (hR : ∀ y, yIs y → fitC (yR y) k ≤ fitC y k) : ∀ (q : Nat) (y : tY), (∀ i, i < q → yIs (yRs i y)) → fitC (yRs q y) k ≤ fitC y k
  | 0, _, _ => Nat.le_refl _
  | q + 1, y, h => Nat.le_trans (fitC_rs hR q (yR y) (fun i hi => h (i + 1) (by omega))) (hR y (h 0 (by omega)))
/-- ARGS want arrows -/
theorem gOk_ar : ∀ (t : tT), tWf kk cnt t 2 → ∀ env y, gOk f pp ee tE tN t env y → ∀ i, i < tQn t → yIs (yRs i y)
  | .leaf, _, _, _, _, i, hi => absurd hi (Nat.not_lt_zero _)
  | .inner g d z a b, wf, env, y, h, i, hi => by
    rcases wf with ⟨h2, _⟩ | ⟨_, _, wb, w⟩ | ⟨h2, _⟩
    · cases h2
    · have q : yIs y ∧ gOk f pp ee tE tN b env (yR y) := by
        rcases w with ⟨rfl, _⟩ | ⟨rfl, _⟩ | ⟨rfl, _⟩
        · exact ⟨h.1, h.2.2⟩
        · exact ⟨h.1, h.2.2⟩
        · exact ⟨h.1, h.2.2⟩
      cases i with
      | zero => exact q.1
      | succ i => exact gOk_ar b wb env (yR y) q.2 i (by have hi : i + 1 < tQn b + 1 := hi; omega)
    · cases h2
set_option maxHeartbeats 2000000 in
theorem gTc_le (h110 : k ≠ 110) (h123 : k ≠ 123) (hW : ∀ y c q, tpC xs y c q k + 2 * fitC y k + 8 ≤ W y) (hR : ∀ y, yIs y → fitC (yR y) k ≤ fitC y k) (hP : 2 ≤ P) (hA : ∀ u q, q ≤ 4 → (∀ i, i < q → yIs (yRs i (tN u))) → aC k q (tN u) ≤ P) : ∀ (t : tT), (∀ l, l ≠ 2 → tWf kk cnt t l → tA3 pp t → tF3 t → ∀ env ty y c, gOk f pp ee tE tN t env ty → (l = 0 → gTc f pp ee tE tN xs t env y c k ≤ tSm W P (tLs tE tN t) + P) ∧ (l = 0 → (∃ d z a b, t = .inner 3 d z a b) → gTc f pp ee tE tN xs t env y c k ≤ tSm W P (tLs tE tN t)) ∧ (l = 1 → gTc f pp ee tE tN xs t env y c k ≤ tSm W P (tLs tE tN t) + 2 * P + 2 * fitC y k)) ∧ (tWf kk cnt t 2 → tA3 pp t → tF3 t → ∀ env y c, gOk f pp ee tE tN t env y → gTc f pp ee tE tN xs t env y c k ≤ tSm W P (tLs tE tN t) + aC k (tQn t) y)
  | .leaf => ⟨fun l hl wf => absurd wf hl, fun _ _ _ _ _ _ _ => Nat.zero_le _⟩
  | .inner g d z a b => by
    have Ia := gTc_le h110 h123 hW hR hP hA a
    have Ib := gTc_le h110 h123 hW hR hP hA b
    have no3 : g ≠ 3 → ¬ ∃ d' z' a' b', (Std.DTreeMap.Internal.Impl.inner g d z a b : tT) = .inner 3 d' z' a' b' := fun h ⟨d', z', a', b', e⟩ => by
      injection e with e
      exact h e
    have c110 := fun n => cAt_ne (n := n) h110
    have c123 := fun n => cAt_ne (n := n) h123
    have ce := cE1_le k
    refine ⟨fun l hl wf h3 hF env ty y c hg => ?_, fun wf h3 hF env y c hg => ?_⟩
    · rcases wf with ⟨rfl, rfl, _, wa, wb⟩ | ⟨h2, _⟩ | ⟨_, w⟩
      · refine ⟨fun e => (by cases e), fun e => (by cases e), fun _ => ?_⟩
        have i1 := (Ia.1 0 (by decide) wa h3.2.2.1 hF.2.1 env ty y c hg.1).1 rfl
        have i2 := (Ib.1 0 (by decide) wb h3.2.2.2 hF.2.2 env ty y c hg.2).1 rfl
        show gTc f pp ee tE tN xs a env y c k + fitC y k + gTc f pp ee tE tN xs b env y c k + fitC y k ≤ tSm W P (tLs tE tN a ++ tLs tE tN b) + 2 * P + 2 * fitC y k
        rw [tSm_a]
        omega
      · exact absurd h2 hl
      · rcases w with ⟨rfl, _, wa, wb⟩ | ⟨rfl, ⟨w1, w2, _⟩, wa, wb⟩ | ⟨rfl, _, wa⟩ | ⟨rfl, wc, wb⟩ | ⟨rfl, wc, wb⟩ | ⟨rfl, _, _, wa⟩ | ⟨h7, _, _, hab⟩ | ⟨h7, _, hab⟩ | ⟨h7, _, hab⟩ | ⟨rfl, _⟩ | ⟨rfl, _, wa⟩ | ⟨rfl, _, wa, hb⟩ | ⟨rfl, _⟩ | ⟨rfl, _, wa, wb⟩
        · refine ⟨fun _ => ?_, fun _ h => absurd h (no3 (by decide)), fun e => absurd e ?_⟩
          · have hg : tE d.1 = ty ∧ gOk f pp ee tE tN a env (tN (d.1 + 1)) ∧ gOk f pp ee tE tN b (env ++ [d.1 + 1]) ty := hg
            have i1 := (Ia.1 0 (by decide) wa h3.2.2.1 hF.2.1 env _ y c hg.2.1).1 rfl
            have i2 := (Ib.1 0 (by decide) wb h3.2.2.2 hF.2.2 (env ++ [d.1 + 1]) _ y (c + yM1 (tN (d.1 + 1))) hg.2.2).1 rfl
            have i3 := hW (tE d.1) c 0
            have i4 := cAt_le 109 1 k
            show tpC xs (tE d.1) c 0 k + gTc f pp ee tE tN xs a env y c k + cAt 109 1 k + gTc f pp ee tE tN xs b (env ++ [d.1 + 1]) y (c + yM1 (tN (d.1 + 1))) k + fitC (tE d.1) k ≤ tSm W P ((2 * d.1, tE d.1, []) :: (tLs tE tN a ++ tLs tE tN b)) + P
            rw [tSm_c, tSm_a]
            show _ ≤ W (tE d.1) + P + _ + P
            omega
          · omega
        · refine ⟨fun _ => ?_, fun _ h => absurd h (no3 (by decide)), fun e => absurd e ?_⟩
          · have hg : tE d.1 = ty ∧ (∃ r, tN (d.1 + 2) = gFn tN d.2.1 (d.1 + 3) r ∧ gOk f pp ee tE tN a (env ++ ([d.1 + 2] ++ List.range' (d.1 + 3) d.2.1)) r) ∧ gOk f pp ee tE tN b (env ++ [d.1 + 2]) ty := hg
            obtain ⟨-, ⟨rr, hf, ga⟩, gb⟩ := hg
            have i1 := (Ia.1 0 (by decide) wa h3.2.2.1 hF.2.1 (env ++ ([d.1 + 2] ++ List.range' (d.1 + 3) d.2.1)) _ y (c + yPm tN d.2.1 (d.1 + 3)) ga).1 rfl
            have i2 := (Ib.1 0 (by decide) wb h3.2.2.2 hF.2.2 (env ++ [d.1 + 2]) _ y c gb).1 rfl
            have i3 := hW (tE d.1) c 0
            have i5 := hW (tN (d.1 + 2)) c d.2.1
            have i4 := cAt_le 109 (1 + d.2.1) k
            have i6 := fitC_rs hR d.2.1 (tN (d.1 + 2)) (fun i hi => by
              rw [hf, gFn_rs tN rr i d.2.1 (d.1 + 3) (by omega)]
              exact yK_is (gFn_k tN rr (by omega)).1)
            show tpC xs (tE d.1) c 0 k + tpC xs (tN (d.1 + 2)) c d.2.1 k + cAt 109 (1 + d.2.1) k + gTc f pp ee tE tN xs a (env ++ ([d.1 + 2] ++ List.range' (d.1 + 3) d.2.1)) y (c + yPm tN d.2.1 (d.1 + 3)) k + fitC (yRs d.2.1 (tN (d.1 + 2))) k + gTc f pp ee tE tN xs b (env ++ [d.1 + 2]) y c k + fitC (tE d.1) k ≤ tSm W P ((2 * d.1, tE d.1, []) :: (2 * d.1 + 1, tN (d.1 + 2), List.range' (d.1 + 3) d.2.1) :: (tLs tE tN a ++ tLs tE tN b)) + P
            rw [tSm_c, tSm_c, tSm_a]
            show _ ≤ W (tE d.1) + P + (W (tN (d.1 + 2)) + P + _) + P
            omega
          · omega
        · have main : gTc f pp ee tE tN xs (.inner 3 d z a b) env y c k ≤ tSm W P (tLs tE tN (.inner 3 d z a b)) := by
            have hg : tE d.1 = ty ∧ ∃ r, ty = yA (tN (d.1 + 1)) r ∧ gOk f pp ee tE tN a (env ++ [d.1 + 1]) r := hg
            obtain ⟨hy, rr, hyr, ga⟩ := hg
            have i1 := (Ia.1 0 (by decide) wa h3.2.2.1 hF.2.1 (env ++ [d.1 + 1]) _ y (c + yM1 (tN (d.1 + 1))) ga).1 rfl
            have i3 := hW (tE d.1) c 1
            have i4 := cAt_le 109 1 k
            have i6 := hR (tE d.1) (by rw [hy, hyr]; rfl)
            show tpC xs (tE d.1) c 1 k + cAt 109 1 k + gTc f pp ee tE tN xs a (env ++ [d.1 + 1]) y (c + yM1 (tN (d.1 + 1))) k + fitC (yR (tE d.1)) k ≤ tSm W P ((2 * d.1, tE d.1, [d.1 + 1]) :: tLs tE tN a)
            rw [tSm_c]
            show _ ≤ W (tE d.1) + P + _
            omega
          exact ⟨fun _ => Nat.le_trans main (Nat.le_add_right _ _), fun _ _ => main, fun e => absurd e (by omega)⟩
        · refine ⟨fun _ => ?_, fun _ h => absurd h (no3 (by decide)), fun e => absurd e ?_⟩
          · have hg : tE d.1 = ty ∧ gCk f pp ee tN env a ∧ gOk f pp ee tE tN b env ty := hg
            have i2 := (Ib.1 1 (by decide) wb h3.2.2.2 hF.2.2 env _ (tE d.1) c hg.2.2).2.2 rfl
            have i3 := hW (tE d.1) c 0
            show tpC xs (tE d.1) c 0 k + cAt 110 2 k + gTc f pp ee tE tN xs b env (tE d.1) c k ≤ tSm W P ((2 * d.1, tE d.1, []) :: tLs tE tN b) + P
            rw [tSm_c, c110]
            show _ ≤ W (tE d.1) + P + _ + P
            omega
          · omega
        · refine ⟨fun _ => ?_, fun _ h => absurd h (no3 (by decide)), fun e => absurd e ?_⟩
          · have hg : gCk f pp ee tN env a ∧ gOk f pp ee tE tN b env ty := hg
            have i2 := (Ib.1 0 (by decide) wb h3.2.2.2 hF.2.2 env _ y c hg.2).1 rfl
            show cAt 123 1 k + cAt 110 1 k + gTc f pp ee tE tN xs b env y c k ≤ tSm W P (tLs tE tN b) + P
            rw [c110, c123]
            omega
          · omega
        · refine ⟨fun _ => ?_, fun _ h => absurd h (no3 (by decide)), fun e => absurd e ?_⟩
          · have i2 := (Ia.1 0 (by decide) wa h3.2.2.1 hF.2.1 env _ y c hg.2.2).1 rfl
            show cAt 123 2 k + gTc f pp ee tE tN xs a env y c k ≤ tSm W P (tLs tE tN a) + P
            rw [c123]
            omega
          · omega
        · rcases h7 with rfl | rfl
          · refine ⟨fun _ => ?_, fun _ h => absurd h (no3 (by decide)), fun e => absurd e ?_⟩
            · show cAt 123 1 k + cE1 k ≤ _ + P
              rw [c123]
              omega
            · omega
          · refine ⟨fun _ => ?_, fun _ h => absurd h (no3 (by decide)), fun e => absurd e ?_⟩
            · show cE1 k ≤ _ + P
              omega
            · omega
        · rcases h7 with rfl | rfl | rfl
          all_goals
            refine ⟨fun _ => ?_, fun _ h => absurd h (no3 (by decide)), fun e => absurd e ?_⟩
            · show cE1 k ≤ _ + P
              omega
            · omega
        · rcases h7 with rfl | rfl | rfl
          all_goals
            refine ⟨fun _ => ?_, fun _ h => absurd h (no3 (by decide)), fun e => absurd e ?_⟩
            · show cAt 123 1 k + cE1 k + cAt 85 1 k ≤ _ + P
              have := cAt_le 85 1 k
              rw [c123]
              omega
            · omega
        · refine ⟨fun _ => ?_, fun _ h => absurd h (no3 (by decide)), fun e => absurd e ?_⟩
          · show cAt 123 2 k + cE1 k ≤ _ + P
            rw [c123]
            omega
          · omega
        · refine ⟨fun _ => ?_, fun _ h => absurd h (no3 (by decide)), fun e => absurd e ?_⟩
          · have hg : ty = yRs (tQn a) (tN (gNu f pp ee env d.1)) ∧ gOk f pp ee tE tN a env (tN (gNu f pp ee env d.1)) := hg
            have i2 := Ia.2 wa h3.2.2.1 hF.2.1 env (tN (gNu f pp ee env d.1)) c hg.2
            have i3 := hA (gNu f pp ee env d.1) (tQn a) (h3.2.1 rfl) (gOk_ar a wa env _ hg.2)
            show gTc f pp ee tE tN xs a env (tN (gNu f pp ee env d.1)) c k ≤ tSm W P (tLs tE tN a) + P
            omega
          · omega
        · refine ⟨fun _ => ?_, fun _ h => absurd h (no3 (by decide)), fun e => absurd e ?_⟩
          · have hg : gOk f pp ee tE tN a env ty := hg
            exact (Ia.1 0 (by decide) wa h3.2.2.1 hF.2.1 env _ y c hg).1 rfl
          · omega
        · refine ⟨fun _ => ?_, fun _ h => absurd h (no3 (by decide)), fun e => absurd e ?_⟩
          · show cE1 k ≤ _ + P
            omega
          · omega
        · refine ⟨fun _ => ?_, fun _ h => absurd h (no3 (by decide)), fun e => absurd e ?_⟩
          · have hg : tE d.1 = ty ∧ tN (gNu f pp ee env (d.1 + 1)) = yB 3 ∧ (tN d.2.1 = yB 0 ∧ tN (d.2.1 + 1) = yB 3) ∧ gOk f pp ee tE tN a env ty ∧ gOk f pp ee tE tN b (env ++ [d.2.1, d.2.1 + 1]) ty := hg
            obtain ⟨-, -, -, ga, gb⟩ := hg
            have i1 := (Ia.1 0 (by decide) wa h3.2.2.1 hF.2.1 env _ y c ga).1 rfl
            have i2 := (Ib.1 0 (by decide) wb h3.2.2.2 hF.2.2 (env ++ [d.2.1, d.2.1 + 1]) _ y (c + 2) gb).1 rfl
            have i3 := hW (tE d.1) c 0
            have i4 := cAt_le 109 2 k
            show tpC xs (tE d.1) c 0 k + cAt 110 2 k + gTc f pp ee tE tN xs a env y c k + fitC (tE d.1) k + cAt 109 2 k + 2 * cE1 k + gTc f pp ee tE tN xs b (env ++ [d.2.1, d.2.1 + 1]) y (c + 2) k + fitC (tE d.1) k ≤ tSm W P ((2 * d.1, tE d.1, []) :: (tLs tE tN a ++ tLs tE tN b)) + P
            rw [tSm_c, tSm_a, c110]
            show _ ≤ W (tE d.1) + P + _ + P
            omega
          · omega
    · rcases wf with ⟨h2, _⟩ | ⟨_, _, wb, w⟩ | ⟨h2, _⟩
      · cases h2
      · rcases w with ⟨rfl, hp, ha⟩ | ⟨rfl, _, wa⟩ | ⟨rfl, _, ha, hd⟩
        · have i2 := Ib.2 wb h3.2.2.2 hF.2.2 env (yR y) c hg.2.2
          show cE1 k + fitC (yL y) k + ptC (yR y) k + gTc f pp ee tE tN xs b env (yR y) c k ≤ tSm W P (tLs tE tN b) + (cE1 k + fitC (yL y) k + ptC (yR y) k + aC k (tQn b) (yR y))
          omega
        · have i1 := (Ia.1 0 (by decide) wa h3.2.2.1 hF.2.1 env _ y c hg.2.1).2.1 rfl (hF.1 rfl)
          have i2 := Ib.2 wb h3.2.2.2 hF.2.2 env (yR y) c hg.2.2
          show gTc f pp ee tE tN xs a env y c k + fitC (yL y) k + gTc f pp ee tE tN xs b env (yR y) c k ≤ tSm W P (tLs tE tN a ++ tLs tE tN b) + (cE1 k + fitC (yL y) k + ptC (yR y) k + aC k (tQn b) (yR y))
          rw [tSm_a]
          omega
        · have i2 := Ib.2 wb h3.2.2.2 hF.2.2 env (yR y) c hg.2.2
          show cE1 k + gTc f pp ee tE tN xs b env (yR y) c k ≤ tSm W P (tLs tE tN b) + (cE1 k + fitC (yL y) k + ptC (yR y) k + aC k (tQn b) (yR y))
          omega
      · cases h2
end GTC
