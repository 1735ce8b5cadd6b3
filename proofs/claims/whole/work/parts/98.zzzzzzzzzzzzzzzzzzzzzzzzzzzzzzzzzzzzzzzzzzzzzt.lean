/-! ROOM: what the letters of a text leave, by its calls -/
section GNM
variable {kk f pp ee : Nat → Int32} {cnt : Nat} {tE tN : Nat → tY}
theorem lcI_call {d u} {a b : tT} {env : List Nat} (hl : tQn a = 0 → a = .leaf) (ha : lcG f pp ee tN a env (tN (gNu f pp ee env d.1))) : lcI f pp ee tN (.inner 15 d u a b) env ≤ gnL (.inner 15 d u a b) + 1167 * gfN (.inner 15 d u a b) := by
  obtain ⟨a1, a2, a3, a4⟩ := ha
  have ei : lcI f pp ee tN (.inner 15 d u a b) env = 89 * pnL a + lSm ((tN (gNu f pp ee env d.1), tQn a) :: cvC f pp ee tN a env) + 2190 * lfN a + 1341 * rcN a + 311 * rqN a := rfl
  have eI : lcI f pp ee tN a env = 89 * pnL a + lSm (cvC f pp ee tN a env) + 2190 * lfN a + 1341 * rcN a + 311 * rqN a := rfl
  have eg : gnL (.inner 15 d u a b) = 507 + (if aBg a = true then 309 else 0) + (gnL a + gnL b) := rfl
  have ef : gfN (.inner 15 d u a b) = gfN a := rfl
  rw [ei, eg, ef, lSm_cn]
  have L : lc (tN (gNu f pp ee env d.1)) (tQn a) + lcI f pp ee tN a env ≤ 507 + (if aBg a = true then 309 else 0) + gnL a + 1167 * gfN a := by
    unfold lc
    by_cases q0 : tQn a = 0
    · rw [if_pos q0]
      have e := hl q0
      subst e
      show 507 + (89 * 0 + 0 + 2190 * 0 + 1341 * 0 + 311 * 0) ≤ 507 + _ + 0 + 1167 * 0
      omega
    · rw [if_neg q0]
      have z : aBz a = false := by
        cases a with
        | leaf => exact absurd rfl q0
        | inner g d z a b => rfl
      rw [z, if_neg (by decide)] at a1
      have M : max (309 + lcA (tQn a) (tN (gNu f pp ee env d.1))) (274 * tQn a + 155) + lcI f pp ee tN a env ≤ (if aBg a = true then 309 else 0) + gnL a + 1167 * gfN a := by
        have m2 : 274 * tQn a + 155 + lcI f pp ee tN a env ≤ (if aBg a = true then 309 else 0) + gnL a + 1167 * gfN a := by
          cases hn : aBn a with
          | true =>
            have := a2 hn
            rw [if_pos (aBn_g hn)]
            omega
          | false =>
            have := a3 hn z
            cases hg : aBg a with
            | true =>
              rw [if_pos rfl]
              omega
            | false =>
              have := a4 hg z
              omega
        have m1 : 309 + lcA (tQn a) (tN (gNu f pp ee env d.1)) + lcI f pp ee tN a env ≤ (if aBg a = true then 309 else 0) + gnL a + 1167 * gfN a := by omega
        rcases Nat.le_total (309 + lcA (tQn a) (tN (gNu f pp ee env d.1))) (274 * tQn a + 155) with h | h
        · rw [Nat.max_eq_right h]
          exact m2
        · rw [Nat.max_eq_left h]
          exact m1
      omega
  show _ + _ ≤ _
  rw [eI] at L
  show 89 * pnL a + (lc (tN (gNu f pp ee env d.1)) (tQn a) + lSm (cvC f pp ee tN a env)) + 2190 * lfN a + 1341 * rcN a + 311 * rqN a ≤ _
  omega
/-- what is passed and is a function is a NAME -/
theorem gOk_33 {d u} {a b : tT} {env : List Nat} {y : tY} (t : tT) (_ : t = .inner 33 d u a b) (hg : yL y = gSk f pp ee tN env d.2.2.2.1.2 ∧ (d.2.1 = 1 ∨ isN d.2.2.2.1.2 = false → gSo f pp ee tN env d.2.2.2.1.2)) (hk : yK (yL y) = 1) : d.2.1 ≠ 1 ∧ (d.2.2.2.1.2.all (fun p => p.1 == 0)) = false := by
  obtain ⟨h1, h2⟩ := hg
  have hN : isN d.2.2.2.1.2 = true := by
    cases e : isN d.2.2.2.1.2 with
    | true => rfl
    | false =>
      rw [h1] at hk
      unfold gSk at hk
      rw [e] at hk
      cases hk
  obtain ⟨v, hv⟩ := isN_1 hN
  refine ⟨fun z => ?_, by rw [hv]; rfl⟩
  have := h2 (Or.inl z) (1, false, v) (by rw [hv]; exact List.mem_singleton_self _) (by show (1 : Nat) ≠ 0; omega)
  rw [h1] at hk
  unfold gSk at hk
  rw [if_pos hN, hv] at hk
  rw [show (([(1, false, v)] : List tP).headD (0, false, 0)).2.2 = v from rfl, show gNu f pp ee env v = gNu f pp ee env ((1, false, v) : tP).2.2 from rfl, this] at hk
  revert hk
  show ¬ yK (yB (mPk 1)) = 1
  decide
theorem tQn_0 : ∀ {t : tT}, tQn t = 0 → t = .leaf
  | .leaf, _ => rfl
  | .inner g d u a b, h => by
    have : tQn (.inner g d u a b) = tQn b + 1 := rfl
    omega
set_option maxHeartbeats 2000000 in
/-- **calls, lets, let rec's and what their letters leave** -/
theorem gn_l : ∀ (t : tT), tF3 t → tGd kk cnt t → ∀ l, tWf kk cnt t l → ∀ env y, gOk f pp ee tE tN t env y → (l = 0 → lcI f pp ee tN t env ≤ gnL t + 1167 * gfN t + 89 * q16 t) ∧ (l = 0 → (∃ d z a b, t = .inner 3 d z a b) → 1904 + lcI f pp ee tN t env ≤ gnL t + 1167 * gfN t) ∧ (l = 1 → lcI f pp ee tN t env ≤ gnL t + 1167 * gfN t + 178) ∧ (l = 2 → lcG f pp ee tN t env y)
  | .leaf, _, _, l, h, env, y, _ => by
    have h : l = 2 := h
    subst h
    refine ⟨fun z => (by cases z), fun z => (by cases z), fun z => (by cases z), fun _ => ⟨show (0 : Nat) ≤ _ from Nat.zero_le _, fun z => (by cases z), fun _ z => (by cases z), fun _ z => (by cases z)⟩⟩
  | .inner g d u a b, h3, gd, l, h, env, y, hg => by
    obtain ⟨f1, f2, f3⟩ := h3
    obtain ⟨-, g33, ⟨-, -, g6⟩, gda, gdb⟩ := gd
    rcases h with ⟨rfl, rfl, -, ha, hb⟩ | ⟨rfl, -, hb, h⟩ | ⟨rfl, h⟩
    · have fa : tF3 a := by rw [if_neg (by decide)] at f2; exact f2
      have hg : gOk f pp ee tE tN a env y ∧ gOk f pp ee tE tN b env y := hg
      have ia := (gn_l a fa gda 0 ha env y hg.1).1 rfl
      have ib := (gn_l b f3 gdb 0 hb env y hg.2).1 rfl
      have qa := q16_1 a
      have qb := q16_1 b
      refine ⟨fun z => (by cases z), fun z => (by cases z), fun _ => ?_, fun z => (by cases z)⟩
      have ei : lcI f pp ee tN (.inner 31 d u a b) env = 89 * (pnL a + pnL b) + lSm (cvC f pp ee tN a env ++ cvC f pp ee tN b env) + 2190 * (lfN a + lfN b) + 1341 * (rcN a + rcN b) + 311 * (rqN a + rqN b) := rfl
      have eg : gnL (.inner 31 d u a b) = 0 + (gnL a + gnL b) := rfl
      have ef : gfN (.inner 31 d u a b) = gfN a + gfN b := rfl
      rw [ei, eg, ef, lSm_ap]
      unfold lcI at ia ib
      omega
    · rcases h with ⟨rfl, -, ea⟩ | ⟨rfl, -, ha⟩ | ⟨rfl, -, ea, -⟩
      · have hg : yIs y ∧ (yL y = gSk f pp ee tN env d.2.2.2.1.2 ∧ (d.2.1 = 1 ∨ isN d.2.2.2.1.2 = false → gSo f pp ee tN env d.2.2.2.1.2)) ∧ gOk f pp ee tE tN b env (yR y) := hg
        have ib := (gn_l b f3 gdb 2 hb env _ hg.2.2).2.2.2 rfl
        have G := gOk_33 (.inner 33 d u a b) rfl hg.2.1
        refine ⟨fun z => (by cases z), fun z => (by cases z), fun z => (by cases z), fun _ => ?_⟩
        subst ea
        rcases (g33 rfl).2 with ⟨z, -⟩ | ⟨z, -⟩
        · exact lcG_1 z (fun k => (G k).1 z) ib
        · exact lcG_0 z (fun k => (G k).2) ib
      · have fa : tF3 a := by rw [if_neg (by decide)] at f2; exact f2
        have hg : yIs y ∧ gOk f pp ee tE tN a env (yL y) ∧ gOk f pp ee tE tN b env (yR y) := hg
        have ia := (gn_l a fa gda 0 ha env _ hg.2.1).2.1 rfl (f1 rfl)
        have ib := (gn_l b f3 gdb 2 hb env _ hg.2.2).2.2.2 rfl
        refine ⟨fun z => (by cases z), fun z => (by cases z), fun z => (by cases z), fun _ => ?_⟩
        have ei : lcI f pp ee tN (.inner 34 d u a b) env = 89 * (pnL a + pnL b) + lSm (cvC f pp ee tN a env ++ cvC f pp ee tN b env) + 2190 * (1 + (lfN a + lfN b)) + 1341 * (rcN a + rcN b) + 311 * (rqN a + rqN b) := rfl
        have eg : gnL (.inner 34 d u a b) = (gnL a - 143) + gnL b := rfl
        have ef : gfN (.inner 34 d u a b) = 1 + (gfN a + gfN b) := rfl
        refine lcG_x (K := 1904 - 143 + 1167 + lcI f pp ee tN a env) (Or.inl rfl) ?_ ?_ ?_ ib
        · rw [eg, ef]
          have : 1904 ≤ gnL a := by
            obtain ⟨d', z', a', b', e⟩ := f1 rfl
            rw [e]
            show 1904 ≤ 1904 + (gnL a' + gnL b')
            omega
          omega
        · rw [ef]
          omega
        · rw [ei, lSm_ap]
          unfold lcI
          omega
      · have hg : yIs y ∧ yL y = yB 1 ∧ gOk f pp ee tE tN b env (yR y) := hg
        have ib := (gn_l b f3 gdb 2 hb env _ hg.2.2).2.2.2 rfl
        refine ⟨fun z => (by cases z), fun z => (by cases z), fun z => (by cases z), fun _ => ?_⟩
        subst ea
        have eg : gnL (.inner 35 d u .leaf b) = 1079 + (0 + gnL b) := rfl
        have ef : gfN (.inner 35 d u .leaf b) = gfN b := rfl
        have ei : lcI f pp ee tN (.inner 35 d u .leaf b) env = lcI f pp ee tN b env := rfl
        refine lcG_x (K := 1079) (Or.inr rfl) ?_ ?_ ?_ ib
        · rw [eg]
          omega
        · rw [ef]
          exact Nat.le_refl _
        · rw [ei]
          omega
    · have nof : ∀ {P : Prop}, g ≠ 3 → (∃ d' z a' b', (Std.DTreeMap.Internal.Impl.inner g d u a b : tT) = .inner 3 d' z a' b') → P := fun n ⟨_, _, _, _, e⟩ => by
        injection e with e
        exact absurd e n
      have qa := q16_1 a
      have qb := q16_1 b
      have pa := q16_p a
      have pb := q16_p b
      rcases h with ⟨rfl, -, ha, hb⟩ | ⟨rfl, -, ha, hb⟩ | ⟨rfl, -, ha⟩ | ⟨rfl, -, hb⟩ | ⟨rfl, -, hb⟩ | ⟨rfl, -, -, ha⟩ | ⟨h7, -, -, ea, eb⟩ | ⟨h7, -, ea, eb⟩ | ⟨h7, -, ea, eb⟩ | ⟨rfl, -⟩ | ⟨rfl, -, ha⟩ | ⟨rfl, -, ha, eb⟩ | ⟨rfl, -⟩ | ⟨rfl, -, ha, hb⟩
      · -- let
        have fa : tF3 a := by rw [if_neg (by decide)] at f2; exact f2
        have hg : tE d.1 = y ∧ gOk f pp ee tE tN a env (tN (d.1 + 1)) ∧ gOk f pp ee tE tN b (env ++ [d.1 + 1]) y := hg
        have ia := (gn_l a fa gda 0 ha env _ hg.2.1).1 rfl
        have ib := (gn_l b f3 gdb 0 hb _ _ hg.2.2).1 rfl
        refine ⟨fun _ => ?_, fun _ z => nof (by decide) z, fun z => (by cases z), fun z => (by cases z)⟩
        have ei : lcI f pp ee tN (.inner 1 d u a b) env = 89 * ((pnL a - q16 a) + pnL b) + lSm (cvC f pp ee tN a env ++ cvC f pp ee tN b (env ++ [d.1 + 1])) + 2190 * (1 + (lfN a + lfN b)) + 1341 * (rcN a + rcN b) + 311 * (rqN a + rqN b) := rfl
        have eg : gnL (.inner 1 d u a b) = 2279 + (gnL a + gnL b) := rfl
        have ef : gfN (.inner 1 d u a b) = gfN a + gfN b := rfl
        rw [ei, eg, ef, lSm_ap]
        unfold lcI at ia ib
        omega
      · -- let rec
        have fa : tF3 a := by rw [if_neg (by decide)] at f2; exact f2
        have hg : tE d.1 = y ∧ (∃ r, tN (d.1 + 2) = gFn tN d.2.1 (d.1 + 3) r ∧ gOk f pp ee tE tN a (env ++ ([d.1 + 2] ++ List.range' (d.1 + 3) d.2.1)) r) ∧ gOk f pp ee tE tN b (env ++ [d.1 + 2]) y := hg
        obtain ⟨-, ⟨r, -, ga⟩, gb⟩ := hg
        have ia := (gn_l a fa gda 0 ha _ _ ga).1 rfl
        have ib := (gn_l b f3 gdb 0 hb _ _ gb).1 rfl
        refine ⟨fun _ => ?_, fun _ z => nof (by decide) z, fun z => (by cases z), fun z => (by cases z)⟩
        have ei : lcI f pp ee tN (.inner 2 d u a b) env = 89 * ((pnL a - q16 a) + pnL b) + lSm (cvC f pp ee tN a (env ++ ([d.1 + 2] ++ List.range' (d.1 + 3) d.2.1)) ++ cvC f pp ee tN b (env ++ [d.1 + 2])) + 2190 * (1 + (lfN a + lfN b)) + 1341 * (1 + (rcN a + rcN b)) + 311 * (d.2.1 + (rqN a + rqN b)) := rfl
        have eg : gnL (.inner 2 d u a b) = (3620 + 311 * d.2.1) + (gnL a + gnL b) := rfl
        have ef : gfN (.inner 2 d u a b) = gfN a + gfN b := rfl
        rw [ei, eg, ef, lSm_ap]
        unfold lcI at ia ib
        omega
      · -- fun
        have fa : tF3 a := by rw [if_neg (by decide)] at f2; exact f2
        have hg : tE d.1 = y ∧ ∃ r, y = yA (tN (d.1 + 1)) r ∧ gOk f pp ee tE tN a (env ++ [d.1 + 1]) r := hg
        obtain ⟨-, r, -, ga⟩ := hg
        have ia := (gn_l a fa gda 0 ha _ _ ga).1 rfl
        have ei : lcI f pp ee tN (.inner 3 d u a b) env = 89 * (pnL a - q16 a) + lSm (cvC f pp ee tN a (env ++ [d.1 + 1])) + 2190 * lfN a + 1341 * rcN a + 311 * rqN a := rfl
        have eg : gnL (.inner 3 d u a b) = 1904 + (gnL a + gnL b) := rfl
        have ef : gfN (.inner 3 d u a b) = gfN a := rfl
        have k : 1904 + lcI f pp ee tN (.inner 3 d u a b) env ≤ gnL (.inner 3 d u a b) + 1167 * gfN (.inner 3 d u a b) := by
          rw [ei, eg, ef]
          unfold lcI at ia
          omega
        exact ⟨fun _ => by omega, fun _ _ => k, fun z => (by cases z), fun z => (by cases z)⟩
      · -- if
        have hg : tE d.1 = y ∧ gCk f pp ee tN env a ∧ gOk f pp ee tE tN b env y := hg
        have ib := (gn_l b f3 gdb 1 hb env _ hg.2.2).2.2.1 rfl
        refine ⟨fun _ => ?_, fun _ z => nof (by decide) z, fun z => (by cases z), fun z => (by cases z)⟩
        have ei : lcI f pp ee tN (.inner 4 d u a b) env = 89 * pnL b + lSm (cvC f pp ee tN b env) + 2190 * (1 + lfN b) + 1341 * rcN b + 311 * rqN b := rfl
        have eg : gnL (.inner 4 d u a b) = 3025 + (0 + gnL b) := rfl
        have ef : gfN (.inner 4 d u a b) = gfN b := rfl
        rw [ei, eg, ef]
        unfold lcI at ib
        omega
      · -- assert
        have hg : gCk f pp ee tN env a ∧ gOk f pp ee tE tN b env y := hg
        have ib := (gn_l b f3 gdb 0 hb env _ hg.2).1 rfl
        refine ⟨fun _ => ?_, fun _ z => nof (by decide) z, fun z => (by cases z), fun z => (by cases z)⟩
        have ei : lcI f pp ee tN (.inner 5 d u a b) env = 89 * (pnL b - q16 b) + lSm (cvC f pp ee tN b env) + 2190 * lfN b + 1341 * rcN b + 311 * rqN b := rfl
        have eg : gnL (.inner 5 d u a b) = 1840 + (0 + gnL b) := rfl
        have ef : gfN (.inner 5 d u a b) = gfN b := rfl
        rw [ei, eg, ef]
        unfold lcI at ib
        omega
      · -- set
        have fa : tF3 a := by rw [if_neg (by decide)] at f2; exact f2
        have hg : tN (gNu f pp ee env (d.1 + 1)) = yB 2 ∧ (gSo f pp ee tN env d.2.2.2.1.2 ∧ gSo f pp ee tN env d.2.2.2.2.2) ∧ gOk f pp ee tE tN a env y := hg
        have ia := (gn_l a fa gda 0 ha env _ hg.2.2).1 rfl
        refine ⟨fun _ => ?_, fun _ z => nof (by decide) z, fun z => (by cases z), fun z => (by cases z)⟩
        have ei : lcI f pp ee tN (.inner 6 d u a b) env = 89 * (pnL a - q16 a) + lSm (cvC f pp ee tN a env) + 2190 * lfN a + 1341 * rcN a + 311 * rqN a := rfl
        have eg : gnL (.inner 6 d u a b) = 1144 + (gnL a + gnL b) := rfl
        have ef : gfN (.inner 6 d u a b) = gfN a := rfl
        rw [ei, eg, ef]
        unfold lcI at ia
        omega
      · refine ⟨fun _ => ?_, fun _ z => nof (by omega) z, fun z => (by cases z), fun z => (by cases z)⟩
        rcases h7 with rfl | rfl <;> exact Nat.zero_le _
      · refine ⟨fun _ => ?_, fun _ z => nof (by omega) z, fun z => (by cases z), fun z => (by cases z)⟩
        rcases h7 with rfl | rfl | rfl <;> exact Nat.zero_le _
      · refine ⟨fun _ => ?_, fun _ z => nof (by omega) z, fun z => (by cases z), fun z => (by cases z)⟩
        rcases h7 with rfl | rfl | rfl <;> exact Nat.zero_le _
      · exact ⟨fun _ => Nat.zero_le _, fun _ z => nof (by decide) z, fun z => (by cases z), fun z => (by cases z)⟩
      · -- a call
        have fa : tF3 a := by rw [if_neg (by decide)] at f2; exact f2
        have hg : y = yRs (tQn a) (tN (gNu f pp ee env d.1)) ∧ gOk f pp ee tE tN a env (tN (gNu f pp ee env d.1)) := hg
        have ia := (gn_l a fa gda 2 ha env _ hg.2).2.2.2 rfl
        exact ⟨fun _ => Nat.le_trans (lcI_call tQn_0 ia) (Nat.le_add_right _ _), fun _ z => nof (by decide) z, fun z => (by cases z), fun z => (by cases z)⟩
      · -- in brackets
        have fa : tF3 a := by rw [if_neg (by decide)] at f2; exact f2
        have hg : gOk f pp ee tE tN a env y := hg
        have ia := (gn_l a fa gda 0 ha env _ hg).1 rfl
        refine ⟨fun _ => ?_, fun _ z => nof (by decide) z, fun z => (by cases z), fun z => (by cases z)⟩
        have ei : lcI f pp ee tN (.inner 16 d u a b) env = 89 * (pnL a + (1 - q16 a)) + lSm (cvC f pp ee tN a env) + 2190 * lfN a + 1341 * rcN a + 311 * rqN a := rfl
        have eg : gnL (.inner 16 d u a b) = 0 + (gnL a + gnL b) := rfl
        have ef : gfN (.inner 16 d u a b) = gfN a := rfl
        have eq : q16 (.inner 16 d u a b) = 1 := rfl
        rw [ei, eg, ef, eq]
        unfold lcI at ia
        omega
      · exact ⟨fun _ => Nat.zero_le _, fun _ z => nof (by decide) z, fun z => (by cases z), fun z => (by cases z)⟩
      · -- match
        have fa : tF3 a := by rw [if_neg (by decide)] at f2; exact f2
        have hg : tE d.1 = y ∧ tN (gNu f pp ee env (d.1 + 1)) = yB 3 ∧ (tN d.2.1 = yB 0 ∧ tN (d.2.1 + 1) = yB 3) ∧ gOk f pp ee tE tN a env y ∧ gOk f pp ee tE tN b (env ++ [d.2.1, d.2.1 + 1]) y := hg
        have ia := (gn_l a fa gda 0 ha env _ hg.2.2.2.1).1 rfl
        have ib := (gn_l b f3 gdb 0 hb _ _ hg.2.2.2.2).1 rfl
        refine ⟨fun _ => ?_, fun _ z => nof (by decide) z, fun z => (by cases z), fun z => (by cases z)⟩
        have ei : lcI f pp ee tN (.inner 19 d u a b) env = 89 * ((pnL a - q16 a) + (pnL b - q16 b)) + lSm (cvC f pp ee tN a env ++ cvC f pp ee tN b (env ++ [d.2.1, d.2.1 + 1])) + 2190 * (1 + (lfN a + lfN b)) + 1341 * (rcN a + rcN b) + 311 * (rqN a + rqN b) := rfl
        have eg : gnL (.inner 19 d u a b) = 2381 + (gnL a + gnL b) := rfl
        have ef : gfN (.inner 19 d u a b) = gfN a + gfN b := rfl
        rw [ei, eg, ef, lSm_ap]
        unfold lcI at ia ib
        omega
end GNM
