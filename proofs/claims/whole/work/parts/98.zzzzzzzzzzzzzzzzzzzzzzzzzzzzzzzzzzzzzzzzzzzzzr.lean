/-! ROOM: what the letters of calls, lets and let rec's leave -/
/-- letters of a call's ARGS, where functions are taken -/
def lcA : Nat → tY → Nat
  | 0, _ => 0
  | a + 1, y => (if yK (yL y) = 1 then 429 else 120) + lcA a (yR y)
/-- what a call's letters leave -/
def lc (Y : tY) (a : Nat) : Nat := if a = 0 then 507 else 507 + max (309 + lcA a Y) (274 * a + 155)
def lSm (l : List (tY × Nat)) : Nat := (l.map (fun c => lc c.1 c.2)).sum
theorem lSm_ap (a b : List (tY × Nat)) : lSm (a ++ b) = lSm a + lSm b := by
  unfold lSm
  rw [List.map_append, List.sum_append]
theorem lSm_cn (c : tY × Nat) (b : List (tY × Nat)) : lSm (c :: b) = lc c.1 c.2 + lSm b := by
  unfold lSm
  rw [List.map_cons, List.sum_cons]
/-- how many E's more than one end a text -/
def lfN : tT → Nat
  | .leaf => 0
  | .inner g _ _ a b =>
    if g = 1 ∨ g = 2 ∨ g = 19 ∨ g = 34 then 1 + (lfN a + lfN b)
    else if g = 31 then lfN a + lfN b
    else if g = 4 then 1 + lfN b
    else if g = 3 ∨ g = 6 ∨ g = 15 ∨ g = 16 then lfN a
    else if g = 5 ∨ g = 33 ∨ g = 35 then lfN b
    else 0
/-- told parameters of let rec's -/
def rqN : tT → Nat
  | .leaf => 0
  | .inner g d _ a b =>
    if g = 1 ∨ g = 19 ∨ g = 31 ∨ g = 34 then rqN a + rqN b
    else if g = 2 then d.2.1 + (rqN a + rqN b)
    else if g = 3 ∨ g = 6 ∨ g = 15 ∨ g = 16 then rqN a
    else if g = 4 ∨ g = 5 ∨ g = 33 ∨ g = 35 then rqN b
    else 0
theorem q16_p : ∀ t : tT, q16 t ≤ pnL t
  | .leaf => Nat.le_refl _
  | .inner g d u a b => by
    have ia := q16_p a
    by_cases c : g = 16
    · subst c
      show 1 ≤ pnL a + (1 - q16 a)
      omega
    · show (if g = 16 then 1 else 0) ≤ _
      rw [if_neg c]
      exact Nat.zero_le _
section GNL
variable {kk f pp ee : Nat → Int32} {cnt : Nat} {tE tN : Nat → tY}
/-- what letters must pay for -/
def lcI (f pp ee : Nat → Int32) (tN : Nat → tY) (t : tT) (env : List Nat) : Nat := 89 * pnL t + lSm (cvC f pp ee tN t env) + 2190 * lfN t + 1341 * rcN t + 311 * rqN t
/-- of ARGS -/
def lcG (f pp ee : Nat → Int32) (tN : Nat → tY) (t : tT) (env : List Nat) (y : tY) : Prop := (if aBz t = true then 0 else 309) + lcA (tQn t) y + lcI f pp ee tN t env ≤ gnL t + 1167 * gfN t + (if aBg t = true then 309 else 0) ∧ (aBn t = true → 274 * tQn t + lcI f pp ee tN t env ≤ gnL t + 1167 * gfN t + 154) ∧ (aBn t = false → aBz t = false → 274 * tQn t + 1 + lcI f pp ee tN t env ≤ gnL t + 1167 * gfN t) ∧ (aBg t = false → aBz t = false → 274 * tQn t + 185 + lcI f pp ee tN t env ≤ gnL t + 1167 * gfN t)
theorem aBn_g {t : tT} (h : aBn t = true) : aBg t = true := by
  cases t with
  | leaf => cases h
  | inner g d u a b =>
    simp only [aBn, aBg, Bool.and_eq_true, Bool.or_eq_true] at h ⊢
    exact Or.inl h.1
theorem aBz_g {t : tT} (h : aBz t = true) : t = .leaf := by
  cases t with
  | leaf => rfl
  | inner g d u a b => cases h
/-- a NAME or a NUMBER is passed -/
theorem lcG_0 {d u} {b : tT} {env : List Nat} {y : tY} (h0 : d.2.1 = 0) (hf : yK (yL y) = 1 → (d.2.2.2.1.2.all (fun p => p.1 == 0)) = false) (ib : lcG f pp ee tN b env (yR y)) : lcG f pp ee tN (.inner 33 d u .leaf b) env y := by
  obtain ⟨b1, b2, b3, b4⟩ := ib
  have eg : gnL (.inner 33 d u .leaf b) = (if d.2.1 = 1 then 613 else 120 + (if (d.2.2.2.1.2.all (fun p => p.1 == 0)) = true then (if aBn b = true then 309 else 0) else if aBz b = true ∨ aBg b = true then 309 else 0)) + (0 + gnL b) := rfl
  have ef : gfN (.inner 33 d u .leaf b) = gfN b := rfl
  have ei : lcI f pp ee tN (.inner 33 d u .leaf b) env = lcI f pp ee tN b env := rfl
  have eq : tQn (.inner 33 d u .leaf b) = tQn b + 1 := rfl
  have ez : aBz (.inner 33 d u .leaf b) = false := rfl
  have ea : lcA (tQn b + 1) y = (if yK (yL y) = 1 then 429 else 120) + lcA (tQn b) (yR y) := rfl
  have e1 : aBg (.inner 33 d u .leaf b) = true := by
    show ((decide (33 = 33) && decide (d.2.1 = 0)) || decide (33 = 35)) = true
    rw [h0]
    rfl
  have e2 : aBn (.inner 33 d u .leaf b) = d.2.2.2.1.2.all (fun p => p.1 == 0) := by
    show (decide (33 = 33) && decide (d.2.1 = 0) && decide ((d.2.2.2.1.2.all (fun p => p.1 == 0)) = true)) = _
    rw [h0]
    cases d.2.2.2.1.2.all (fun p => p.1 == 0) <;> rfl
  rw [if_neg (by omega)] at eg
  unfold lcG
  rw [eg, ef, ei, eq, ez, ea, e1, e2]
  have bz : aBz b = true → tQn b = 0 := fun z => by rw [aBz_g z]; rfl
  have bg : aBn b = true → aBg b = true := aBn_g
  have bzg : aBz b = true → aBg b = false := fun z => by rw [aBz_g z]; rfl
  rw [if_neg (show ¬ (false = true) by decide), if_pos (show true = true from rfl)]
  generalize d.2.2.2.1.2.all (fun p => p.1 == 0) = sb at hf ⊢
  generalize lcI f pp ee tN b env = I at *
  generalize lcA (tQn b) (yR y) = LA at *
  generalize gnL b + 1167 * gfN b = G0
  cases hz : aBz b with
  | true =>
    have q0 := bz hz
    have ng := bzg hz
    rw [hz, ng] at b1
    rw [ng, q0]
    rw [if_pos rfl, if_neg (by decide)] at b1
    cases sb with
    | true =>
      have nf : ¬ yK (yL y) = 1 := fun z => by have := hf z; cases this
      rw [if_neg nf, if_pos rfl]
      refine ⟨by split <;> omega, fun _ => by split <;> omega, fun z => (by cases z), fun z => by cases z⟩
    | false =>
      rw [if_neg (show ¬ (false = true) by decide), if_pos (Or.inl rfl)]
      refine ⟨by split <;> omega, fun z => (by cases z), fun _ _ => by omega, fun z => by cases z⟩
  | false =>
    rw [hz] at b1 b3 b4
    rw [if_neg (by decide)] at b1
    cases hn : aBn b with
    | true =>
      have hg := bg hn
      have b2 := b2 hn
      rw [hg] at b1 ⊢
      rw [if_pos rfl] at b1
      cases sb with
      | true =>
        have nf : ¬ yK (yL y) = 1 := fun z => by have := hf z; cases this
        rw [if_neg nf, if_pos rfl, if_pos rfl]
        refine ⟨by omega, fun _ => by omega, fun z => (by cases z), fun z => by cases z⟩
      | false =>
        rw [if_neg (show ¬ (false = true) by decide), if_pos (Or.inr rfl)]
        refine ⟨by split <;> omega, fun z => (by cases z), fun _ _ => by omega, fun z => by cases z⟩
    | false =>
      have b3 := b3 hn rfl
      cases hg : aBg b with
      | true =>
        rw [hg, if_pos rfl] at b1
        cases sb with
        | true =>
          have nf : ¬ yK (yL y) = 1 := fun z => by have := hf z; cases this
          rw [if_neg nf, if_pos rfl, if_neg (by decide)]
          refine ⟨by omega, fun _ => by omega, fun z => (by cases z), fun z => by cases z⟩
        | false =>
          rw [if_neg (show ¬ (false = true) by decide), if_pos (Or.inr rfl)]
          refine ⟨by split <;> omega, fun z => (by cases z), fun _ _ => by omega, fun z => by cases z⟩
      | false =>
        have b4 := b4 hg rfl
        rw [hg, if_neg (by decide)] at b1
        cases sb with
        | true =>
          have nf : ¬ yK (yL y) = 1 := fun z => by have := hf z; cases this
          rw [if_neg nf, if_pos rfl, if_neg (by decide)]
          refine ⟨by omega, fun _ => by omega, fun z => (by cases z), fun z => by cases z⟩
        | false =>
          rw [if_neg (show ¬ (false = true) by decide), if_neg (show ¬ (false = true ∨ false = true) by decide)]
          refine ⟨by split <;> omega, fun z => (by cases z), fun _ _ => by omega, fun z => by cases z⟩
/-- an S in brackets is passed -/
theorem lcG_1 {d u} {b : tT} {env : List Nat} {y : tY} (h1 : d.2.1 = 1) (hf : ¬ yK (yL y) = 1) (ib : lcG f pp ee tN b env (yR y)) : lcG f pp ee tN (.inner 33 d u .leaf b) env y := by
  obtain ⟨b1, b2, b3, b4⟩ := ib
  have eg : gnL (.inner 33 d u .leaf b) = (if d.2.1 = 1 then 613 else 120 + (if (d.2.2.2.1.2.all (fun p => p.1 == 0)) = true then (if aBn b = true then 309 else 0) else if aBz b = true ∨ aBg b = true then 309 else 0)) + (0 + gnL b) := rfl
  have ef : gfN (.inner 33 d u .leaf b) = gfN b := rfl
  have ei : lcI f pp ee tN (.inner 33 d u .leaf b) env = lcI f pp ee tN b env := rfl
  have eq : tQn (.inner 33 d u .leaf b) = tQn b + 1 := rfl
  have ez : aBz (.inner 33 d u .leaf b) = false := rfl
  have ea : lcA (tQn b + 1) y = (if yK (yL y) = 1 then 429 else 120) + lcA (tQn b) (yR y) := rfl
  have e1 : aBg (.inner 33 d u .leaf b) = false := by
    show ((decide (33 = 33) && decide (d.2.1 = 0)) || decide (33 = 35)) = false
    rw [h1]
    rfl
  have e2 : aBn (.inner 33 d u .leaf b) = false := by
    show (decide (33 = 33) && decide (d.2.1 = 0) && decide ((d.2.2.2.1.2.all (fun p => p.1 == 0)) = true)) = _
    rw [h1]
    rfl
  rw [if_pos h1] at eg
  unfold lcG
  rw [eg, ef, ei, eq, ez, ea, e1, e2, if_neg hf]
  rw [if_neg (show ¬ (false = true) by decide)]
  have bz : aBz b = true → tQn b = 0 := fun z => by rw [aBz_g z]; rfl
  have bzg : aBz b = true → aBg b = false := fun z => by rw [aBz_g z]; rfl
  have B1 : lcA (tQn b) (yR y) + lcI f pp ee tN b env ≤ gnL b + 1167 * gfN b := by
    cases hz : aBz b with
    | true =>
      rw [hz, bzg hz, if_pos rfl, if_neg (by decide)] at b1
      omega
    | false =>
      rw [hz, if_neg (by decide)] at b1
      split at b1 <;> omega
  have B2 : 274 * tQn b + lcI f pp ee tN b env ≤ gnL b + 1167 * gfN b + 154 := by
    cases hz : aBz b with
    | true =>
      have := bz hz
      omega
    | false =>
      cases hn : aBn b with
      | true => exact b2 hn
      | false =>
        have := b3 hn hz
        omega
  refine ⟨by omega, fun z => (by cases z), fun _ _ => by omega, fun _ _ => by omega⟩
/-- another ARG, with letters of its own -/
theorem lcG_x {g d u} {a b : tT} {env : List Nat} {y : tY} {K : Nat} (hg : g = 34 ∨ g = 35) (eg : K + gnL b ≤ gnL (.inner g d u a b) + 1167 * (gfN (.inner g d u a b) - gfN b)) (ef : gfN b ≤ gfN (.inner g d u a b)) (ei : lcI f pp ee tN (.inner g d u a b) env + 738 ≤ K + lcI f pp ee tN b env) (ib : lcG f pp ee tN b env (yR y)) : lcG f pp ee tN (.inner g d u a b) env y := by
  obtain ⟨b1, b2, b3, b4⟩ := ib
  have eq : tQn (.inner g d u a b) = tQn b + 1 := rfl
  have ez : aBz (.inner g d u a b) = false := rfl
  have ea : lcA (tQn b + 1) y = (if yK (yL y) = 1 then 429 else 120) + lcA (tQn b) (yR y) := rfl
  have e2 : aBn (.inner g d u a b) = false := by
    show (decide (g = 33) && decide (d.2.1 = 0) && decide ((d.2.2.2.1.2.all (fun p => p.1 == 0)) = true)) = _
    rw [show decide (g = 33) = false from decide_eq_false (by omega)]
    rfl
  have la : (if yK (yL y) = 1 then 429 else 120) ≤ 429 := by split <;> omega
  unfold lcG
  rw [eq, ez, ea, e2, if_neg (show ¬ (false = true) by decide)]
  have bz : aBz b = true → tQn b = 0 := fun z => by rw [aBz_g z]; rfl
  have bzg : aBz b = true → aBg b = false := fun z => by rw [aBz_g z]; rfl
  have B1 : lcA (tQn b) (yR y) + lcI f pp ee tN b env ≤ gnL b + 1167 * gfN b := by
    cases hz : aBz b with
    | true =>
      rw [hz, bzg hz, if_pos rfl, if_neg (by decide)] at b1
      omega
    | false =>
      rw [hz, if_neg (by decide)] at b1
      split at b1 <;> omega
  have B2 : 274 * tQn b + lcI f pp ee tN b env ≤ gnL b + 1167 * gfN b + 154 := by
    cases hz : aBz b with
    | true =>
      have := bz hz
      omega
    | false =>
      cases hn : aBn b with
      | true => exact b2 hn
      | false =>
        have := b3 hn hz
        omega
  refine ⟨?_, fun z => (by cases z), fun _ _ => by omega, fun _ _ => by omega⟩
  refine Nat.le_trans ?_ (Nat.le_add_right _ _)
  omega
end GNL
