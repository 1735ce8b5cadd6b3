/-! CAPACITIES: where types of functions come from -/
/-- the type of a unit: a TEMPLATE (0, its key) or a told parameter (1, its word) -/
def uY (tE tN : Nat → tY) (i : Nat × Nat) : tY := if i.1 = 0 then (if i.2 % 2 = 0 then tE (i.2 / 2) else tN (i.2 / 2 + 2)) else tN i.2
/-- measured NAMES -/
def mSd (tN : Nat → tY) (env : List Nat) : Nat := (env.filter (fun u => gMs (tN u))).length
/-- units, with the measured NAMES where they stand -/
def gUn (tN : Nat → tY) : tT → List Nat → List ((Nat × Nat) × Nat)
  | .leaf, _ => []
  | .inner g d _ a b, env =>
    if g = 1 then ((0, 2 * d.1), mSd tN env) :: (gUn tN a env ++ gUn tN b (env ++ [d.1 + 1]))
    else if g = 2 then ((0, 2 * d.1), mSd tN env) :: ((0, 2 * d.1 + 1), mSd tN env) :: ((List.range d.2.1).map (fun i => (((1, d.1 + 3 + i) : Nat × Nat), mSd tN (env ++ ([d.1 + 2] ++ List.range' (d.1 + 3) i)))) ++ (gUn tN a (env ++ ([d.1 + 2] ++ List.range' (d.1 + 3) d.2.1)) ++ gUn tN b (env ++ [d.1 + 2])))
    else if g = 3 then ((0, 2 * d.1), mSd tN env) :: ((1, d.1 + 1), mSd tN env) :: gUn tN a (env ++ [d.1 + 1])
    else if g = 4 then ((0, 2 * d.1), mSd tN env) :: gUn tN b env
    else if g = 19 then ((0, 2 * d.1), mSd tN env) :: (gUn tN a env ++ gUn tN b (env ++ [d.2.1, d.2.1 + 1]))
    else if g = 5 ∨ g = 33 ∨ g = 35 then gUn tN b env
    else if g = 6 ∨ g = 15 ∨ g = 16 then gUn tN a env
    else if g = 31 ∨ g = 34 then gUn tN a env ++ gUn tN b env
    else []
/-- the words of lets -/
def gLt : tT → List Nat
  | .leaf => []
  | .inner g d _ a b =>
    if g = 1 then d.1 :: (gLt a ++ gLt b)
    else if g = 4 ∨ g = 5 ∨ g = 33 ∨ g = 35 then gLt b
    else if g = 3 ∨ g = 6 ∨ g = 15 ∨ g = 16 then gLt a
    else if g = 2 ∨ g = 19 ∨ g = 31 ∨ g = 34 then gLt a ++ gLt b
    else []
/-- how large a type is -/
def yZ : tY → Nat
  | .leaf => 0
  | .inner _ _ _ a b => yZ a + yZ b + 1
/-- a function that is taken at place j comes from another unit -/
def uCp (tE tN : Nat → tY) (Un : List ((Nat × Nat) × Nat)) (w : Nat) (V : List Nat) (id : Nat × Nat) (j : Nat) : Prop := yK (yL (yRs j (uY tE tN id))) = 1 → ∃ id' m' k', (id', m') ∈ Un ∧ id' ≠ id ∧ (id'.1 = 0 → id'.2 / 2 < w) ∧ (∀ c, c ∈ V → id' ≠ (0, 2 * c)) ∧ yL (yRs j (uY tE tN id)) = yRs k' (uY tE tN id')
/-- a type's root: unit, measured NAMES there, steps to the right, lets on the way -/
def uRt (ρ : Nat → Nat × Nat) (tE tN : Nat → tY) (Un : List ((Nat × Nat) × Nat)) (w n δ : Nat) (O V : List Nat) (y : tY) (r : (Nat × Nat) × Nat × Nat × List Nat) : Prop := ((r.1, r.2.1) ∈ Un ∧ y = yRs r.2.2.1 (uY tE tN r.1)) ∧ 4 * r.2.1 + r.2.2.1 ≤ 4 * n ∧ (r.2.2.1 ≤ 4 * (r.2.2.2.length + δ) ∧ r.2.2.2.Nodup ∧ ∀ c, c ∈ r.2.2.2 → c ∈ O ∧ ρ (c + 1) = r.1 ∧ (r.1.1 = 0 → r.1.2 / 2 ≤ c)) ∧ ((r.1.1 = 0 → r.1.2 / 2 < w) ∧ ∀ c, c ∈ V → r.1 ≠ (0, 2 * c)) ∧ ∀ j, j < r.2.2.1 → uCp tE tN Un w V r.1 j
/-- NAMES that count have roots -/
def uEn (ρ : Nat → Nat × Nat) (tE tN : Nat → tY) (Un : List ((Nat × Nat) × Nat)) (Ls : List Nat) (w : Nat) (O V env : List Nat) : Prop := (∀ c, c ∈ O → c ∈ V ∧ c ∈ Ls ∧ ∃ m, m ≤ 10 ∧ (((0, 2 * c) : Nat × Nat), m) ∈ Un) ∧ (∀ c, c ∈ V → c < w) ∧ ∀ i u, env[i]? = some u → yK (tN u) = 1 → ∃ r, uRt ρ tE tN Un w i 0 O V (tN u) r ∧ r.1 = ρ u
/-- **an arrow that is asked for** -/
def uRp (ρ : Nat → Nat × Nat) (tE tN : Nat → tY) (Un : List ((Nat × Nat) × Nat)) (Ls : List Nat) (z : tY) : Prop := ∃ (id : Nat × Nat) (m d : Nat) (C : List Nat), ((id, m) ∈ Un ∧ z = yRs d (uY tE tN id)) ∧ 4 * m + d ≤ 47 ∧ (d ≤ 4 * C.length + 3 ∧ C.Nodup ∧ ∀ c, c ∈ C → c ∈ Ls ∧ id ≠ (0, 2 * c) ∧ ρ (c + 1) = id ∧ (id.1 = 0 → id.2 / 2 ≤ c) ∧ ∃ m, m ≤ 10 ∧ (((0, 2 * c) : Nat × Nat), m) ∈ Un) ∧ ∀ j, j ≤ d → yK (yL (yRs j (uY tE tN id))) = 1 → ∃ id' m' k', (id', m') ∈ Un ∧ id' ≠ id ∧ (∀ c, c ∈ C → id' ≠ (0, 2 * c)) ∧ yL (yRs j (uY tE tN id)) = yRs k' (uY tE tN id')
noncomputable def uAA (ρ : Nat → Nat × Nat) (tE tN : Nat → tY) (Un : List ((Nat × Nat) × Nat)) (Ls : List Nat) (z : tY) : Bool := @decide (uRp ρ tE tN Un Ls z) (Classical.propDecidable _)
section UYY
variable {ρ : Nat → Nat × Nat} {tE tN : Nat → tY} {Un : List ((Nat × Nat) × Nat)} {Ls O V O' V' env : List Nat} {w w' n n' δ δ' : Nat} {y : tY} {r : (Nat × Nat) × Nat × Nat × List Nat}
theorem uAA_of {z : tY} (h : uRp ρ tE tN Un Ls z) : uAA ρ tE tN Un Ls z = true := @decide_eq_true _ (Classical.propDecidable _) h
theorem uAA_to {z : tY} (h : uAA ρ tE tN Un Ls z = true) : uRp ρ tE tN Un Ls z := @of_decide_eq_true _ (Classical.propDecidable _) h
theorem yRs_ad : ∀ (k j : Nat) (y : tY), yRs (k + j) y = yRs j (yRs k y)
  | 0, j, y => by rw [Nat.zero_add]; rfl
  | k + 1, j, y => by
    rw [show k + 1 + j = (k + j) + 1 by omega]
    exact yRs_ad k j (yR y)
theorem yZ_rs : ∀ (k : Nat) (y : tY), yZ (yRs k y) ≤ yZ y
  | 0, _ => Nat.le_refl _
  | k + 1, y => Nat.le_trans (yZ_rs k (yR y)) (by
    cases y with
    | leaf => exact Nat.le_refl _
    | inner g u v a b => show yZ b ≤ yZ a + yZ b + 1; omega)
theorem yZ_l (h : yK (yL y) = 1) : yZ (yL y) < yZ y := by
  cases y with
  | leaf => exact absurd h (by decide)
  | inner g u v a b => show yZ a < yZ a + yZ b + 1; omega
theorem yK_is {y : tY} (h : yK y = 1) : yIs y := by
  cases y with
  | leaf => exact absurd h (by decide)
  | inner g u v a b =>
    have h : g + 1 = 1 := h
    have h : g = 0 := by omega
    subst h
    rfl
/-- a right tail is no function that it takes before it ends -/
theorem yOw {Y : tY} {j k : Nat} (h : yRs k Y = yL (yRs j Y)) (hk : yK (yL (yRs j Y)) = 1) : j < k := by
  by_cases c : j < k
  · exact c
  · have e : yRs j Y = yRs (j - k) (yRs k Y) := by rw [← yRs_ad]; congr 1; omega
    have h1 := yZ_l hk
    have h2 := yZ_rs (j - k) (yRs k Y)
    rw [← e] at h2
    rw [h] at h2
    omega
theorem mSd_le (tN : Nat → tY) (env : List Nat) : mSd tN env ≤ env.length := List.length_filter_le _ _
theorem uCp.mo {id : Nat × Nat} {j : Nat} (h : uCp tE tN Un w V id j) (hw : w ≤ w') (hV : ∀ c, c ∈ V' → c ∈ V ∨ (w ≤ c)) : uCp tE tN Un w' V' id j := fun hk => by
  obtain ⟨id', m', k', a1, a2, a3, a4, a5⟩ := h hk
  refine ⟨id', m', k', a1, a2, fun z => by have := a3 z; omega, fun c hc e => ?_, a5⟩
  rcases hV c hc with z | z
  · exact a4 c z e
  · have h0 := a3 (by rw [e])
    rw [e] at h0
    have h0 : 2 * c / 2 < w := h0
    omega
theorem uRt.mo (h : uRt ρ tE tN Un w n δ O V y r) (hw : w ≤ w') (hn : n ≤ n') (hδ : δ ≤ δ') (hO : ∀ c, c ∈ O → c ∈ O') (hV : ∀ c, c ∈ V' → c ∈ V ∨ (w ≤ c)) : uRt ρ tE tN Un w' n' δ' O' V' y r := by
  obtain ⟨h1, h2, ⟨h3, h4, h5⟩, ⟨h6, h7⟩, h8⟩ := h
  refine ⟨h1, by omega, ⟨Nat.le_trans h3 (Nat.mul_le_mul_left _ (by omega)), h4, fun c hc => ⟨hO c (h5 c hc).1, (h5 c hc).2⟩⟩, ⟨fun z => by have := h6 z; omega, fun c hc e => ?_⟩, fun j hj => (h8 j hj).mo hw hV⟩
  rcases hV c hc with z | z
  · exact h7 c z e
  · have h0 := h6 (by rw [e])
    rw [e] at h0
    have h0 : 2 * c / 2 < w := h0
    omega
theorem uEn.mo (h : uEn ρ tE tN Un Ls w O V env) (hw : w ≤ w') : uEn ρ tE tN Un Ls w' O V env := ⟨h.1, fun c hc => by have := h.2.1 c hc; omega, fun i u e k => by
  obtain ⟨r, h, h'⟩ := h.2.2 i u e k
  exact ⟨r, h.mo hw (Nat.le_refl _) (Nat.le_refl _) (fun _ z => z) (fun _ z => Or.inl z), h'⟩⟩
/-- one more word to keep away from -/
theorem uEn.av {c : Nat} (h : uEn ρ tE tN Un Ls w O V env) (hc : w ≤ c) : uEn ρ tE tN Un Ls (c + 1) O (c :: V) env := ⟨fun x hx => ⟨List.mem_cons_of_mem _ (h.1 x hx).1, (h.1 x hx).2⟩, fun x hx => by
  rcases List.mem_cons.mp hx with z | z
  · omega
  · have := h.2.1 x z; omega, fun i u e k => by
  obtain ⟨r, h, h'⟩ := h.2.2 i u e k
  exact ⟨r, h.mo (by omega) (Nat.le_refl _) (Nat.le_refl _) (fun _ z => z) (fun x hx => by
    rcases List.mem_cons.mp hx with z | z
    · exact Or.inr (by omega)
    · exact Or.inl z), h'⟩⟩
/-- NAMES behind -/
theorem uEn.ap {us : List Nat} (h : uEn ρ tE tN Un Ls w O V env) (hn : ∀ i u, us[i]? = some u → yK (tN u) = 1 → ∃ r, uRt ρ tE tN Un w (env.length + i) 0 O V (tN u) r ∧ r.1 = ρ u) : uEn ρ tE tN Un Ls w O V (env ++ us) := ⟨h.1, h.2.1, fun i u e k => by
  by_cases c : i < env.length
  · rw [List.getElem?_append_left c] at e
    exact h.2.2 i u e k
  · rw [List.getElem?_append_right (by omega)] at e
    obtain ⟨r, q⟩ := hn _ u e k
    rw [show env.length + (i - env.length) = i by omega] at q
    exact ⟨r, q⟩⟩
/-- a unit by itself -/
theorem uRt.un {id : Nat × Nat} {m : Nat} (h : (id, m) ∈ Un) (hy : y = uY tE tN id) (hm : m ≤ n) (hw : id.1 = 0 → id.2 / 2 < w) (hV : ∀ c, c ∈ V → id ≠ (0, 2 * c)) : uRt ρ tE tN Un w n δ O V y (id, m, 0, []) := ⟨⟨h, hy⟩, by show 4 * m + 0 ≤ 4 * n; omega, ⟨Nat.zero_le _, List.nodup_nil, fun c hc => by cases hc⟩, ⟨hw, hV⟩, fun j hj => absurd hj (Nat.not_lt_zero _)⟩
end UYY
/-- the unit that an E's function is a tail of -/
def gRo (f pp ee : Nat → Int32) (ρ : Nat → Nat × Nat) : tT → List Nat → Nat × Nat
  | .leaf, _ => (0, 0)
  | .inner g d _ a b, env =>
    if g = 5 then gRo f pp ee ρ b env
    else if g = 6 ∨ g = 16 then gRo f pp ee ρ a env
    else if g = 10 then ρ (gNu f pp ee env (d.2.2.2.1.2.headD (0, false, 0)).2.2)
    else if g = 15 then ρ (gNu f pp ee env d.1)
    else (0, 2 * d.1)
/-- ρ says it of NAMES -/
def uGq (f pp ee : Nat → Int32) (ρ : Nat → Nat × Nat) : tT → List Nat → Prop
  | .leaf, _ => True
  | .inner g d _ a b, env =>
    if g = 1 then ρ (d.1 + 1) = gRo f pp ee ρ a env ∧ uGq f pp ee ρ a env ∧ uGq f pp ee ρ b (env ++ [d.1 + 1])
    else if g = 2 then (ρ (d.1 + 2) = (0, 2 * d.1 + 1) ∧ ∀ i, i < d.2.1 → ρ (d.1 + 3 + i) = (1, d.1 + 3 + i)) ∧ uGq f pp ee ρ a (env ++ ([d.1 + 2] ++ List.range' (d.1 + 3) d.2.1)) ∧ uGq f pp ee ρ b (env ++ [d.1 + 2])
    else if g = 3 then ρ (d.1 + 1) = (1, d.1 + 1) ∧ uGq f pp ee ρ a (env ++ [d.1 + 1])
    else if g = 4 ∨ g = 5 then uGq f pp ee ρ b env
    else if g = 6 ∨ g = 15 ∨ g = 16 then uGq f pp ee ρ a env
    else if g = 19 then uGq f pp ee ρ a env ∧ uGq f pp ee ρ b (env ++ [d.2.1, d.2.1 + 1])
    else if g = 31 ∨ g = 34 then uGq f pp ee ρ a env ∧ uGq f pp ee ρ b env
    else if g = 33 ∨ g = 35 then uGq f pp ee ρ b env
    else True
