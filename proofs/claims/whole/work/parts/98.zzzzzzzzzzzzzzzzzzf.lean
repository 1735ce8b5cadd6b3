/-! what a tree must be that all of it can be asked: from what is read -/
section GHO
variable (T : Nat) (f pp ee : Nat → Int32) (tE tN : Nat → tY) (Γ : uGm) (C B : Int) (rt : Nat → gTm) (M : Nat) (CB : List Nat → List (gCd × Bool) → Prop) (NB : List Nat → List (gCd × Bool) → (Nat × Nat × tT × List tP × List Nat × Nat) → Prop)
/-- how large types are where they are made -/
def gMx : tT → List Nat → Prop
  | .leaf, _ => True
  | .inner g d _ a b, env =>
    (g = 1 ∨ g = 2 ∨ g = 3 ∨ g = 4 ∨ g = 19 → yDp (tE d.1) ≤ 100 ∧ (gSv tN env).length + ySx (tE d.1) ≤ 60) ∧
    if g = 1 then (gSv tN (env ++ [d.1 + 1])).length + ySx (tE d.1) ≤ M ∧ gMx a env ∧ gMx b (env ++ [d.1 + 1])
    else if g = 2 then (yDp (tN (d.1 + 2)) ≤ 100 ∧ (gSv tN env).length + ySx (tN (d.1 + 2)) ≤ 60 ∧ 1 ≤ d.2.1 ∧ (gSv tN env).length + ySx (tE d.1) ≤ M ∧ ∀ r, tN (d.1 + 2) = gFn tN d.2.1 (d.1 + 3) r → (gSv tN (env ++ ([d.1 + 2] ++ List.range' (d.1 + 3) d.2.1))).length + ySx r ≤ M) ∧ gMx a (env ++ ([d.1 + 2] ++ List.range' (d.1 + 3) d.2.1)) ∧ gMx b (env ++ [d.1 + 2])
    else if g = 3 then (gSv tN (env ++ [d.1 + 1])).length + ySx (yR (tE d.1)) ≤ M ∧ gMx a (env ++ [d.1 + 1])
    else if g = 4 then (gSv tN env).length + ySx (tE d.1) ≤ M ∧ gMx b env
    else if g = 5 then gMx b env
    else if g = 6 ∨ g = 15 ∨ g = 16 then gMx a env
    else if g = 19 then ((gSv tN env).length + ySx (tE d.1) ≤ M ∧ (gSv tN (env ++ [d.2.1, d.2.1 + 1])).length + ySx (tE d.1) ≤ M) ∧ gMx a env ∧ gMx b (env ++ [d.2.1, d.2.1 + 1])
    else if g = 31 then gMx a env ∧ gMx b env
    else if g = 33 then (gSv tN env).length + ySx (gSk f pp ee tN env d.2.2.2.1.2) ≤ M ∧ gMx b env
    else if g = 34 then (∀ y, gOk f pp ee tE tN a env y → gMs y = false ∧ (gSv tN env).length + ySx y ≤ M) ∧ gMx a env ∧ gMx b env
    else if g = 35 then gMx b env
    else True
/-- conditions and S's that can be asked -/
def gHb : tT → List Nat → List (gCd × Bool) → Prop
  | .leaf, _, _ => True
  | .inner g d _ a b, env, cs => CB env cs ∧
    if g = 1 then CB (env ++ [d.1 + 1]) cs ∧ gHb a env cs ∧ gHb b (env ++ [d.1 + 1]) cs
    else if g = 2 then CB (env ++ ([d.1 + 2] ++ List.range' (d.1 + 3) d.2.1)) cs ∧ gHb a (env ++ ([d.1 + 2] ++ List.range' (d.1 + 3) d.2.1)) cs ∧ gHb b (env ++ [d.1 + 2]) cs
    else if g = 3 then CB (env ++ [d.1 + 1]) cs ∧ gHb a (env ++ [d.1 + 1]) cs
    else if g = 4 then gHb b env ((.inl (a, env), true) :: cs)
    else if g = 5 then NB env cs (d.1, 0, a, [], env, 0) ∧ gHb b env ((.inl (a, env), true) :: cs)
    else if g = 6 then NB env cs (d.1 + 2, 3, .leaf, d.2.2.2.1.2, env, gNu f pp ee env (d.1 + 1)) ∧ gHb a env cs
    else if g = 7 then NB env cs (d.1, 2, .leaf, d.2.2.2.1.2, env, 0) ∧ (gTs f pp ee env d.2.2.2.1.2 = true → tmW Γ C B (gSv tN env) (gOf T f pp ee env d.2.2.2.1.2))
    else if g = 8 ∨ g = 9 then True
    else if g = 10 then suW T f pp ee Γ C B tN env d.2.2.2.1.2
    else if g = 11 ∨ g = 12 ∨ g = 13 then (g ≠ 11 → NB env cs (d.2.1, 1, .leaf, d.2.2.2.2.2, env, 0)) ∧ ∀ S, wfT Γ C B rt S (gSg T f pp ee g env d.2.2.2.1.2 d.2.2.2.2.2)
    else if g = 14 then NB env cs (d.1 + 1, 3, .leaf, d.2.2.2.1.2, env, gNu f pp ee env d.1)
    else if g = 15 ∨ g = 16 then gHb a env cs
    else if g = 17 ∨ g = 18 then True
    else if g = 19 then (CB env ((.inr (gNu f pp ee env (d.1 + 1)), true) :: cs) ∧ CB (env ++ [d.2.1, d.2.1 + 1]) ((.inr (gNu f pp ee env (d.1 + 1)), false) :: cs)) ∧ gHb a env ((.inr (gNu f pp ee env (d.1 + 1)), true) :: cs) ∧ gHb b (env ++ [d.2.1, d.2.1 + 1]) ((.inr (gNu f pp ee env (d.1 + 1)), false) :: cs)
    else if g = 31 then CB env (cFl cs) ∧ gHb a env cs ∧ gHb b env (cFl cs)
    else if g = 33 then (suW T f pp ee Γ C B tN env d.2.2.2.1.2 ∧ (gMs (gSk f pp ee tN env d.2.2.2.1.2) = true → tmW Γ C B (gSv tN env) (gOf T f pp ee env d.2.2.2.1.2))) ∧ gHb b env cs
    else if g = 34 then gHb a env cs ∧ gHb b env cs
    else gHb b env cs
end GHO
section GHP
variable {T cnt : Nat} {kk f pp ee R : Nat → Int32} {tE tN : Nat → tY} {L : List Nat} {Γ : uGm} {C B : Int} {rt : Nat → gTm} {M : Nat} {CB : List Nat → List (gCd × Bool) → Prop} {NB : List Nat → List (gCd × Bool) → (Nat × Nat × tT × List tP × List Nat × Nat) → Prop}
theorem tWf.e : ∀ {t : tT}, tWf kk cnt t 0 → eT t
  | .leaf, h => by cases h
  | .inner g d z a b, h => by
    rcases h with ⟨h, _⟩ | ⟨h, _⟩ | ⟨_, h⟩
    · cases h
    · cases h
    · show g ≠ 31 ∧ g ≠ 33 ∧ g ≠ 34 ∧ g ≠ 35
      rcases h with ⟨h, _⟩ | ⟨h, _⟩ | ⟨h, _⟩ | ⟨h, _⟩ | ⟨h, _⟩ | ⟨h, _⟩ | ⟨h, _⟩ | ⟨h, _⟩ | ⟨h, _⟩ | ⟨h, _⟩ | ⟨h, _⟩ | ⟨h, _⟩ | ⟨h, _⟩ | ⟨h, _⟩ <;> omega
theorem tWf.a : ∀ {t : tT}, tWf kk cnt t 2 → aT t
  | .leaf, _ => trivial
  | .inner g d z a b, h => by
    rcases h with ⟨h, _⟩ | ⟨_, _, _, h⟩ | ⟨h, _⟩
    · cases h
    · show g = 33 ∨ g = 34 ∨ g = 35
      rcases h with ⟨h, _⟩ | ⟨h, _⟩ | ⟨h, _⟩ <;> omega
    · cases h
theorem tWf.w : ∀ {t : tT}, tWf kk cnt t 1 → ∃ d z a b, t = .inner 31 d z a b
  | .leaf, h => by cases h
  | .inner g d z a b, h => by
    rcases h with ⟨_, h, _⟩ | ⟨h, _⟩ | ⟨h, _⟩
    · subst h; exact ⟨d, z, a, b, rfl⟩
    · cases h
    · cases h
/-- what its parts are -/
theorem tWf.ch {g : Nat} {d : Nat × Nat × Nat × tS × tS} {z : Unit} {a b : tT} {l : Nat} (h : tWf kk cnt (.inner g d z a b) l) : (g = 1 ∨ g = 2 ∨ g = 19 ∨ g = 31 → tWf kk cnt a 0 ∧ tWf kk cnt b 0) ∧ (g = 3 ∨ g = 6 ∨ g = 16 → tWf kk cnt a 0) ∧ (g = 4 → tWf kk cnt b 1) ∧ (g = 5 → tWf kk cnt b 0) ∧ (g = 15 → tWf kk cnt a 2) ∧ (g = 33 ∨ g = 35 → tWf kk cnt b 2) ∧ (g = 34 → tWf kk cnt a 0 ∧ tWf kk cnt b 2) ∧ (g ≤ 19 ∨ g = 31 ∨ g = 33 ∨ g = 34 ∨ g = 35) ∧ g ≠ 0 := by
  rcases h with ⟨_, h, _, h1, h2⟩ | ⟨_, _, hb, h⟩ | ⟨_, h⟩
  · subst h
    exact ⟨fun _ => ⟨h1, h2⟩, fun c => by omega, fun c => by omega, fun c => by omega, fun c => by omega, fun c => by omega, fun c => by omega, by omega, by omega⟩
  · rcases h with ⟨h, _⟩ | ⟨h, _, h1⟩ | ⟨h, _⟩
    · subst h
      exact ⟨fun c => by omega, fun c => by omega, fun c => by omega, fun c => by omega, fun c => by omega, fun _ => hb, fun c => by omega, by omega, by omega⟩
    · subst h
      exact ⟨fun c => by omega, fun c => by omega, fun c => by omega, fun c => by omega, fun c => by omega, fun c => by omega, fun _ => ⟨h1, hb⟩, by omega, by omega⟩
    · subst h
      exact ⟨fun c => by omega, fun c => by omega, fun c => by omega, fun c => by omega, fun c => by omega, fun _ => hb, fun c => by omega, by omega, by omega⟩
  · refine ⟨fun c => ?_, fun c => ?_, fun c => ?_, fun c => ?_, fun c => ?_, fun c => ?_, fun c => ?_, ?_, ?_⟩
    all_goals rcases h with ⟨h, _, wa, wb⟩ | ⟨h, _, wa, wb⟩ | ⟨h, _, wa⟩ | ⟨h, _, wb⟩ | ⟨h, _, wb⟩ | ⟨h, _, _, wa⟩ | ⟨h, _⟩ | ⟨h, _⟩ | ⟨h, _⟩ | ⟨h, _⟩ | ⟨h, _, wa⟩ | ⟨h, _, wa, _⟩ | ⟨h, _⟩ | ⟨h, _, wa, wb⟩
    all_goals first | omega | exact ⟨wa, wb⟩ | exact wa | exact wb
end GHP
