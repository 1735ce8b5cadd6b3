/-! all that gWk makes speaks of what is in scope -/
/-- what must FIT -/
def fP (Γ : uGm) (C B : Int) (rt : Nat → gTm) (M : Nat) (tN : Nat → tY) (CB : List Nat → List (gCd × Bool) → Prop) (x : gFit) : Prop := ∃ env sc, fitW Γ C B rt tN M sc x ∧ CB env (scC sc) ∧ nmS sc = (gSv tN env).reverse
/-- what must be SO -/
def nP (Γ : uGm) (C B : Int) (rt : Nat → gTm) (tN : Nat → tY) (CB : List Nat → List (gCd × Bool) → Prop) (NB : List Nat → List (gCd × Bool) → (Nat × Nat × tT × List tP × List Nat × Nat) → Prop) (x : gNd) : Prop := ∃ env, nmS x.1 = (gSv tN env).reverse ∧ scW Γ C B rt tN (scN x.1) ∧ CB env (scC x.1) ∧ NB env (scC x.1) x.2
/-- from one state to another -/
def stW (Γ : uGm) (C B : Int) (rt : Nat → gTm) (M : Nat) (tN : Nat → tY) (CB : List Nat → List (gCd × Bool) → Prop) (NB : List Nat → List (gCd × Bool) → (Nat × Nat × tT × List tP × List Nat × Nat) → Prop) (env : List Nat) (s s' : gSt) : Prop := (∀ u, u ∈ env → s'.1 u = s.1 u) ∧ (∀ x, x ∈ s'.2.1 → x ∈ s.2.1 ∨ fP Γ C B rt M tN CB x) ∧ ∀ x, x ∈ s'.2.2 → x ∈ s.2.2 ∨ nP Γ C B rt tN CB NB x
def outW (Γ : uGm) (C B : Int) (rt : Nat → gTm) (M : Nat) (tN : Nat → tY) (CB : List Nat → List (gCd × Bool) → Prop) (NB : List Nat → List (gCd × Bool) → (Nat × Nat × tT × List tP × List Nat × Nat) → Prop) (env : List Nat) (sc : List gEn) (s : gSt) (y : tY) (r : gSt × gTy) : Prop := (gSy r.2 = y ∧ wfT Γ C B rt (nmS sc) r.2) ∧ stW Γ C B rt M tN CB NB env s r.1
/-- an E; ARGS -/
def eT : tT → Prop
  | .leaf => False
  | .inner g _ _ _ _ => g ≠ 31 ∧ g ≠ 33 ∧ g ≠ 34 ∧ g ≠ 35
def aT : tT → Prop
  | .leaf => True
  | .inner g _ _ _ _ => g = 33 ∨ g = 34 ∨ g = 35
def cFl : List (gCd × Bool) → List (gCd × Bool)
  | (c, h) :: r => (c, !h) :: r
  | [] => []
section GHQ
variable (T : Nat) (f pp ee : Nat → Int32) (tE tN : Nat → tY) (Γ : uGm) (C B : Int) (rt : Nat → gTm) (M : Nat) (CB : List Nat → List (gCd × Bool) → Prop) (NB : List Nat → List (gCd × Bool) → (Nat × Nat × tT × List tP × List Nat × Nat) → Prop)
/-- **what a tree must be** that all of it can be asked -/
def gHq : tT → List Nat → List (gCd × Bool) → Prop
  | .leaf, _, _ => True
  | .inner g d _ a b, env, cs => CB env cs ∧
    if g = 1 then (rtC rt tN M (2 * d.1) (tE d.1) [] env ∧ (d.1 + 1 ∉ env ∧ uNm Γ (.inl (d.1 + 1))) ∧ (gSv tN (env ++ [d.1 + 1])).length + ySx (tE d.1) ≤ M ∧ CB (env ++ [d.1 + 1]) cs) ∧ (eT a ∧ eT b) ∧ gHq a env cs ∧ gHq b (env ++ [d.1 + 1]) cs
    else if g = 2 then (rtC rt tN M (2 * d.1) (tE d.1) [] env ∧ rtC rt tN M (2 * d.1 + 1) (tN (d.1 + 2)) (List.range' (d.1 + 3) d.2.1) env ∧ (d.1 + 2 ∉ env ∧ uNm Γ (.inl (d.1 + 2))) ∧ (∀ x, x ∈ List.range' (d.1 + 3) d.2.1 → x ∉ env ++ [d.1 + 2] ∧ uNm Γ (.inl x)) ∧ 1 ≤ d.2.1 ∧ (gSv tN env).length + ySx (tE d.1) ≤ M ∧ CB (env ++ ([d.1 + 2] ++ List.range' (d.1 + 3) d.2.1)) cs ∧ ∀ r, tN (d.1 + 2) = gFn tN d.2.1 (d.1 + 3) r → (gSv tN (env ++ ([d.1 + 2] ++ List.range' (d.1 + 3) d.2.1))).length + ySx r ≤ M) ∧ (eT a ∧ eT b) ∧ gHq a (env ++ ([d.1 + 2] ++ List.range' (d.1 + 3) d.2.1)) cs ∧ gHq b (env ++ [d.1 + 2]) cs
    else if g = 3 then (rtC rt tN M (2 * d.1) (tE d.1) [d.1 + 1] env ∧ uNm Γ (.inl (d.1 + 1)) ∧ (gSv tN (env ++ [d.1 + 1])).length + ySx (yR (tE d.1)) ≤ M ∧ CB (env ++ [d.1 + 1]) cs) ∧ eT a ∧ gHq a (env ++ [d.1 + 1]) cs
    else if g = 4 then (rtC rt tN M (2 * d.1) (tE d.1) [] env ∧ (gSv tN env).length + ySx (tE d.1) ≤ M) ∧ (∃ d' z a' b', b = .inner 31 d' z a' b') ∧ gHq b env ((.inl (a, env), true) :: cs)
    else if g = 5 then NB env cs (d.1, 0, a, [], env, 0) ∧ eT b ∧ gHq b env ((.inl (a, env), true) :: cs)
    else if g = 6 then NB env cs (d.1 + 2, 3, .leaf, d.2.2.2.1.2, env, gNu f pp ee env (d.1 + 1)) ∧ eT a ∧ gHq a env cs
    else if g = 7 then NB env cs (d.1, 2, .leaf, d.2.2.2.1.2, env, 0) ∧ (gTs f pp ee env d.2.2.2.1.2 = true → tmW Γ C B (gSv tN env) (gOf T f pp ee env d.2.2.2.1.2))
    else if g = 8 ∨ g = 9 then True
    else if g = 10 then suW T f pp ee Γ C B tN env d.2.2.2.1.2
    else if g = 11 ∨ g = 12 ∨ g = 13 then (g ≠ 11 → NB env cs (d.2.1, 1, .leaf, d.2.2.2.2.2, env, 0)) ∧ ∀ S, wfT Γ C B rt S (gSg T f pp ee g env d.2.2.2.1.2 d.2.2.2.2.2)
    else if g = 14 then NB env cs (d.1 + 1, 3, .leaf, d.2.2.2.1.2, env, gNu f pp ee env d.1)
    else if g = 15 then gNu f pp ee env d.1 ∈ env ∧ aT a ∧ gHq a env cs
    else if g = 16 then eT a ∧ gHq a env cs
    else if g = 17 then True
    else if g = 18 then gNu f pp ee env d.2.1 ∈ env
    else if g = 19 then (rtC rt tN M (2 * d.1) (tE d.1) [] env ∧ gNu f pp ee env (d.1 + 1) ∈ env ∧ (d.2.1 ∉ env ∧ d.2.1 + 1 ∉ env ∧ uNm Γ (.inl d.2.1) ∧ uNm Γ (.inl (d.2.1 + 1))) ∧ ((gSv tN env).length + ySx (tE d.1) ≤ M ∧ (gSv tN (env ++ [d.2.1, d.2.1 + 1])).length + ySx (tE d.1) ≤ M) ∧ CB env ((.inr (gNu f pp ee env (d.1 + 1)), true) :: cs) ∧ CB (env ++ [d.2.1, d.2.1 + 1]) ((.inr (gNu f pp ee env (d.1 + 1)), false) :: cs)) ∧ (eT a ∧ eT b) ∧ gHq a env ((.inr (gNu f pp ee env (d.1 + 1)), true) :: cs) ∧ gHq b (env ++ [d.2.1, d.2.1 + 1]) ((.inr (gNu f pp ee env (d.1 + 1)), false) :: cs)
    else if g = 31 then CB env (cFl cs) ∧ (eT a ∧ eT b) ∧ gHq a env cs ∧ gHq b env (cFl cs)
    else if g = 33 then (suW T f pp ee Γ C B tN env d.2.2.2.1.2 ∧ (gMs (gSk f pp ee tN env d.2.2.2.1.2) = true → tmW Γ C B (gSv tN env) (gOf T f pp ee env d.2.2.2.1.2)) ∧ (gSv tN env).length + ySx (gSk f pp ee tN env d.2.2.2.1.2) ≤ M) ∧ aT b ∧ gHq b env cs
    else if g = 34 then (∀ y, gOk f pp ee tE tN a env y → gMs y = false ∧ (gSv tN env).length + ySx y ≤ M) ∧ (eT a ∧ aT b) ∧ gHq a env cs ∧ gHq b env cs
    else g = 35 ∧ aT b ∧ gHq b env cs
/-- what A is at if's ways and at ARGS -/
def aH (env : List Nat) (sc : List gEn) (A : gTy) (y : tY) : tT → Prop
  | .leaf => gSy A = y ∧ wfT Γ C B rt (nmS sc) A
  | .inner g _ _ _ _ => (g = 31 → (gSy A = y ∧ wfT Γ C B rt (nmS sc) A) ∧ (∀ m, A.1 = .inr m → m.2.2.2.1 = []) ∧ (gSv tN env).length + ySx y ≤ M ∧ ∃ c r, sc = .inr c :: r) ∧ (g = 33 ∨ g = 34 ∨ g = 35 → gSy A = y ∧ wfT Γ C B rt (nmS sc) A)
/-- the type behind it -/
def yOu (y : tY) : tT → tY
  | .leaf => y
  | .inner g d z a b => if g = 33 ∨ g = 34 ∨ g = 35 then yRs (tQn (.inner g d z a b)) y else y
end GHQ
section GWW
variable {T : Nat} {f pp ee : Nat → Int32} {tE tN : Nat → tY} {Γ : uGm} {C B : Int} {rt : Nat → gTm} {M : Nat} {CB : List Nat → List (gCd × Bool) → Prop} {NB : List Nat → List (gCd × Bool) → (Nat × Nat × tT × List tP × List Nat × Nat) → Prop} {env env' : List Nat} {sc : List gEn} {s s' s'' : gSt} {y : tY} {A D : gTy}
theorem stW.rf (env : List Nat) (s : gSt) : stW Γ C B rt M tN CB NB env s s := ⟨fun _ _ => rfl, fun _ h => Or.inl h, fun _ h => Or.inl h⟩
theorem stW.tr (h : stW Γ C B rt M tN CB NB env s s') (g : stW Γ C B rt M tN CB NB env' s' s'') (he : ∀ u, u ∈ env → u ∈ env') : stW Γ C B rt M tN CB NB env s s'' := ⟨fun u hu => (g.1 u (he u hu)).trans (h.1 u hu), fun x hx => (g.2.1 x hx).elim (h.2.1 x) Or.inr, fun x hx => (g.2.2 x hx).elim (h.2.2 x) Or.inr⟩
theorem stW.ft {l : List gFit} (h : stW Γ C B rt M tN CB NB env s s') (hl : ∀ x, x ∈ l → fP Γ C B rt M tN CB x) : stW Γ C B rt M tN CB NB env s (gFt l s') := ⟨h.1, fun x hx => (List.mem_append.mp hx).elim (h.2.1 x) (fun z => Or.inr (hl x z)), h.2.2⟩
theorem stW.ne {x : gNd} (h : stW Γ C B rt M tN CB NB env s s') (hx : nP Γ C B rt tN CB NB x) : stW Γ C B rt M tN CB NB env s (gNe x s') := ⟨h.1, h.2.1, fun z hz => (List.mem_append.mp hz).elim (h.2.2 z) (fun w => Or.inr (by rw [List.mem_singleton.mp w]; exact hx))⟩
theorem stW.tn {w : Nat} (h : stW Γ C B rt M tN CB NB env s s') (hw : w ∉ env) : stW Γ C B rt M tN CB NB env s (gTn w A s') := ⟨fun u hu => (if_neg (fun e : u = w => hw (e ▸ hu))).trans (h.1 u hu), h.2⟩
theorem eW.st (h : eW Γ C B rt tN env sc s.1) (g : stW Γ C B rt M tN CB NB env s s') : eW Γ C B rt tN env sc s'.1 := h.cg g.1
theorem eW.np (h : eW Γ C B rt tN env sc s.1) {x : Nat × Nat × tT × List tP × List Nat × Nat} (cb : CB env (scC sc)) (nb : NB env (scC sc) x) : nP Γ C B rt tN CB NB (sc, x) := ⟨env, h.1, h.2.1, cb, nb⟩
theorem eW.ln {q : Nat → gTy} (h : eW Γ C B rt tN env sc q) : (scN sc).length = (gSv tN env).length := by
  have := congrArg List.length h.1
  unfold nmS at this
  rw [List.length_map, List.length_reverse] at this
  exact this
theorem fits_w {q : Nat → gTy} (hQ : rtQ Γ rt) (hC : 0 ≤ C) (e : eW Γ C B rt tN env sc q) (hA : gSy A = y ∧ wfT Γ C B rt (nmS sc) A) (hD : gSy D = y ∧ wfT Γ C B rt (nmS sc) D) (nD : ∀ m, D.1 = .inr m → m.2.2.2.1 = []) (cb : CB env (scC sc)) (hM : (gSv tN env).length + ySx y ≤ M) : ∀ x, x ∈ gFi y A D sc → fP Γ C B rt M tN CB x := fun x hx => ⟨env, sc, gFi_w hQ hC y A D sc hA.1 hD.1 hA.2 hD.2 nD e.2.1 (fun k p z => absurd z (e.no k p)) (by rw [e.ln]; exact hM) x hx, cb, e.1⟩
theorem aH.e {t : tT} (h : eT t) : aH tN Γ C B rt M env sc A y t := by
  match t, h with
  | .inner g d z a b, h => exact ⟨fun e => absurd e h.1, fun e => by rcases e with e | e | e <;> first | exact absurd e h.2.1 | exact absurd e h.2.2.1 | exact absurd e h.2.2.2⟩
theorem aH.a {t : tT} (h : aT t) (g : gSy A = y ∧ wfT Γ C B rt (nmS sc) A) : aH tN Γ C B rt M env sc A y t := by
  match t, h with
  | .leaf, _ => exact g
  | .inner g' d z a b, h => exact ⟨fun e => by rcases h with h | h | h <;> (rw [h] at e; cases e), fun _ => g⟩
theorem yOu_e {t : tT} (h : eT t) : yOu y t = y := by
  match t, h with
  | .inner g d z a b, h => exact if_neg (fun e => by rcases e with e | e | e <;> first | exact absurd e h.2.1 | exact absurd e h.2.2.1 | exact absurd e h.2.2.2)
theorem yOu_a {t : tT} (h : aT t) : yOu y t = yRs (tQn t) y := by
  match t, h with
  | .leaf, _ => rfl
  | .inner g d z a b, h => exact if_pos h
theorem gTp_ns {key : Nat} {ns : List Nat} (h : ns = []) : ∀ m, (gTp key y ns sc).1 = .inr m → m.2.2.2.1 = [] := fun m e => by
  injection e with e
  rw [← e]
  exact h
theorem yIs_1 (h : yIs y) : yK y = 1 := by
  unfold yIs at h
  rw [h]
  rfl
theorem gSg_y (g : Nat) (p1 p2 : List tP) : gSy (gSg T f pp ee g env p1 p2) = yB 0 := by
  unfold gSg
  split
  · rfl
  · split <;> rfl
end GWW
