def wW : tT → List Nat
  | .leaf => []
  | .inner g d _ a b =>
    if g = 1 then wW a ++ ([d.1 + 1] ++ wW b)
    else if g = 2 then [d.1 + 2] ++ (List.range' (d.1 + 3) d.2.1 ++ (wW a ++ wW b))
    else if g = 3 then [d.1 + 1] ++ wW a
    else if g = 4 ∨ g = 5 ∨ g = 33 ∨ g = 35 then wW b
    else if g = 6 ∨ g = 15 ∨ g = 16 then wW a
    else if g = 19 then wW a ++ ([d.2.1, d.2.1 + 1] ++ wW b)
    else if g = 31 ∨ g = 34 then wW a ++ wW b
    else []
def wS : List (Nat × Nat) → Nat × Nat
  | [] => (0, 0)
  | x :: r => (x.1 + (wS r).1, x.2 + (wS r).2)
def wT (xs : List tQ) (y : tY) (sc : List gEn) : Nat × Nat := (tCn xs y, tCs xs y (gSs sc).length)
def wFt (y : tY) (A B : gTy) : Nat × Nat := (fCn y, fCp y (gDq A) (gDq B))
/-- what a NAME that is passed makes: a function's type is there -/
def wSc (b : Bool) : Nat × Nat := if b = true then (3, 17) else (3, 0)
section WCO
variable (T : Nat) (f pp ee : Nat → Int32) (tE tN : Nat → tY) (xs : List tQ)
def wCo : tT → List Nat → List gEn → gTy → gSt → Nat × Nat
  | .leaf, _, _, _, _ => (0, 0)
  | .inner g d _ a b, env, sc, A, s =>
    if g = 1 then
      (fun r1 : gSt × gTy => wS [wCo a env sc A s, (1, 4), wT xs (tE d.1) sc, wCo b (env ++ [d.1 + 1]) (gNm (.inl (d.1 + 1)) r1.2 sc) A (gTn (d.1 + 1) r1.2 r1.1), wFt (tE d.1) (gWk T f pp ee tE tN b (env ++ [d.1 + 1]) (gNm (.inl (d.1 + 1)) r1.2 sc) A (gTn (d.1 + 1) r1.2 r1.1)).2 (gTp (2 * d.1) (tE d.1) [] sc)]) (gWk T f pp ee tE tN a env sc A s)
    else if g = 2 then
      (fun F : gTy => (fun p : List gEn × gTy × gSt => (fun r1 : gSt × gTy => wS [wT xs (tN (d.1 + 2)) sc, (1, 4), (4 * d.2.1, 19 * d.2.1), wCo a (env ++ ([d.1 + 2] ++ List.range' (d.1 + 3) d.2.1)) p.1 A p.2.2, wFt (gSy p.2.1) r1.2 p.2.1, wT xs (tE d.1) sc, wCo b (env ++ [d.1 + 2]) sc A (gFt (gFi (gSy p.2.1) r1.2 p.2.1 p.1) r1.1), wFt (tE d.1) (gWk T f pp ee tE tN b (env ++ [d.1 + 2]) sc A (gFt (gFi (gSy p.2.1) r1.2 p.2.1 p.1) r1.1)).2 (gTp (2 * d.1) (tE d.1) [] sc)]) (gWk T f pp ee tE tN a (env ++ ([d.1 + 2] ++ List.range' (d.1 + 3) d.2.1)) p.1 A p.2.2)) (gPa d.2.1 (d.1 + 3) F sc (gTn (d.1 + 2) F s))) (gTp (2 * d.1 + 1) (tN (d.1 + 2)) (List.range' (d.1 + 3) d.2.1) sc)
    else if g = 3 then
      (fun F : gTy => wS [wT xs (tE d.1) sc, (4, 19), wCo a (env ++ [d.1 + 1]) (gNm (.inl (d.1 + 1)) (gTk F) sc) A (gTn (d.1 + 1) (gTk F) s), wFt (yR (tE d.1)) (gWk T f pp ee tE tN a (env ++ [d.1 + 1]) (gNm (.inl (d.1 + 1)) (gTk F) sc) A (gTn (d.1 + 1) (gTk F) s)).2 (gAn F)]) (gTp (2 * d.1) (tE d.1) [d.1 + 1] sc)
    else if g = 4 then wS [wT xs (tE d.1) sc, (2, 8), wCo b env (.inr (.inl (a, env), true) :: sc) (gTp (2 * d.1) (tE d.1) [] sc) s]
    else if g = 5 then wS [(1, 4), wCo b env (.inr (.inl (a, env), true) :: sc) A (gNe (sc, d.1, 0, a, [], env, 0) s)]
    else if g = 6 then wCo a env sc A (gNe (sc, d.1 + 2, 3, .leaf, d.2.2.2.1.2, env, gNu f pp ee env (d.1 + 1)) s)
    else if g = 7 ∨ g = 10 then (3, 17)
    else if g = 8 ∨ g = 9 ∨ g = 12 ∨ g = 14 then (1, 15)
    else if g = 11 ∨ g = 17 ∨ g = 18 then (6, 25)
    else if g = 13 then (6, 27)
    else if g = 15 then wCo a env sc (s.1 (gNu f pp ee env d.1)) s
    else if g = 16 then wCo a env sc A s
    else if g = 19 then
      (fun l : Nat => (fun r1 : gSt × gTy => (fun sc2 : List gEn => (fun s2 : gSt => wS [wT xs (tE d.1) sc, (1, 4), wCo a env (.inr (.inr l, true) :: sc) A s, wFt (tE d.1) r1.2 (gTp (2 * d.1) (tE d.1) [] sc), (10, 52), wCo b (env ++ [d.2.1, d.2.1 + 1]) sc2 A s2, wFt (tE d.1) (gWk T f pp ee tE tN b (env ++ [d.2.1, d.2.1 + 1]) sc2 A s2).2 (gTp (2 * d.1) (tE d.1) [] sc)]) (gTn (d.2.1 + 1) (gEq (yB 3) (some (.inl l, 1), -1)) (gTn d.2.1 (gPl (yB 0)) (gFt (gFi (tE d.1) r1.2 (gTp (2 * d.1) (tE d.1) [] sc) (.inr (.inr l, true) :: sc)) r1.1)))) (gNm (.inl (d.2.1 + 1)) (gEq (yB 3) (some (.inl l, 1), -1)) (gNm (.inl d.2.1) (gPl (yB 0)) (.inr (.inr l, false) :: sc)))) (gWk T f pp ee tE tN a env (.inr (.inr l, true) :: sc) A s)) (gNu f pp ee env (d.1 + 1))
    else if g = 31 then
      (fun r1 : gSt × gTy => wS [wCo a env sc A s, wFt (gSy A) r1.2 A, wCo b env (gFl sc) A (gFt (gFi (gSy A) r1.2 A sc) r1.1), wFt (gSy A) (gWk T f pp ee tE tN b env (gFl sc) A (gFt (gFi (gSy A) r1.2 A sc) r1.1)).2 A]) (gWk T f pp ee tE tN a env sc A s)
    else if g = 33 then wS [wSc (gMs (yL (gSy A))), (3, t15 (gDq A)), wFt (yL (gSy A)) (gSu T f pp ee env d.2.2.2.1.2 s) (gTk A), (3, if gMs (yL (gSy A)) = true then 17 + 2 * gDq A else t15 (gDq A)), wCo b env sc (if gMs (yL (gSy A)) = true then gPu (gAn A) (gPn A) (gOf T f pp ee env d.2.2.2.1.2) else gAn A) (gFt (gFi (yL (gSy A)) (gSu T f pp ee env d.2.2.2.1.2 s) (gTk A) sc) s)]
    else if g = 34 then
      (fun r : gSt × gTy => wS [wCo a env sc A s, (3, t15 (gDq A)), wFt (yL (gSy A)) r.2 (gTk A), (3, t15 (gDq A)), wCo b env sc (gAn A) (gFt (gFi (yL (gSy A)) r.2 (gTk A) sc) r.1)]) (gWk T f pp ee tE tN a env sc A s)
    else if g = 35 then wS [(1, 15), (3, 15), (3, 15), wCo b env sc (gAn A) s]
    else (0, 0)
end WCO
def sFn (T : Nat) (f pp ee : Nat → Int32) (env : List Nat) (ps : List tP) : Prop := (-1125899906842624 ≤ (sPl T f pp ee ps).toInt ∧ (sPl T f pp ee ps).toInt ≤ 1125899906842624) ∧ ∀ p, p ∈ ps → 0 < p.1 → ∃ u, nFind f pp ee env p.2.2 = some u
/-- an or, an and: of two or more -/
def cBn : tT → Prop
  | .leaf => True
  | .inner g _ _ a b => (g = 20 ∨ g = 21 → b ≠ .leaf) ∧ cBn a ∧ cBn b
/-- numbers of comparisons are NUMBERS -/
def cNw (T : Nat) (f pp ee : Nat → Int32) : tT → Prop
  | .leaf => True
  | .inner g d _ a b => (g = 25 → sNw T f pp ee d.2.2.2.1.2 ∧ sNw T f pp ee d.2.2.2.2.2) ∧ cNw T f pp ee a ∧ cNw T f pp ee b
/-- a C as it is read -/
def cTxa (T : Nat) (f pp ee : Nat → Int32) (t : tT) : Prop := cBn t ∧ cNw T f pp ee t ∧ ∃ n, cWf n t false
def wTx (T : Nat) (f pp ee : Nat → Int32) : tT → List Nat → Prop
  | .leaf, _ => True
  | .inner g d _ a b, env => ((g = 10 ∨ g = 33 ∨ g = 7 → sFn T f pp ee env d.2.2.2.1.2) ∧ (g = 11 ∨ g = 12 ∨ g = 13 → sFn T f pp ee env d.2.2.2.1.2 ∧ sFn T f pp ee env d.2.2.2.2.2 ∧ (-1125899906842624 ≤ (sPl T f pp ee d.2.2.2.1.2).toInt * (sPl T f pp ee d.2.2.2.2.2).toInt ∧ (sPl T f pp ee d.2.2.2.1.2).toInt * (sPl T f pp ee d.2.2.2.2.2).toInt ≤ 1125899906842624)) ∧ (g = 14 ∨ g = 15 → ∃ u, nFind f pp ee env d.1 = some u) ∧ (g = 6 ∨ g = 19 → ∃ u, nFind f pp ee env (d.1 + 1) = some u) ∧ (g = 18 → ∃ u, nFind f pp ee env d.2.1 = some u) ∧ (g = 33 → gTs f pp ee env d.2.2.2.1.2 = true)) ∧
    if g = 1 then wTx T f pp ee a env ∧ wTx T f pp ee b (env ++ [d.1 + 1])
    else if g = 2 then wTx T f pp ee a (env ++ ([d.1 + 2] ++ List.range' (d.1 + 3) d.2.1)) ∧ wTx T f pp ee b (env ++ [d.1 + 2])
    else if g = 3 then wTx T f pp ee a (env ++ [d.1 + 1])
    else if g = 4 ∨ g = 5 then cTxa T f pp ee a ∧ wTx T f pp ee b env
    else if g = 19 then wTx T f pp ee a env ∧ wTx T f pp ee b (env ++ [d.2.1, d.2.1 + 1])
    else wTx T f pp ee a env ∧ wTx T f pp ee b env
section CWK
variable (κ : oKv) (T T0 : Nat) (st : Nat) (l : Nat → Nat) (b0 : Nat) (nq : tQ → Int) (xs : List tQ) (pg ch ty : Nat) (cf : List Value) (At : Nat → Nat) (mo : Nat) (g : gG) (ρ : Nat → tY) (lv ov : Int32) (CN : Nat → gCd → Prop) (NR : Nat → (Nat × Nat × tT × List tP × List Nat × Nat) → Prop) (V : oSt) (lo g0 : Nat) (nm : Nat → Option Nat) (tE tN : Nat → tY) (φ : Nat → Nat) (Us : List Nat) (kk pp ee f fc : Nat → Int32) (B : Nat → Nat) (D : cDt) (Γ : uGm) (C Bd : Int) (rt : Nat → gTm) (M : Nat) (CB : List Nat → List (gCd × Bool) → Prop) (NB : List Nat → List (gCd × Bool) → (Nat × Nat × tT × List tP × List Nat × Nat) → Prop) (cnt : Nat)
def wkI (t : tT) (env : List Nat) (sc : List gEn) (Sc : List sEn) (os : Option Nat) (Es : List (gN × Nat)) (A : gTy) (s : gSt) (Ψ : kGh) (Ls : List Nat) (σ : oSt) (ln : Nat → Nat) (ct : Nat → Nat → Option Nat) (cs i j m fk : Nat) (tl : List Nat) (y : tY) : Prop := (gHq T f pp ee tE tN Γ C Bd rt M CB NB t env (scC sc) ∧ gOk f pp ee tE tN t env y ∧ eW Γ C Bd rt tN env sc s.1 ∧ tSn kk t ∧ wTx T f pp ee t env) ∧ (tRg t i j ∧ j ≤ cnt) ∧ (∃ lo1, lo ≤ lo1 ∧ cTX κ T0 kk pp ee fc B D (fun m u => eXw σ g ρ tE m u) lo1 V nm t env fk (fun _ => none) 0 m) ∧ ((∀ u, u ∈ wW t → u ∈ Us ∧ u ∉ tl) ∧ (wW t).Nodup) ∧ ((∀ u, u ∈ env → u ∈ tl) ∧ ∀ u, u ∈ tl → u ∈ Us) ∧ (∀ k, 2 * i ≤ k → k < 2 * j → ¬ Ψ.2.2.2 k) ∧ gwS κ st l b0 nq xs pg ch ty cf At mo g ρ lv ov CN NR pp V lo g0 nm tN φ Us i tl Ψ Ls σ ln ct cs s ∧ gwE st l b0 nq xs Ψ σ CN (dnO g0 φ tl) nm tN lo Ls env sc Sc os Es s.1 ∧ Sc.length + 63 * tH t ≤ 5000 ∧ ((gWk T f pp ee tE tN t env sc A s).1.2.1.length ≤ 12000 ∧ (gWk T f pp ee tE tN t env sc A s).1.2.2.length ≤ 12000)
def cWk (t : tT) : Prop := ∀ (env : List Nat) (sc : List gEn) (Sc : List sEn) (os : Option Nat) (Es : List (gN × Nat)) (A : gTy) (s : gSt) (Ψ : kGh) (Ls : List Nat) (σ : oSt) (ln : Nat → Nat) (ct : Nat → Nat → Option Nat) (cs i j m fk : Nat) (tl : List Nat) (y : tY) (N : Nat), eT t → wkI κ T T0 st l b0 nq xs pg ch ty cf At mo g ρ lv ov CN NR V lo g0 nm tE tN φ Us kk pp ee f fc B D Γ C Bd rt M CB NB cnt t env sc Sc os Es A s Ψ Ls σ ln ct cs i j m fk tl y → 75 + 4 * tH t ≤ N → wkR κ st l b0 nq xs pg ch ty cf At mo g ρ lv ov CN NR pp V lo g0 nm tN φ Us (fun y b => (y, b) ∈ Es) i j tl (tl ++ wW t) Ψ Ls σ cs (gWk T f pp ee tE tN t env sc A s).1 (gWk T f pp ee tE tN t env sc A s).2 (wCo T f pp ee tE tN xs t env sc A s) (oF κ T N 30 [va_rf (some ch), va_rf (some m), va_rf os] σ)
end CWK
