/-! types that tell more, and what must FIT and be SO: one function of the tree for both sides -/
/-- NAMES: told words, or parameters without one (a TEMPLATE's key, a place in it) -/
abbrev gN : Type := Nat ⊕ (Nat × List Bool)
abbrev gTe : Type := Option (gN × Int) × Int
abbrev gFc : Type := Nat × gTe
/-- a place in a TEMPLATE: its key, the way to it, its simple type, NAMES of its parameters, what * may be -/
abbrev gTm : Type := Nat × List Bool × tY × List Nat × List gN
/-- FACTS, or a TEMPLATE's place; and what is put in, the oldest first -/
abbrev gTy : Type := ((tY × List gFc) ⊕ gTm) × List (gN × gTe)
/-- int, array, list -/
def gMs (y : tY) : Bool := yK y == 2 || yK y == 4 || yK y == 5
def gSy (A : gTy) : tY := match A.1 with
  | .inl x => x.1
  | .inr m => m.2.2.1
/-- a parameter's NAME -/
def mPn (m : gTm) : gN := match m.2.2.2.1 with
  | [] => .inr (m.1, m.2.1)
  | w :: _ => .inl w
def mTk (m : gTm) : gTm := (m.1, m.2.1 ++ [false], yL m.2.2.1, [], m.2.2.2.2)
def mAn (m : gTm) : gTm := (m.1, m.2.1 ++ [true], yR m.2.2.1, m.2.2.2.1.tail, if gMs (yL m.2.2.1) = true then m.2.2.2.2 ++ [mPn m] else m.2.2.2.2)
def gPn (A : gTy) : gN := match A.1 with
  | .inl _ => .inl 0
  | .inr m => mPn m
def gTk (A : gTy) : gTy := match A.1 with
  | .inl _ => A
  | .inr m => (.inr (mTk m), A.2)
def gAn (A : gTy) : gTy := match A.1 with
  | .inl _ => A
  | .inr m => (.inr (mAn m), A.2)
def gPu (A : gTy) (x : gN) (t : gTe) : gTy := (A.1, A.2 ++ [(x, t)])
/-- INSTANCES of the QUALS xs, nq their numbers -/
def gIn (nq : tQ → Int) (xs : List tQ) (y : tY) (S : List gN) : List gFc := xs.flatMap (fun q => if (q.1 = 0 ∧ yK y = 2) ∨ (q.1 = 1 ∧ yK y = 4) ∨ (q.1 = 2 ∧ yK y = 5) then (if q.2.2.2.1 = true then S.map (fun s => (q.2.1, (some (s, if q.2.2.1 = true then -1 else 1), nq q))) else [(q.2.1, (none, nq q))]) else [])
/-- all that a leaf may say -/
def gFa (nq : tQ → Int) (xs : List tQ) (A : gTy) : List gFc := match A.1 with
  | .inl x => x.2
  | .inr m => gIn nq xs m.2.2.1 m.2.2.2.2
/-- a condition: a C and the words that count there, or a list's size -/
abbrev gCd : Type := (tT × List Nat) ⊕ Nat
/-- what is known at a place, the innermost first: measured NAMES, conditions -/
abbrev gEn : Type := (gN × gTy) ⊕ (gCd × Bool)
abbrev gFit : Type := List gEn × gTy × gTy
/-- what must be SO: where, its place, which (0 a C, 1 not 0, 2 not below 0, 3 an index of the array u), the C, the S, the words that count -/
abbrev gNd : Type := List gEn × Nat × Nat × tT × List tP × List Nat × Nat
/-- types of told NAMES, what must FIT, what must be SO -/
abbrev gSt : Type := (Nat → gTy) × List gFit × List gNd
def gTn (w : Nat) (A : gTy) (s : gSt) : gSt := (fun u => if u = w then A else s.1 u, s.2)
def gFt (l : List gFit) (s : gSt) : gSt := (s.1, s.2.1 ++ l, s.2.2)
def gNe (x : gNd) (s : gSt) : gSt := (s.1, s.2.1, s.2.2 ++ [x])
def gNm (x : gN) (A : gTy) (sc : List gEn) : List gEn := if gMs (gSy A) = true then .inl (x, A) :: sc else sc
/-- what * may be, the outermost first -/
def gSs (sc : List gEn) : List gN := (sc.filterMap (fun e => match e with | .inl x => some x.1 | .inr _ => none)).reverse
/-- the other way of the innermost condition -/
def gFl : List gEn → List gEn
  | .inr (c, h) :: r => .inr (c, !h) :: r
  | sc => sc
/-- a TEMPLATE -/
def gTp (key : Nat) (y : tY) (ns : List Nat) (sc : List gEn) : gTy := (.inr (key, [], y, ns, gSs sc), [])
/-- A FITS B, types of the shape y -/
def gFi : tY → gTy → gTy → List gEn → List gFit
  | .leaf, A, B, sc => [(sc, A, B)]
  | .inner k _ _ l r, A, B, sc => if k = 0 then gFi l (gTk B) (gTk A) sc ++ gFi r (if gMs l = true ∧ gPn A ≠ gPn B then gPu (gAn A) (gPn A) (some (gPn B, 1), 0) else gAn A) (gAn B) (gNm (gPn B) (gTk B) sc) else if k = 2 then [] else [(sc, A, B)]
section GEN
variable (T : Nat) (f pp ee : Nat → Int32) (tE tN : Nat → tY)
/-- an S as a term -/
def gOf (env : List Nat) (ps : List tP) : gTe := (match sL (nFind f pp ee env) ps with | [] => none | q :: _ => some (.inl q.1, q.2.toInt), (sPl T f pp ee ps).toInt)
def gTs (env : List Nat) (ps : List tP) : Bool := sTe (sL (nFind f pp ee env) ps)
def gNu (env : List Nat) (w : Nat) : Nat := (nFind f pp ee env w).getD 0
/-- a plain type with one FACT, v = that -/
def gEq (y : tY) (t : gTe) : gTy := (.inl (y, [(0, t)]), [])
def gPl (y : tY) : gTy := (.inl (y, []), [])
/-- of a NAME -/
def gOn (u : Nat) (s : gSt) : gTy := if gMs (gSy (s.1 u)) = true then gEq (gSy (s.1 u)) (some (.inl u, 1), 0) else s.1 u
/-- of an S -/
def gSu (env : List Nat) (ps : List tP) (s : gSt) : gTy := if isN ps = true then gOn (gNu f pp ee env (ps.headD (0, false, 0)).2.2) s else if gTs f pp ee env ps = true then gEq (yB 0) (gOf T f pp ee env ps) else gPl (yB 0)
/-- parameters w, w + 1 .. of a function, A its type -/
def gPa : Nat → Nat → gTy → List gEn → gSt → List gEn × gTy × gSt
  | 0, _, A, sc, s => (sc, A, s)
  | q + 1, w, A, sc, s => gPa q (w + 1) (gAn A) (gNm (.inl w) (gTk A) sc) (gTn w (gTk A) s)
/-- S * S, S / S, S % S -/
def gSg (g : Nat) (env : List Nat) (p1 p2 : List tP) : gTy :=
  if g = 13 ∧ p2.length = 1 ∧ (p2.headD (0, false, 0)).1 = 0 ∧ (p2.headD (0, false, 0)).2.1 = false ∧ 0 < (sPl T f pp ee p2).toInt then (.inl (yB 0, [(4, (none, 0)), (1, (none, (sPl T f pp ee p2).toInt))]), [])
  else if g = 11 ∧ (sL (nFind f pp ee env) p1).length = 0 ∧ (sL (nFind f pp ee env) p2).length = 0 then gEq (yB 0) (none, (sPl T f pp ee p1).toInt * (sPl T f pp ee p2).toInt)
  else gPl (yB 0)
/-- **the type of an E**, with the words env that count, under sc; a call's ARGS (tags 33, 34, 35) go on from the type A -/
def gWk : tT → List Nat → List gEn → gTy → gSt → gSt × gTy
  | .leaf, _, _, A, s => (s, A)
  | .inner g d _ a b, env, sc, A, s =>
    if g = 1 then
      (fun r1 : gSt × gTy => (fun r2 : gSt × gTy => (gFt (gFi (tE d.1) r2.2 (gTp (2 * d.1) (tE d.1) [] sc) (gNm (.inl (d.1 + 1)) r1.2 sc)) r2.1, gTp (2 * d.1) (tE d.1) [] sc)) (gWk b (env ++ [d.1 + 1]) (gNm (.inl (d.1 + 1)) r1.2 sc) A (gTn (d.1 + 1) r1.2 r1.1))) (gWk a env sc A s)
    else if g = 2 then
      (fun F : gTy => (fun p : List gEn × gTy × gSt => (fun r1 : gSt × gTy => (fun r2 : gSt × gTy => (gFt (gFi (tE d.1) r2.2 (gTp (2 * d.1) (tE d.1) [] sc) sc) r2.1, gTp (2 * d.1) (tE d.1) [] sc)) (gWk b (env ++ [d.1 + 2]) sc A (gFt (gFi (gSy p.2.1) r1.2 p.2.1 p.1) r1.1))) (gWk a (env ++ ([d.1 + 2] ++ List.range' (d.1 + 3) d.2.1)) p.1 A p.2.2)) (gPa d.2.1 (d.1 + 3) F sc (gTn (d.1 + 2) F s))) (gTp (2 * d.1 + 1) (tN (d.1 + 2)) (List.range' (d.1 + 3) d.2.1) sc)
    else if g = 3 then
      (fun F : gTy => (fun r : gSt × gTy => (gFt (gFi (yR (tE d.1)) r.2 (gAn F) (gNm (.inl (d.1 + 1)) (gTk F) sc)) r.1, F)) (gWk a (env ++ [d.1 + 1]) (gNm (.inl (d.1 + 1)) (gTk F) sc) A (gTn (d.1 + 1) (gTk F) s))) (gTp (2 * d.1) (tE d.1) [d.1 + 1] sc)
    else if g = 4 then
      ((gWk b env (.inr (.inl (a, env), true) :: sc) (gTp (2 * d.1) (tE d.1) [] sc) s).1, gTp (2 * d.1) (tE d.1) [] sc)
    else if g = 5 then gWk b env (.inr (.inl (a, env), true) :: sc) A (gNe (sc, d.1, 0, a, [], env, 0) s)
    else if g = 6 then gWk a env sc A (gNe (sc, d.1 + 2, 3, .leaf, d.2.2.2.1.2, env, gNu f pp ee env (d.1 + 1)) s)
    else if g = 7 then (gNe (sc, d.1, 2, .leaf, d.2.2.2.1.2, env, 0) s, if gTs f pp ee env d.2.2.2.1.2 = true then gEq (yB 2) (gOf T f pp ee env d.2.2.2.1.2) else gPl (yB 2))
    else if g = 8 ∨ g = 9 then (s, gPl (yB 1))
    else if g = 10 then (s, gSu T f pp ee env d.2.2.2.1.2 s)
    else if g = 11 ∨ g = 12 ∨ g = 13 then (if g = 11 then s else gNe (sc, d.2.1, 1, .leaf, d.2.2.2.2.2, env, 0) s, gSg T f pp ee g env d.2.2.2.1.2 d.2.2.2.2.2)
    else if g = 14 then (gNe (sc, d.1 + 1, 3, .leaf, d.2.2.2.1.2, env, gNu f pp ee env d.1) s, gPl (yB 0))
    else if g = 15 then gWk a env sc (s.1 (gNu f pp ee env d.1)) s
    else if g = 16 then gWk a env sc A s
    else if g = 17 then (s, gEq (yB 3) (none, 0))
    else if g = 18 then (s, gEq (yB 3) (some (.inl (gNu f pp ee env d.2.1), 1), 1))
    else if g = 19 then
      (fun l : Nat => (fun r1 : gSt × gTy => (fun sc2 : List gEn => (fun r2 : gSt × gTy => (gFt (gFi (tE d.1) r2.2 (gTp (2 * d.1) (tE d.1) [] sc) sc2) r2.1, gTp (2 * d.1) (tE d.1) [] sc)) (gWk b (env ++ [d.2.1, d.2.1 + 1]) sc2 A (gTn (d.2.1 + 1) (gEq (yB 3) (some (.inl l, 1), -1)) (gTn d.2.1 (gPl (yB 0)) (gFt (gFi (tE d.1) r1.2 (gTp (2 * d.1) (tE d.1) [] sc) (.inr (.inr l, true) :: sc)) r1.1))))) (gNm (.inl (d.2.1 + 1)) (gEq (yB 3) (some (.inl l, 1), -1)) (gNm (.inl d.2.1) (gPl (yB 0)) (.inr (.inr l, false) :: sc)))) (gWk a env (.inr (.inr l, true) :: sc) A s)) (gNu f pp ee env (d.1 + 1))
    else if g = 31 then
      (fun r1 : gSt × gTy => (fun r2 : gSt × gTy => (gFt (gFi (gSy A) r2.2 A (gFl sc)) r2.1, A)) (gWk b env (gFl sc) A (gFt (gFi (gSy A) r1.2 A sc) r1.1))) (gWk a env sc A s)
    else if g = 33 then
      gWk b env sc (if gMs (yL (gSy A)) = true then gPu (gAn A) (gPn A) (gOf T f pp ee env d.2.2.2.1.2) else gAn A) (gFt (gFi (yL (gSy A)) (gSu T f pp ee env d.2.2.2.1.2 s) (gTk A) sc) s)
    else if g = 34 then
      (fun r : gSt × gTy => gWk b env sc (gAn A) (gFt (gFi (yL (gSy A)) r.2 (gTk A) sc) r.1)) (gWk a env sc A s)
    else if g = 35 then gWk b env sc (gAn A) s
    else (s, A)
end GEN
