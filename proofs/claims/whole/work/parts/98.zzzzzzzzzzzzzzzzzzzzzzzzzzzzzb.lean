/-! run(): one machine for both sides -/
/-- a value: its kind (0 int, 1 truth, 2 array, 3 function, 4 list) and a number -/
abbrev xmV : Type := Nat × Int64
/-- a function: its E, the NAMES that count there and their values, the ARGS it has -/
abbrev xmFn : Type := tT × List Nat × List xmV × List xmV
/-- functions, arrays, lists (first, rest, size) -/
abbrev xmHp : Type := List xmFn × List (List Int64) × List (Int64 × Int64 × Nat)
/-- what waits: a let (its NAME, its second E, what counts), or a call (ARGS left) -/
abbrev xmFr : Type := (Nat × tT × List Nat × List xmV) ⊕ List xmV
/-- heap, what waits, FUEL left, an E to begin or a value -/
abbrev xmM : Type := xmHp × List xmFr × Nat × ((tT × List Nat × List xmV) ⊕ xmV)
def xmNi (n : Nat) : Int64 := (nI n).toInt64
def xmIx (v : Int64) : Nat := v.toNatClampNeg
def xmLn (h : xmHp) (v : Int64) : Nat := (h.2.1.getD (xmIx v) []).length
def xmSz (h : xmHp) (v : Int64) : Nat := if v < 0 then 0 else (h.2.2.getD (xmIx v) (0, 0, 0)).2.2
def xmTot (h : xmHp) : Nat := (h.2.1.map List.length).sum
/-- within 2^40 -/
def xmB (x : Int64) : Bool := decide (-1099511627776 ≤ x.toInt ∧ x.toInt ≤ 1099511627776)
def xmDp (fr : List xmFr) : Nat := (fr.filter (fun x => x.isRight)).length
def xmCm (r : Nat) (a b : Int64) : Bool := if r = 0 then decide (a = b) else if r = 1 then decide (a < b) else if r = 2 then decide (a ≤ b) else if r = 3 then decide (b < a) else if r = 4 then decide (b ≤ a) else decide (a ≠ b)
section XMDA
variable (T : Nat) (f pp ee : Nat → Int32)
/-- the value of the NAME at word w -/
def xmGet (env : List Nat) (vs : List xmV) (w : Nat) : xmV := vs.getD (env.idxOf (gNu f pp ee env w)) (0, 0)
/-- a PART -/
def xmPt (h : xmHp) (env : List Nat) (vs : List xmV) (p : tP) : Int64 := if p.1 = 0 then (nW T f pp ee p.2.2).toInt64 else if p.1 = 1 then (xmGet f pp ee env vs p.2.2).2 else if p.1 = 2 then xmNi (xmLn h (xmGet f pp ee env vs p.2.2).2) else xmNi (xmSz h (xmGet f pp ee env vs p.2.2).2)
/-- an S -/
def xmSm (h : xmHp) (env : List Nat) (vs : List xmV) (ps : List tP) : Int64 := ps.foldl (fun x p => x + (sg p.2.1).toInt64 * xmPt T f pp ee h env vs p) 0
/-- a C; none: too much -/
def xmC (h : xmHp) (env : List Nat) (vs : List xmV) : tT → Nat → Option Bool
  | .leaf, gl => some (decide (gl = 21))
  | .inner g d _ a b, gl =>
    if g = 20 then (match xmC h env vs a 0 with | some false => xmC h env vs b 20 | x => x)
    else if g = 21 then (match xmC h env vs a 0 with | some true => xmC h env vs b 21 | x => x)
    else if g = 30 then (match xmC h env vs a 0 with | none => none | some c => if c = decide (gl = 21) then xmC h env vs b gl else some c)
    else if g = 22 then (xmC h env vs a 0).map (fun c => !c)
    else if g = 23 then some (decide (d.2.1 = 1))
    else if g = 24 then some (decide ((xmGet f pp ee env vs d.1).2 ≠ 0))
    else if xmB (xmSm T f pp ee h env vs d.2.2.2.1.2) = true then (if xmB (xmSm T f pp ee h env vs d.2.2.2.2.2) = true then some (xmCm d.2.2.1 (xmSm T f pp ee h env vs d.2.2.2.1.2) (xmSm T f pp ee h env vs d.2.2.2.2.2)) else none)
    else none
/-- how many parameters -/
def xmWa (t : tT) : Nat := match t with
  | .leaf => 0
  | .inner g d _ _ _ => if g = 3 then 1 else d.2.1
def xmPa (t : tT) : List Nat := match t with
  | .leaf => []
  | .inner g d _ _ _ => if g = 3 then [d.1 + 1] else List.range' (d.1 + 3) d.2.1
def xmBo (t : tT) : tT := match t with
  | .leaf => .leaf
  | .inner _ _ _ a _ => a
/-- a new function -/
def xmNf (h : xmHp) (fn : xmFn) : xmHp := (h.1 ++ [fn], h.2)
def xmFv (h : xmHp) : xmV := (3, xmNi h.1.length)
/-- ARGS -/
def xmAg (env : List Nat) (vs : List xmV) : tT → xmHp → Nat → (Nat × Nat) ⊕ (xmHp × Nat × List xmV)
  | .leaf, h, n => .inr (h, n, [])
  | .inner g d _ a b, h, n =>
    if g = 33 then
      (if isN d.2.2.2.1.2 = true then (match xmAg env vs b h n with | .inl c => .inl c | .inr r => .inr (r.1, r.2.1, xmGet f pp ee env vs (d.2.2.2.1.2.headD (0, false, 0)).2.2 :: r.2.2))
      else if xmB (xmSm T f pp ee h env vs d.2.2.2.1.2) = true then (match xmAg env vs b h n with | .inl c => .inl c | .inr r => .inr (r.1, r.2.1, (0, xmSm T f pp ee h env vs d.2.2.2.1.2) :: r.2.2)) else .inl (2, n))
    else if g = 34 then
      (match n with | 0 => .inl (1, 0) | n + 1 => match xmAg env vs b (xmNf h (a, env, vs, [])) n with | .inl c => .inl c | .inr r => .inr (r.1, r.2.1, xmFv h :: r.2.2))
    else (match xmAg env vs b h n with | .inl c => .inl c | .inr r => .inr (r.1, r.2.1, (1, xmNi d.2.1) :: r.2.2))
/-- a function and ARGS -/
def xmAp (h : xmHp) (fr : List xmFr) (n : Nat) (v : xmV) (rest : List xmV) : (Nat × Nat) ⊕ xmM :=
  (fun fn : xmFn => if fn.2.2.2.length + rest.length < xmWa fn.1 then .inr (xmNf h (fn.1, fn.2.1, fn.2.2.1, fn.2.2.2 ++ rest), fr, n, .inr (xmFv h))
    else if xmDp fr = 50 then .inl (2, n)
    else .inr (h, .inr (rest.drop (xmWa fn.1 - fn.2.2.2.length)) :: fr, n, .inl (xmBo fn.1, fn.2.1 ++ xmPa fn.1, fn.2.2.1 ++ (fn.2.2.2 ++ rest.take (xmWa fn.1 - fn.2.2.2.length))))) (h.1.getD (xmIx v.2) (.leaf, [], [], []))
/-- **an E begins** -/
def xmBg (h : xmHp) (fr : List xmFr) (n : Nat) (env : List Nat) (vs : List xmV) (t : tT) : (Nat × Nat) ⊕ xmM := match t with
  | .leaf => .inl (0, n)
  | .inner g d z a b =>
    if g = 1 then .inr (h, .inl (d.1 + 1, b, env, vs) :: fr, n, .inl (a, env, vs))
    else if g = 2 then .inr (xmNf h (.inner g d z a b, env ++ [d.1 + 2], vs ++ [xmFv h], []), fr, n, .inl (b, env ++ [d.1 + 2], vs ++ [xmFv h]))
    else if g = 3 then .inr (xmNf h (.inner g d z a b, env, vs, []), fr, n, .inr (xmFv h))
    else if g = 4 then (match xmC T f pp ee h env vs a 0 with | none => .inl (2, n) | some c => .inr (h, fr, n, .inl (match b with | .inner _ _ _ x y => if c = true then x else y | .leaf => .leaf, env, vs)))
    else if g = 5 then (match xmC T f pp ee h env vs a 0 with | none => .inl (2, n) | some c => if c = true then .inr (h, fr, n, .inl (b, env, vs)) else .inl (3, n))
    else if g = 6 then
      (if xmB (xmSm T f pp ee h env vs d.2.2.2.1.2) = true then
        (if 0 ≤ xmSm T f pp ee h env vs d.2.2.2.1.2 ∧ xmSm T f pp ee h env vs d.2.2.2.1.2 < xmNi (xmLn h (xmGet f pp ee env vs (d.1 + 1)).2) then
          (if xmB (xmSm T f pp ee h env vs d.2.2.2.2.2) = true then .inr ((h.1, h.2.1.set (xmIx (xmGet f pp ee env vs (d.1 + 1)).2) ((h.2.1.getD (xmIx (xmGet f pp ee env vs (d.1 + 1)).2) []).set (xmIx (xmSm T f pp ee h env vs d.2.2.2.1.2)) (xmSm T f pp ee h env vs d.2.2.2.2.2)), h.2.2), fr, n, .inl (a, env, vs)) else .inl (2, n))
        else .inl (5, n))
      else .inl (2, n))
    else if g = 7 then
      (if xmB (xmSm T f pp ee h env vs d.2.2.2.1.2) = true then
        (if xmSm T f pp ee h env vs d.2.2.2.1.2 < 0 then .inl (6, n)
        else if 1000 < xmSm T f pp ee h env vs d.2.2.2.1.2 ∨ 10000 < xmTot h + xmIx (xmSm T f pp ee h env vs d.2.2.2.1.2) then .inl (2, n)
        else .inr ((h.1, h.2.1 ++ [List.replicate (xmIx (xmSm T f pp ee h env vs d.2.2.2.1.2)) 0], h.2.2), fr, n, .inr (2, xmNi h.2.1.length)))
      else .inl (2, n))
    else if g = 8 then .inr (h, fr, n, .inr (1, 1))
    else if g = 9 then .inr (h, fr, n, .inr (1, 0))
    else if g = 10 then
      (if isN d.2.2.2.1.2 = true then .inr (h, fr, n, .inr (xmGet f pp ee env vs (d.2.2.2.1.2.headD (0, false, 0)).2.2))
      else if xmB (xmSm T f pp ee h env vs d.2.2.2.1.2) = true then .inr (h, fr, n, .inr (0, xmSm T f pp ee h env vs d.2.2.2.1.2)) else .inl (2, n))
    else if g = 11 ∨ g = 12 ∨ g = 13 then
      (if xmB (xmSm T f pp ee h env vs d.2.2.2.1.2) = true ∧ xmB (xmSm T f pp ee h env vs d.2.2.2.2.2) = true then
        (if g = 11 then (if ((xmSm T f pp ee h env vs d.2.2.2.1.2).toInt * (xmSm T f pp ee h env vs d.2.2.2.2.2).toInt).natAbs ≤ 1099511627776 then .inr (h, fr, n, .inr (0, xmSm T f pp ee h env vs d.2.2.2.1.2 * xmSm T f pp ee h env vs d.2.2.2.2.2)) else .inl (2, n))
        else if xmSm T f pp ee h env vs d.2.2.2.2.2 = 0 then .inl (4, n)
        else .inr (h, fr, n, .inr (0, Int64.ofInt (if g = 12 then (xmSm T f pp ee h env vs d.2.2.2.1.2).toInt.fdiv (xmSm T f pp ee h env vs d.2.2.2.2.2).toInt else (xmSm T f pp ee h env vs d.2.2.2.1.2).toInt.fmod (xmSm T f pp ee h env vs d.2.2.2.2.2).toInt))))
      else .inl (2, n))
    else if g = 14 then
      (if xmB (xmSm T f pp ee h env vs d.2.2.2.1.2) = true then
        (if 0 ≤ xmSm T f pp ee h env vs d.2.2.2.1.2 ∧ xmSm T f pp ee h env vs d.2.2.2.1.2 < xmNi (xmLn h (xmGet f pp ee env vs d.1).2) then .inr (h, fr, n, .inr (0, (h.2.1.getD (xmIx (xmGet f pp ee env vs d.1).2) []).getD (xmIx (xmSm T f pp ee h env vs d.2.2.2.1.2)) 0))
        else .inl (5, n))
      else .inl (2, n))
    else if g = 15 then (match xmAg T f pp ee env vs a h n with | .inl c => .inl c | .inr r => xmAp r.1 fr r.2.1 (xmGet f pp ee env vs d.1) r.2.2)
    else if g = 16 then .inr (h, fr, n, .inl (a, env, vs))
    else if g = 17 then .inr (h, fr, n, .inr (4, -1))
    else if g = 18 then
      (if xmB (xmSm T f pp ee h env vs d.2.2.2.1.2) = true then .inr ((h.1, h.2.1, h.2.2 ++ [(xmSm T f pp ee h env vs d.2.2.2.1.2, (xmGet f pp ee env vs d.2.1).2, xmSz h (xmGet f pp ee env vs d.2.1).2 + 1)]), fr, n, .inr (4, xmNi h.2.2.length)) else .inl (2, n))
    else
      (if (xmGet f pp ee env vs (d.1 + 1)).2 < 0 then .inr (h, fr, n, .inl (a, env, vs))
      else .inr (h, fr, n, .inl (b, env ++ [d.2.1, d.2.1 + 1], vs ++ [(0, (h.2.2.getD (xmIx (xmGet f pp ee env vs (d.1 + 1)).2) (0, 0, 0)).1), (4, (h.2.2.getD (xmIx (xmGet f pp ee env vs (d.1 + 1)).2) (0, 0, 0)).2.1)])))
/-- **one step**: an end's number, or what is next -/
def xmSt (m : xmM) : (Nat × Nat) ⊕ xmM := match m with
  | (h, fr, 0, .inl _) => .inl (1, 0)
  | (h, fr, n + 1, .inl (t, env, vs)) => xmBg T f pp ee h fr n env vs t
  | (h, [], n, .inr v) => .inl (0, n)
  | (h, .inl (u, b, env, vs) :: fr, n, .inr v) => .inr (h, fr, n, .inl (b, env ++ [u], vs ++ [v]))
  | (h, .inr [] :: fr, n, .inr v) => .inr (h, fr, n, .inr v)
  | (h, .inr (x :: rest) :: fr, n, .inr v) => xmAp h fr n v (x :: rest)
end XMDA
