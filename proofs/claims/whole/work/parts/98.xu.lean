/-! the tree, and how it is read out of the words' kinds: one function for both sides -/
/-- what a reading gives: a fault at word j, or something and the word behind it -/
abbrev aR (α : Type) : Type := Sum Nat (α × Nat)
def aR.on {α β : Type} (r : aR α) (f : α → Nat → aR β) : aR β := match r with
  | .inl j => .inl j
  | .inr (a, i) => f a i
/-- a PART: its kind (0 number, 1 name, 2 len, 3 size), whether - stands ahead, its word -/
abbrev tP : Type := Nat × Bool × Nat
/-- an S: its first word, its PARTS -/
abbrev tS : Type := Nat × List tP
/-- a tree: a tag, three numbers, two S, two trees below -/
abbrev tT : Type := Std.DTreeMap.Internal.Impl (Nat × Nat × Nat × tS × tS) (fun _ => Unit)
abbrev tZ : tT := .leaf
abbrev tN (g i j q : Nat) (s s' : tS) (a b : tT) : tT := .inner g (i, j, q, s, s') () a b
abbrev s0 : tS := (0, [])
section ATR
variable (kk : Nat → Int32) (T : Nat)
/-- the word at i has this code -/
def aIs (k i : Nat) : Bool := decide (kk i = nI k)
/-- this word must stand here -/
def aMs (k i : Nat) : aR Unit := if aIs kk k i = true then .inr ((), i + 1) else .inl i
/-- a PART -/
def aPt (g : Bool) (i : Nat) : aR tP :=
  if aIs kk 211 i = true then (aMs kk 1 (i + 1)).on fun _ j => .inr ((2, g, i + 1), j)
  else if aIs kk 221 i = true then (aMs kk 1 (i + 1)).on fun _ j => .inr ((3, g, i + 1), j)
  else if aIs kk 2 i = true then .inr ((0, g, i), i + 1)
  else (aMs kk 1 i).on fun _ j => .inr ((1, g, i), j)
/-- the PARTS behind the first -/
def aSL : Nat → Nat → aR (List tP)
  | 0, i => .inl i
  | t + 1, i => if (aIs kk 43 i || aIs kk 45 i) = true then (aPt kk (aIs kk 45 i) (i + 1)).on fun p j => (aSL t j).on fun ps j' => .inr (p :: ps, j') else .inr ([], i)
/-- an S -/
def aSm (i : Nat) : aR tS := (aPt kk (aIs kk 45 i) (if aIs kk 45 i = true then i + 1 else i)).on fun p j => (aSL kk T j).on fun ps j' => .inr ((i, p :: ps), j')
/-- the number of the REL at i, or 6 -/
def aRl (i : Nat) : Nat := if aIs kk 61 i = true then 0 else if aIs kk 60 i = true then 1 else if aIs kk 300 i = true then 2 else if aIs kk 62 i = true then 3 else if aIs kk 301 i = true then 4 else if aIs kk 35 i = true then 5 else 6
/-- those behind the first, each behind the sign k -/
def aCL (k : Nat) (g : Nat → aR tT) : Nat → Nat → aR tT
  | 0, i => .inl i
  | t + 1, i => if aIs kk k i = true then (g (i + 1)).on fun c j => (aCL k g t j).on fun cs j' => .inr (tN 30 0 0 0 s0 s0 c cs, j') else .inr (tZ, i)
/-- a C of one, or of more than one under a tag -/
def tMk (g : Nat) (a : tT) : tT → tT
  | .leaf => a
  | bs => tN g 0 0 0 s0 s0 a bs
def aBo (g : Nat → aR tT) (i : Nat) : aR tT := (g i).on fun c j => (aCL kk 302 g T j).on fun cs j' => .inr (tMk 21 c cs, j')
def aEi (g : Nat → aR tT) (i : Nat) : aR tT := (aBo kk T g i).on fun c j => (aCL kk 303 (aBo kk T g) T j).on fun cs j' => .inr (tMk 20 c cs, j')
/-- a comparison, or a NAME alone -/
def aCm (i : Nat) : aR tT := (aSm kk T i).on fun s j =>
  if aRl kk j < 6 then (aSm kk T (j + 1)).on fun s' j' => .inr (tN 25 i j (aRl kk j) s s' tZ tZ, j')
  else if s.2 = [(1, false, i)] then .inr (tN 24 i 0 0 s0 s0 tZ tZ, j) else .inl j
/-- a C without && and ||, so many levels left -/
def aSi : Nat → Nat → aR tT
  | 0, i => .inl i
  | k + 1, i =>
    if aIs kk 217 i = true then (aSi k (i + 1)).on fun c j => .inr (tN 22 i 0 0 s0 s0 c tZ, j)
    else if aIs kk 40 i = true then (aEi kk T (aSi k) (i + 1)).on fun c j => (aMs kk 41 j).on fun _ j' => .inr (c, j')
    else if aIs kk 223 i = true then .inr (tN 23 i 1 0 s0 s0 tZ tZ, i + 1)
    else if aIs kk 205 i = true then .inr (tN 23 i 0 0 s0 s0 tZ tZ, i + 1)
    else aCm kk T i
/-- does an ARG begin here -/
def aAr (i : Nat) : Bool := aIs kk 1 i || aIs kk 2 i || aIs kk 40 i || aIs kk 223 i || aIs kk 205 i
/-- an ARG that begins here (rest: what stands behind it) -/
def aA1 (g : Nat → aR tT) (i : Nat) : aR (tT → tT) :=
  if aIs kk 223 i = true then .inr (tN 35 i 1 0 s0 s0 tZ, i + 1)
  else if aIs kk 205 i = true then .inr (tN 35 i 0 0 s0 s0 tZ, i + 1)
  else if aIs kk 40 i = true then
    (if aIs kk 206 (i + 1) = true then (g (i + 1)).on fun e j => (aMs kk 41 j).on fun _ j' => .inr (tN 34 i 0 0 s0 s0 e, j')
    else (aSm kk T (i + 1)).on fun s j => (aMs kk 41 j).on fun _ j' => .inr (tN 33 i 1 0 s s0 tZ, j'))
  else .inr (tN 33 i 0 0 (i, [(if aIs kk 2 i = true then 0 else 1, false, i)]) s0 tZ, i + 1)
/-- at most q ARGS more; one more is a fault -/
def aAs (g : Nat → aR tT) : Nat → Nat → aR tT
  | 0, i => if aAr kk i = true then .inl i else .inr (tZ, i)
  | q + 1, i => if aAr kk i = true then (aA1 kk T g i).on fun a j => (aAs g q j).on fun as j' => .inr (a as, j') else .inr (tZ, i)
/-- how many NAMES stand here, at most q -/
def aPs : Nat → Nat → Nat
  | 0, _ => 0
  | q + 1, i => if aIs kk 1 i = true then aPs q (i + 1) + 1 else 0
/-- an S, or two with a sign -/
def aOq (i : Nat) : aR tT := (aSm kk T i).on fun s j =>
    if aIs kk 42 j = true then (aSm kk T (j + 1)).on fun s' j' => .inr (tN 11 i j 0 s s' tZ tZ, j')
    else if aIs kk 47 j = true then (aSm kk T (j + 1)).on fun s' j' => .inr (tN 12 i j 0 s s' tZ tZ, j')
    else if aIs kk 37 j = true then (aSm kk T (j + 1)).on fun s' j' => .inr (tN 13 i j 0 s s' tZ tZ, j')
    else .inr (tN 10 i 0 0 s s0 tZ tZ, j)
/-- an E that no keyword begins -/
def aOp (g : Nat → aR tT) (i : Nat) : aR tT :=
  if (aIs kk 1 i && aIs kk 91 (i + 1)) = true then (aSm kk T (i + 2)).on fun s j => (aMs kk 93 j).on fun _ j' => .inr (tN 14 i 0 0 s s0 tZ tZ, j')
  else if (aIs kk 1 i && aAr kk (i + 1)) = true then (aAs kk T g 4 (i + 1)).on fun as j => .inr (tN 15 i 0 0 s0 s0 as tZ, j)
  else aOq kk T i
/-- the rest of a let: = E in E -/
def aLt (g : Nat → aR tT) (mk : tT → tT → tT) (i : Nat) : aR tT := (aMs kk 61 i).on fun _ i1 => (g i1).on fun a i2 => (aMs kk 208 i2).on fun _ i3 => (g i3).on fun b i4 => .inr (mk a b, i4)
def aRc (g : Nat → aR tT) (i : Nat) : aR tT := (aMs kk 1 (i + 2)).on fun _ i1 => if aIs kk 1 i1 = true then aLt kk g (tN 2 i (aPs kk 4 i1) 0 s0 s0) (i1 + aPs kk 4 i1) else .inl i1
def aFn (g : Nat → aR tT) (i : Nat) : aR tT := (aMs kk 1 (i + 1)).on fun _ i1 => (aMs kk 304 i1).on fun _ i2 => (g i2).on fun a i3 => .inr (tN 3 i 0 0 s0 s0 a tZ, i3)
def aIf (g h : Nat → aR tT) (i : Nat) : aR tT := (aEi kk T h (i + 1)).on fun c i1 => (aMs kk 222 i1).on fun _ i2 => (g i2).on fun a i3 => (aMs kk 204 i3).on fun _ i4 => (g i4).on fun b i5 => .inr (tN 4 i 0 0 s0 s0 c (tN 31 0 0 0 s0 s0 a b), i5)
def aAt (g h : Nat → aR tT) (i : Nat) : aR tT := (aEi kk T h (i + 1)).on fun c i1 => (aMs kk 59 i1).on fun _ i2 => (g i2).on fun a i3 => .inr (tN 5 i 0 0 s0 s0 c a, i3)
def aSe (g : Nat → aR tT) (i : Nat) : aR tT := (aMs kk 1 (i + 1)).on fun _ i1 => (aMs kk 91 i1).on fun _ i2 => (aSm kk T i2).on fun s i3 => (aMs kk 93 i3).on fun _ i4 => (aMs kk 61 i4).on fun _ i5 => (aSm kk T i5).on fun s' i6 => (aMs kk 59 i6).on fun _ i7 => (g i7).on fun a i8 => .inr (tN 6 i 0 0 s s' a tZ, i8)
def aMt (g : Nat → aR tT) (i : Nat) : aR tT :=
  (aMs kk 1 (i + 1)).on fun _ i1 => (aMs kk 225 i1).on fun _ i2 => (aMs kk 216 i2).on fun _ i3 => (aMs kk 304 i3).on fun _ i4 => (g i4).on fun a i5 => (aMs kk 59 i5).on fun _ i6 => (aMs kk 1 i6).on fun _ i7 => (aMs kk 1 i7).on fun _ i8 => (aMs kk 304 i8).on fun _ i9 => (g i9).on fun b i10 => .inr (tN 19 i i6 0 s0 s0 a b, i10)
/-- an E, so many levels left -/
def aE : Nat → Nat → aR tT
  | 0, i => .inl i
  | k + 1, i =>
    if aIs kk 212 i = true then (if aIs kk 219 (i + 1) = true then aRc kk (aE k) i else (aMs kk 1 (i + 1)).on fun _ i1 => aLt kk (aE k) (tN 1 i 0 0 s0 s0) i1)
    else if aIs kk 206 i = true then aFn kk (aE k) i
    else if aIs kk 207 i = true then aIf kk T (aE k) (aSi kk T (k + 1)) i
    else if aIs kk 201 i = true then aAt kk T (aE k) (aSi kk T (k + 1)) i
    else if aIs kk 220 i = true then aSe kk T (aE k) i
    else if aIs kk 215 i = true then (aSm kk T (i + 1)).on fun s i1 => .inr (tN 7 i 0 0 s s0 tZ tZ, i1)
    else if aIs kk 216 i = true then .inr (tN 17 i 0 0 s0 s0 tZ tZ, i + 1)
    else if aIs kk 203 i = true then (aSm kk T (i + 1)).on fun s i1 => (aMs kk 1 i1).on fun _ i2 => .inr (tN 18 i i1 0 s s0 tZ tZ, i2)
    else if aIs kk 214 i = true then aMt kk (aE k) i
    else if aIs kk 223 i = true then .inr (tN 8 i 0 0 s0 s0 tZ tZ, i + 1)
    else if aIs kk 205 i = true then .inr (tN 9 i 0 0 s0 s0 tZ tZ, i + 1)
    else if aIs kk 40 i = true then (aE k (i + 1)).on fun a i1 => (aMs kk 41 i1).on fun _ i2 => .inr (tN 16 i 0 0 s0 s0 a tZ, i2)
    else aOp kk T (aE k) i
end ATR
/-- the word where a reading stands, or its fault -/
def aR.st {α : Type} (r : aR α) : Sum Nat Nat := match r with
  | .inl j => .inl j
  | .inr (_, i) => .inr i
/-- a reading from where another stands -/
def aTo {α : Type} (s : Sum Nat Nat) (f : Nat → aR α) : Sum Nat Nat := match s with
  | .inl j => .inl j
  | .inr i => (f i).st
theorem aTo_bad {α : Type} (j : Nat) (f : Nat → aR α) : aTo (.inl j) f = .inl j := rfl
theorem aTo_ok {α : Type} (i : Nat) (f : Nat → aR α) : aTo (.inr i) f = (f i).st := rfl
