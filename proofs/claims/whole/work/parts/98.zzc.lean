/-! a tree of E: NAMES, functions, forms over it, and the class's cells of it -/
/-- the object that the NAME at w means -/
def nR (f pp ee : Nat → Int32) (nm : Nat → Option Nat) (env : List Nat) (w : Nat) : Option Nat := (nFind f pp ee env w).bind nm
theorem nRes_R (f pp ee : Nat → Int32) (nm : Nat → Option Nat) (ν : nSt) : nRes f pp ee nm ν = nR f pp ee nm ν.1 := rfl
theorem nR_cg {f pp ee : Nat → Int32} {nm nm' : Nat → Option Nat} {env : List Nat} (h : ∀ u ∈ env, nm' u = nm u) : nR f pp ee nm' env = nR f pp ee nm env := by
  funext w
  unfold nR
  cases e : nFind f pp ee env w with
  | none => rfl
  | some u =>
    obtain ⟨k, -, hk⟩ := nFind_mem e
    exact h u (List.mem_of_getElem? hk)
section TRE
variable (f pp ee : Nat → Int32)
/-- q NAMES from word w on are told and count -/
def nPar : Nat → Nat → nSt → nSt
  | 0, _, ν => ν
  | q + 1, w, ν => nPar q (w + 1) (nCnt w (nTell f pp ee w ν))
/-- NAMES over an E -/
def nT : tT → nSt → nSt
  | .leaf, ν => ν
  | .inner g d _ a b, ν =>
    if g = 1 then nOff 1 (nT b (nCnt (d.1 + 1) (nT a (nTell f pp ee (d.1 + 1) ν))))
    else if g = 2 then nOff 1 (nT b (nOff d.2.1 (nT a (nPar f pp ee d.2.1 (d.1 + 3) (nPar f pp ee 1 (d.1 + 2) ν)))))
    else if g = 3 then nOff 1 (nT a (nPar f pp ee 1 (d.1 + 1) ν))
    else if g = 4 ∨ g = 5 then nT b (nCt f pp ee a ν)
    else if g = 6 then nT a (nPs f pp ee d.2.2.2.2.2 (nPs f pp ee d.2.2.2.1.2 (nUse f pp ee (d.1 + 1) ν)))
    else if g = 14 then nPs f pp ee d.2.2.2.1.2 (nUse f pp ee d.1 ν)
    else if g = 15 then nT a (nUse f pp ee d.1 ν)
    else if g = 18 then nUse f pp ee d.2.1 (nPs f pp ee d.2.2.2.1.2 ν)
    else if g = 19 then nOff 2 (nT b (nPar f pp ee 2 d.2.1 (nT a (nUse f pp ee (d.1 + 1) ν))))
    else nT b (nT a (nPs f pp ee d.2.2.2.2.2 (nPs f pp ee d.2.2.2.1.2 ν)))
/-- forms over an E -/
def fE : tT → List Nat → Int32 → Int32 → Int32
  | .leaf, _, _, ff => ff
  | .inner g d _ a b, env, cn, ff =>
    if g = 1 then fE b (env ++ [d.1 + 1]) cn (fE a env cn ff)
    else if g = 2 then fE b (env ++ [d.1 + 2]) cn (fE a (env ++ ([d.1 + 2] ++ List.range' (d.1 + 3) d.2.1)) cn ff)
    else if g = 3 then fE a (env ++ [d.1 + 1]) cn ff
    else if g = 4 ∨ g = 5 then fE b env (cn + nI (tAt a)) (if cn + nI (tAt a) ≤ 6 then fCt pp (nFind f pp ee env) a ff else fMin (fCt pp (nFind f pp ee env) a ff) (pp (d.1 + 1)))
    else if g = 19 then fE b (env ++ [d.2.1, d.2.1 + 1]) cn (fE a env cn ff)
    else if g = 33 then fE b env cn (if d.2.1 = 1 ∧ ¬ sTe (sL (nFind f pp ee env) d.2.2.2.1.2) = true then fMin ff (pp d.1) else ff)
    else fE b env cn (fE a env cn ff)
end TRE
/-- how many functions -/
def nF : tT → Nat
  | .leaf => 0
  | .inner g _ _ a b => (if g = 2 ∨ g = 3 then 1 else 0) + (if g = 4 ∨ g = 5 then 0 else nF a) + nF b
/-- the words that tell NAMES -/
def tW : tT → List Nat
  | .leaf => []
  | .inner g d _ a b =>
    if g = 1 then (d.1 + 1) :: (tW a ++ tW b)
    else if g = 2 then (d.1 + 2) :: (List.range' (d.1 + 3) d.2.1 ++ (tW a ++ tW b))
    else if g = 3 then (d.1 + 1) :: tW a
    else if g = 4 ∨ g = 5 then tW b
    else if g = 6 ∨ g = 15 then tW a
    else if g = 14 ∨ g = 18 then []
    else if g = 19 then tW a ++ ([d.2.1, d.2.1 + 1] ++ tW b)
    else tW a ++ tW b
/-- a node's fields -/
def cEn (k pl cd mk np nu : Int32) (na to ns fi se te le ri ne pa : Value) : List Value := [.int k, .int pl, .int cd, .int mk, .int np, .int 0, .int 0, .int nu, .int 0, na, to, ns, fi, se, te, le, ri, ne, pa, .null, .null]
section TRC
variable (κ : oKv) (T : Nat) (kk pp ee f : Nat → Int32) (A : Nat → Nat) (D : cDt) (lo : Nat) (σ : oSt) (nm : Nat → Option Nat)
/-- the object of the NAME told at word u; k NAMES counted before it -/
def cNx (u k b : Nat) : Prop := nm u = some b ∧ cOk A D lo σ b ∧ ∃ q, σ.1 b = some (.inr (6, (cNa q).set 1 (.int (nI k))))
/-- q NAMES from word w on in a list; k counted before -/
def cNl (pa w q k : Nat) : Prop := ∃ d cap mc g, cLs κ σ pa d cap q mc g 6 ∧ (cOk A D lo σ d ∨ (d = κ.2.2.1 ∧ σ.1 d = none)) ∧ cOk A D lo σ pa ∧ ∀ x, x < q → ∃ b, g x = some b ∧ cNx A D lo σ nm (w + x) (k + x) b
/-- an S with a mark -/
def cSq (e : Nat) (mk : Int32) (cd : Nat) (ns : Nat → Option Nat) (s : tS) (al : Int32) (su : Nat) : Prop := ∃ pa na ta cap pc, σ.1 e = some (.inr (7, (cSf (pp s.1) (nI cd) al (sLn ns s.2) pa su).set 3 (.int mk))) ∧
  (∃ d mc g, cLs κ σ pa d pc (sNm s.2).length mc g 7 ∧ (∀ k p, (sNm s.2)[k]? = some p → ∃ a, g k = some a ∧ a ≠ e ∧ cOk A D lo σ a ∧ σ.1 a = some (.inr (7, cPf pp ns cd p))) ∧ (cOk A D lo σ d ∨ (d = κ.2.2.1 ∧ σ.1 d = none))) ∧
  cSm σ su na ta cap (sL ns s.2) (sPl T (fun j => f j &&& 255) pp ee s.2) ∧ (cOk A D lo σ e ∧ cOk A D lo σ pa ∧ cOk A D lo σ su ∧ cOk A D lo σ na ∧ cOk A D lo σ ta)
/-- a comparison of a sum with 0 -/
def cCq (c su : Nat) (cd : Nat) (rl : Int32) : Prop := cOk A D lo σ c ∧ ∃ pl, σ.1 c = some (.inr (7, cEf pl (nI cd) rl (.ref su)))
/-- a NAME, if there is one, into a sum -/
def sNo (r : Option Nat) (v : Int32) (L : List (Nat × Int32)) : List (Nat × Int32) := match r with
  | some b => sAdd L b v
  | none => L
/-- what must be so of an index -/
def cIn (nd su : Nat) (cd : Nat) (ns : Nat → Option Nat) (w : Nat) (s : tS) : Prop := cOk A D lo σ nd ∧ ∃ pl pa g x y bs na ta cap, σ.1 nd = some (.inr (7, cLf 302 pl (nI cd) pa)) ∧ cLn κ A D lo σ pa 2 g ∧ g 0 = some x ∧ g 1 = some y ∧ cCq A D lo σ x su cd 301 ∧ cCq A D lo σ y bs cd 60 ∧ cSm σ bs na ta cap (sNo (ns w) (-1) (sAll 1 (sL ns s.2) [])) (0 + (1 : Int32).toInt64 * sPl T (fun j => f j &&& 255) pp ee s.2) ∧ cOk A D lo σ bs ∧ cOk A D lo σ na ∧ cOk A D lo σ ta
end TRC
section TRD
variable (κ : oKv) (T : Nat) (kk pp ee f : Nat → Int32) (A : Nat → Nat) (D : cDt)
/-- the cells of an E -/
def cTr (lo : Nat) (σ : oSt) (nm : Nat → Option Nat) : tT → List Nat → Nat → (Nat → Option Nat) → Nat → Nat → Prop
  | .leaf, _, _, _, k, m => k = m
  | .inner n d _ a b, env, fk, g, k, m => match n with
    | 1 => cOk A D lo σ m ∧ ∃ x y w, σ.1 m = some (.inr (7, cEn 212 (pp d.1) (nI env.length) (pp d.1) 0 0 .null (.ref w) .null (.ref x) (.ref y) .null .null .null .null .null)) ∧ cNx A D lo σ nm (d.1 + 1) env.length w ∧ cTr lo σ nm a env fk (fun _ => none) 0 x ∧ cTr lo σ nm b (env ++ [d.1 + 1]) (fk + nF a) (fun _ => none) 0 y
    | 2 => cOk A D lo σ m ∧ ∃ x y w q, σ.1 m = some (.inr (7, cEn 219 (pp d.1) (nI env.length) (pp d.1) 0 (nI fk) .null (.ref w) (.ref q) (.ref x) (.ref y) .null .null .null .null .null)) ∧ D.2.2.2 fk = some m ∧ cNx A D lo σ nm (d.1 + 2) env.length w ∧ cNl κ A D lo σ nm q (d.1 + 3) d.2.1 (env.length + 1) ∧ cTr lo σ nm a (env ++ ([d.1 + 2] ++ List.range' (d.1 + 3) d.2.1)) (fk + 1) (fun _ => none) 0 x ∧ cTr lo σ nm b (env ++ [d.1 + 2]) (fk + 1 + nF a) (fun _ => none) 0 y
    | 3 => cOk A D lo σ m ∧ ∃ x q mk, σ.1 m = some (.inr (7, cEn 206 (pp d.1) (nI env.length) mk 0 (nI fk) .null .null (.ref q) (.ref x) .null .null .null .null .null .null)) ∧ D.2.2.2 fk = some m ∧ cNl κ A D (m + 1) σ nm q (d.1 + 1) 1 env.length ∧ cTr (m + 1) σ nm a (env ++ [d.1 + 1]) (fk + 1) (fun _ => none) 0 x
    | 4 => cOk A D lo σ m ∧ ∃ c x y, σ.1 m = some (.inr (7, cEn 207 (pp d.1) (nI env.length) (pp d.1) 0 0 .null .null .null (.ref x) (.ref y) (.ref c) .null .null .null .null)) ∧ cCt κ T kk pp ee f A D lo σ env.length (nR f pp ee nm env) a (fun _ => none) 0 c ∧ cTr lo σ nm b env fk (fun _ => some x) 0 y
    | 5 => cOk A D lo σ m ∧ ∃ c x, σ.1 m = some (.inr (7, cEn 201 (pp d.1) (nI env.length) (pp d.1) 0 0 .null .null .null (.ref x) .null (.ref c) .null .null (.ref c) .null)) ∧ cCt κ T kk pp ee f A D lo σ env.length (nR f pp ee nm env) a (fun _ => none) 0 c ∧ cTr lo σ nm b env fk (fun _ => none) 0 x
    | 6 => cOk A D lo σ m ∧ ∃ x l r nd su su', σ.1 m = some (.inr (7, cEn 220 (pp d.1) (nI env.length) (pp (d.1 + 2)) (pp (d.1 + 1)) 0 (va_rf (nR f pp ee nm env (d.1 + 1))) .null .null (.ref x) .null .null (.ref l) (.ref r) (.ref nd) .null)) ∧ cSq κ T pp ee f A D lo σ l (pp d.2.2.2.1.1) env.length (nR f pp ee nm env) d.2.2.2.1 (tAl kk d.2.2.2.1) su ∧ cSq κ T pp ee f A D lo σ r (pp d.2.2.2.2.1) env.length (nR f pp ee nm env) d.2.2.2.2 (tAl kk d.2.2.2.2) su' ∧ cIn κ T pp ee f A D lo σ nd su env.length (nR f pp ee nm env) (d.1 + 1) d.2.2.2.1 ∧ cTr lo σ nm a env fk (fun _ => none) 0 x
    | 7 => cOk A D lo σ m ∧ ∃ l c su, σ.1 m = some (.inr (7, cEn 215 (pp d.1) (nI env.length) (pp d.1) 0 0 .null .null .null .null .null .null (.ref l) .null (.ref c) .null)) ∧ cSq κ T pp ee f A D lo σ l (pp d.2.2.2.1.1) env.length (nR f pp ee nm env) d.2.2.2.1 (tAl kk d.2.2.2.1) su ∧ cCq A D lo σ c su env.length 301
    | 8 => cOk A D lo σ m ∧ σ.1 m = some (.inr (7, cNd 223 (pp d.1) (nI env.length)))
    | 9 => cOk A D lo σ m ∧ σ.1 m = some (.inr (7, cNd 205 (pp d.1) (nI env.length)))
    | 10 => ∃ su, cSq κ T pp ee f A D lo σ m (pp d.2.2.2.1.1) env.length (nR f pp ee nm env) d.2.2.2.1 (tAl kk d.2.2.2.1) su
    | 11 => cOk A D lo σ m ∧ ∃ l r su su', σ.1 m = some (.inr (7, cEn 42 (pp d.1) (nI env.length) (pp d.2.1) 0 0 .null .null .null .null .null .null (.ref l) (.ref r) .null .null)) ∧ cSq κ T pp ee f A D lo σ l (pp d.2.2.2.1.1) env.length (nR f pp ee nm env) d.2.2.2.1 (tAl kk d.2.2.2.1) su ∧ cSq κ T pp ee f A D lo σ r (pp d.2.2.2.2.1) env.length (nR f pp ee nm env) d.2.2.2.2 (tAl kk d.2.2.2.2) su'
    | 12 => cOk A D lo σ m ∧ ∃ l r c su su', σ.1 m = some (.inr (7, cEn 47 (pp d.1) (nI env.length) (pp d.2.1) 0 0 .null .null .null .null .null .null (.ref l) (.ref r) (.ref c) .null)) ∧ cSq κ T pp ee f A D lo σ l (pp d.2.2.2.1.1) env.length (nR f pp ee nm env) d.2.2.2.1 (tAl kk d.2.2.2.1) su ∧ cSq κ T pp ee f A D lo σ r (pp d.2.2.2.2.1) env.length (nR f pp ee nm env) d.2.2.2.2 (tAl kk d.2.2.2.2) su' ∧ cCq A D lo σ c su' env.length 35
    | 13 => cOk A D lo σ m ∧ ∃ l r c su su', σ.1 m = some (.inr (7, cEn 37 (pp d.1) (nI env.length) (pp d.2.1) 0 0 .null .null .null .null .null .null (.ref l) (.ref r) (.ref c) .null)) ∧ cSq κ T pp ee f A D lo σ l (pp d.2.2.2.1.1) env.length (nR f pp ee nm env) d.2.2.2.1 (tAl kk d.2.2.2.1) su ∧ cSq κ T pp ee f A D lo σ r (pp d.2.2.2.2.1) env.length (nR f pp ee nm env) d.2.2.2.2 (tAl kk d.2.2.2.2) su' ∧ cCq A D lo σ c su' env.length 35
    | 14 => cOk A D lo σ m ∧ ∃ l nd su, σ.1 m = some (.inr (7, cEn 91 (pp d.1) (nI env.length) (pp (d.1 + 1)) (pp d.1) 0 (va_rf (nR f pp ee nm env d.1)) .null .null .null .null .null (.ref l) .null (.ref nd) .null)) ∧ cSq κ T pp ee f A D lo σ l (pp d.2.2.2.1.1) env.length (nR f pp ee nm env) d.2.2.2.1 (tAl kk d.2.2.2.1) su ∧ cIn κ T pp ee f A D lo σ nd su env.length (nR f pp ee nm env) d.1 d.2.2.2.1
    | 15 => cOk A D lo σ m ∧ ∃ pa q g', σ.1 m = some (.inr (7, cEn 401 (pp d.1) (nI env.length) (pp d.1) (pp d.1) 0 (va_rf (nR f pp ee nm env d.1)) .null .null .null .null .null .null .null .null (.ref pa))) ∧ cLn κ A D lo σ pa q g' ∧ cTr lo σ nm a env fk g' 0 q
    | 16 => cOk A D lo σ m ∧ ∃ x, σ.1 m = some (.inr (7, cEn 40 (pp d.1) (nI env.length) (pp d.1) 0 0 .null .null .null (.ref x) .null .null .null .null .null .null)) ∧ cTr lo σ nm a env fk (fun _ => none) 0 x
    | 17 => cOk A D lo σ m ∧ σ.1 m = some (.inr (7, cNd 216 (pp d.1) (nI env.length)))
    | 18 => cOk A D lo σ m ∧ ∃ l su, σ.1 m = some (.inr (7, cEn 203 (pp d.1) (nI env.length) (pp d.1) (pp d.2.1) 0 (va_rf (nR f pp ee nm env d.2.1)) .null .null .null .null .null (.ref l) .null .null .null)) ∧ cSq κ T pp ee f A D lo σ l (pp d.2.2.2.1.1) env.length (nR f pp ee nm env) d.2.2.2.1 (tAl kk d.2.2.2.1) su
    | 19 => cOk A D lo σ m ∧ ∃ x y c q su na ta, σ.1 m = some (.inr (7, cEn 214 (pp d.1) (nI env.length) (pp d.1) (pp (d.1 + 1)) 0 (va_rf (nR f pp ee nm env (d.1 + 1))) .null (.ref q) (.ref x) (.ref y) (.ref c) .null .null .null .null)) ∧ cCq A D lo σ c su env.length 300 ∧ (cSm σ su na ta 2 (sNo (nR f pp ee nm env (d.1 + 1)) 1 []) 0 ∧ cOk A D lo σ su ∧ cOk A D lo σ na ∧ cOk A D lo σ ta) ∧ cNl κ A D lo σ nm q d.2.1 2 env.length ∧ cTr lo σ nm a env fk (fun _ => none) 0 x ∧ cTr lo σ nm b (env ++ [d.2.1, d.2.1 + 1]) (fk + nF a) (fun _ => none) 0 y
    | 31 => ∃ x, g k = some x ∧ cTr lo σ nm a env fk (fun _ => none) 0 x ∧ cTr lo σ nm b env (fk + nF a) (fun _ => none) 0 m
    | 33 => ∃ x su, g k = some x ∧ cSq κ T pp ee f A D lo σ x (pp d.1) env.length (nR f pp ee nm env) d.2.2.2.1 (if d.2.1 = 1 then 0 else tAl kk d.2.2.2.1) su ∧ cTr lo σ nm b env fk g (k + 1) m
    | 34 => ∃ x fs, g k = some x ∧ (cOk A D lo σ x ∧ σ.1 x = some (.inr (7, fs)) ∧ fs[3]? = some (.int (pp d.1))) ∧ cTr lo σ nm a env fk (fun _ => none) 0 x ∧ cTr lo σ nm b env (fk + nF a) g (k + 1) m
    | 35 => ∃ x, g k = some x ∧ (cOk A D lo σ x ∧ σ.1 x = some (.inr (7, cNd (if d.2.1 = 1 then 223 else 205) (pp d.1) (nI env.length)))) ∧ cTr lo σ nm b env fk g (k + 1) m
    | _ => False
end TRD
section TRK
variable {κ : oKv} {T : Nat} {kk pp ee f : Nat → Int32} {A : Nat → Nat} {D D' : cDt} {lo lo' : Nat} {σ σ' : oSt} {nm nm' : Nat → Option Nat}
theorem cNx.kp {u k b : Nat} (G : cKp κ A D lo σ D' lo' σ') (hu : nm' u = nm u) (h : cNx A D lo σ nm u k b) : cNx A D' lo' σ' nm' u k b := by
  obtain ⟨h1, h2, q, h3⟩ := h
  exact ⟨hu.trans h1, (G.1 b h2).2, q, by rw [(G.1 b h2).1]; exact h3⟩
theorem cNl.kp {pa w q k : Nat} (G : cKp κ A D lo σ D' lo' σ') (hu : ∀ x, x < q → nm' (w + x) = nm (w + x)) (h : cNl κ A D lo σ nm pa w q k) : cNl κ A D' lo' σ' nm' pa w q k := by
  obtain ⟨d, cap, mc, g, h1, h2, h3, h4⟩ := h
  have hd : σ'.1 d = σ.1 d ∧ (cOk A D' lo' σ' d ∨ (d = κ.2.2.1 ∧ σ'.1 d = none)) := by
    rcases h2 with y | ⟨y, y'⟩
    · exact ⟨(G.1 d y).1, Or.inl (G.1 d y).2⟩
    · rw [y'] ; exact ⟨by rw [y]; exact G.2.2.2, Or.inr ⟨y, by rw [y]; exact G.2.2.2⟩⟩
  exact ⟨d, cap, mc, g, h1.keep (G.1 pa h3).1 hd.1 G.2.1, hd.2, (G.1 pa h3).2, fun x hx => by
    obtain ⟨b, q1, q2⟩ := h4 x hx
    exact ⟨b, q1, q2.kp G (hu x hx)⟩⟩
theorem cSq.kp {e : Nat} {mk : Int32} {cd : Nat} {ns : Nat → Option Nat} {s : tS} {al : Int32} {su : Nat} (G : cKp κ A D lo σ D' lo' σ') (h : cSq κ T pp ee f A D lo σ e mk cd ns s al su) : cSq κ T pp ee f A D' lo' σ' e mk cd ns s al su := by
  obtain ⟨pa, na, ta, cap, pc, h1, ⟨d, mc, g, h2, h3, h4⟩, h5, k1, k2, k3, k4, k5⟩ := h
  have hd : σ'.1 d = σ.1 d ∧ (cOk A D' lo' σ' d ∨ (d = κ.2.2.1 ∧ σ'.1 d = none)) := by
    rcases h4 with y | ⟨y, y'⟩
    · exact ⟨(G.1 d y).1, Or.inl (G.1 d y).2⟩
    · rw [y'] ; exact ⟨by rw [y]; exact G.2.2.2, Or.inr ⟨y, by rw [y]; exact G.2.2.2⟩⟩
  refine ⟨pa, na, ta, cap, pc, by rw [(G.1 e k1).1]; exact h1, ⟨d, mc, g, h2.keep (G.1 pa k2).1 hd.1 G.2.2.1, fun k p hk => ?_, hd.2⟩, h5.keep (fun a ha => ?_) G.2.1, (G.1 e k1).2, (G.1 pa k2).2, (G.1 su k3).2, (G.1 na k4).2, (G.1 ta k5).2⟩
  · obtain ⟨a, q1, q2, q3, q4⟩ := h3 k p hk
    exact ⟨a, q1, q2, (G.1 a q3).2, by rw [(G.1 a q3).1]; exact q4⟩
  · rcases ha with z | z | z
    · rw [z]; exact (G.1 su k3).1
    · rw [z]; exact (G.1 na k4).1
    · rw [z]; exact (G.1 ta k5).1
theorem cCq.kp {c su cd : Nat} {rl : Int32} (G : cKp κ A D lo σ D' lo' σ') (h : cCq A D lo σ c su cd rl) : cCq A D' lo' σ' c su cd rl := by
  obtain ⟨h1, pl, h2⟩ := h
  exact ⟨(G.1 c h1).2, pl, by rw [(G.1 c h1).1]; exact h2⟩
theorem cSm.kp {su na ta cap : Nat} {L : List (Nat × Int32)} {pl : Int64} (G : cKp κ A D lo σ D' lo' σ') (h : cSm σ su na ta cap L pl) (k3 : cOk A D lo σ su) (k4 : cOk A D lo σ na) (k5 : cOk A D lo σ ta) : cSm σ' su na ta cap L pl := h.keep (fun a ha => by
  rcases ha with z | z | z
  · rw [z]; exact (G.1 su k3).1
  · rw [z]; exact (G.1 na k4).1
  · rw [z]; exact (G.1 ta k5).1) G.2.1
theorem cIn.kp {nd su cd : Nat} {ns : Nat → Option Nat} {w : Nat} {s : tS} (G : cKp κ A D lo σ D' lo' σ') (h : cIn κ T pp ee f A D lo σ nd su cd ns w s) : cIn κ T pp ee f A D' lo' σ' nd su cd ns w s := by
  obtain ⟨h1, pl, pa, g, x, y, bs, na, ta, cap, h2, h3, h4, h5, h6, h7, h8, k3, k4, k5⟩ := h
  exact ⟨(G.1 nd h1).2, pl, pa, g, x, y, bs, na, ta, cap, by rw [(G.1 nd h1).1]; exact h2, h3.kp G, h4, h5, h6.kp G, h7.kp G, h8.kp G k3 k4 k5, (G.1 bs k3).2, (G.1 na k4).2, (G.1 ta k5).2⟩
end TRK
