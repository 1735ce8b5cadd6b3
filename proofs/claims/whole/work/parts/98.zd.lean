/-! the class's parser: a PART with a NAME, into an S -/
def sCd (g : Nat) : Int32 := if g = 2 then 200 else if g = 3 then 213 else 210
/-- the PARTS with a NAME -/
def sNm (ps : List tP) : List tP := ps.filter (fun p => decide (0 < p.1))
/-- what an S says, by NAMES' objects, and its number -/
def sL (ns : Nat → Option Nat) (ps : List tP) : List (Nat × Int32) := ps.foldl (fun L p => if p.1 = 0 then L else match ns p.2.2 with | some b => sAdd L b (sg p.2.1) | none => L) []
def sPl (T : Nat) (f pp ee : Nat → Int32) (ps : List tP) : Int64 := ps.foldl (fun x p => if p.1 = 0 then x + (sg p.2.1 * nW T f pp ee p.2.2).toInt64 else x) 0
/-- the last NAME -/
def sLn (ns : Nat → Option Nat) (ps : List tP) : Value := match (sNm ps).getLast? with
  | some p => va_rf (ns p.2.2)
  | none => .null
/-- a PART's node -/
def cPf (pp : Nat → Int32) (ns : Nat → Option Nat) (cd : Nat) (p : tP) : List Value := [.int (sCd p.1), .int (pp p.2.2), .int (nI cd), .int (pp p.2.2), .int 0, .int 0, .int 0, .int 0, .int 0, va_rf (ns p.2.2), .null, .null, .null, .null, .null, .null, .null, .null, .null, .null, .null]
/-- an S's node -/
def cSf (pl cd al : Int32) (nv : Value) (pa su : Nat) : List Value := [.int 400, .int pl, .int cd, .int pl, .int 0, .int 0, .int al, .int 0, .int 0, nv, .null, .null, .null, .null, .null, .null, .null, .null, .ref pa, .ref su, .null]
/-- an address that is the tree's own: from lo on, none of the parser's -/
def cOk (A : Nat → Nat) (D : cDt) (lo : Nat) (σ : oSt) (a : Nat) : Prop := lo ≤ a ∧ a < σ.2.1 ∧ ¬ cMu A D a
/-- the S at e with these PARTS -/
def cSp (κ : oKv) (T : Nat) (pp ee f : Nat → Int32) (A : Nat → Nat) (D : cDt) (lo : Nat) (σ : oSt) (e i cd : Nat) (ns : Nat → Option Nat) (ps : List tP) (al : Int32) (pa su na ta cap pc : Nat) : Prop :=
  σ.1 e = some (.inr (7, cSf (pp i) (nI cd) al (sLn ns ps) pa su)) ∧
  (∃ d mc g, cLs κ σ pa d pc (sNm ps).length mc g 7 ∧ (∀ k p, (sNm ps)[k]? = some p → ∃ a, g k = some a ∧ a ≠ e ∧ cOk A D lo σ a ∧ σ.1 a = some (.inr (7, cPf pp ns cd p))) ∧ (cOk A D lo σ d ∨ (d = κ.2.2.1 ∧ σ.1 d = none)) ∧ pc ≤ 10 + 2 * ((sNm ps).length - 1) ∧ cap ≤ 2 + 2 * (ps.length - 1)) ∧
  cSm σ su na ta cap (sL ns ps) (sPl T (fun j => f j &&& 255) pp ee ps) ∧
  (cOk A D lo σ e ∧ cOk A D lo σ pa ∧ cOk A D lo σ su ∧ cOk A D lo σ na ∧ cOk A D lo σ ta)
section CPP
variable {κ : oKv} {sz T n len cnt : Nat} {kk pp ee f : Nat → Int32} {A : Nat → Nat} {nq ni : Int32} {rt : Value} {σ σ' : oSt} {D : cDt} {at' cd : Nat} {cn am bd nf ff : Int32} {s : Sum Nat Nat} {nm ns : Nat → Option Nat} {ν : nSt} {lo e i pa su na ta cap pc : Nat} {ps : List tP} {al : Int32}
/-- the parser's state where its own cells are as they were -/
theorem cV.gn (h : cV κ sz len cnt kk pp ee f A nq ni rt σ D at' cd cn am bd nf ff) (hk : ∀ a, cSt A D a → σ'.1 a = σ.1 a) (h0 : σ'.1 (A 0) = σ.1 (A 0)) (h6 : ∀ a fs, σ.1 a = some (.inr (6, fs)) → ∃ fs', σ'.1 a = some (.inr (6, fs'))) (h7 : ∀ a fs, σ.1 a = some (.inr (7, fs)) → ∃ fs', σ'.1 a = some (.inr (7, fs'))) (hf : ∀ q, σ'.2.1 ≤ q → σ'.1 q = none) (hl : ∀ q, q < sz → σ'.1 q = none) (hn : σ.2.1 ≤ σ'.2.1) : cV κ sz len cnt kk pp ee f A nq ni rt σ' D at' cd cn am bd nf ff :=
  ⟨h.1.gen hk h6 h7 hf hl hn, h0.trans h.2.1, h.2.2⟩
/-- NAMES where their objects and texts are as they were -/
theorem cNm.gn (h : cNm pp ee f σ D nm ν cd nf) (hk : ∀ a c, σ.1 a = some c → cTy c → σ'.1 a = some c) : cNm pp ee f σ' D nm ν cd nf := by
  obtain ⟨h1, h2, h3, h4, h5, h6⟩ := h
  refine ⟨h1, fun k u e hk12 => ?_, h3, h4, h5, fun u hu => ?_⟩
  · obtain ⟨b, e1, e2, e3⟩ := h2 k u e hk12
    exact ⟨b, e1, e2, e3.keep hk⟩
  · obtain ⟨b, e1, e2⟩ := h6 u hu
    exact ⟨b, e1, e2.keep hk⟩
theorem cOk.to {a : Nat} {D' : cDt} (h : cOk A D lo σ a) (hr : cFr A σ D σ' D') : cOk A D' lo σ' a := by
  obtain ⟨h1, h2, h3⟩ := h
  obtain ⟨r1, r2, r3, r4⟩ := hr
  refine ⟨h1, by omega, fun hm => h3 ?_⟩
  unfold cMu at hm ⊢
  rcases hm with z | z | z | z | z | z
  · exact Or.inl z
  · exact Or.inr (Or.inl z)
  · exact Or.inr (Or.inr (Or.inl z))
  · exact Or.inr (Or.inr (Or.inr (Or.inl z)))
  · rcases r3 with y | y
    · exact Or.inr (Or.inr (Or.inr (Or.inr (Or.inl (z.trans y)))))
    · omega
  · rcases r4 with y | y
    · exact Or.inr (Or.inr (Or.inr (Or.inr (Or.inr (z.trans y)))))
    · omega
theorem cOk.eq {a : Nat} {D' : cDt} (h : cOk A D lo σ a) (hr : cFr A σ D σ' D') : σ'.1 a = σ.1 a := hr.2.1 a h.2.1 h.2.2
theorem cV.kd {a ci : Nat} {fs : List Value} {D' : cDt} (h : cV κ sz len cnt kk pp ee f A nq ni rt σ D at' cd cn am bd nf ff) (hr : cFr A σ D σ' D') (ea : σ.1 a = some (.inr (ci, fs))) (hc : ci = 6 ∨ ci = 7 ∨ ci = 11) : σ'.1 a = some (.inr (ci, fs)) := by
  rw [hr.2.1 a (alt h.1.1.1 ea) (cMu.no h ea hc)]
  exact ea
theorem sL_cg {ns' : Nat → Option Nat} : ∀ (l : List tP) (L : List (Nat × Int32)), (∀ p ∈ l, ns' p.2.2 = ns p.2.2) → l.foldl (fun L p => if p.1 = 0 then L else match ns' p.2.2 with | some b => sAdd L b (sg p.2.1) | none => L) L = l.foldl (fun L p => if p.1 = 0 then L else match ns p.2.2 with | some b => sAdd L b (sg p.2.1) | none => L) L
  | [], L, _ => rfl
  | p :: l, L, hh => by
    rw [List.foldl_cons, List.foldl_cons, hh p (List.mem_cons_self ..)]
    exact sL_cg l _ (fun q hq => hh q (List.mem_cons_of_mem _ hq))
theorem sNm_mem {p : tP} (hp : p ∈ sNm ps) : p ∈ ps := (List.mem_filter.mp hp).1
theorem sLn_cg {ns' : Nat → Option Nat} (hn : ∀ p ∈ ps, ns' p.2.2 = ns p.2.2) : sLn ns' ps = sLn ns ps := by
  unfold sLn
  cases hl : (sNm ps).getLast? with
  | none => rfl
  | some p =>
    show va_rf (ns' p.2.2) = va_rf (ns p.2.2)
    rw [hn p (sNm_mem (List.mem_of_getLast? hl))]
/-- an S is kept while the parser reads on -/
theorem cSp.to {D' : cDt} {ns' : Nat → Option Nat} (h : cSp κ T pp ee f A D lo σ e i cd ns ps al pa su na ta cap pc) {at2 cd2 : Nat} {cn2 am2 bd2 nf2 ff2 : Int32} (hV : cV κ sz len cnt kk pp ee f A nq ni rt σ D at2 cd2 cn2 am2 bd2 nf2 ff2) (hr : cFr A σ D σ' D') (hlow : σ'.1 κ.2.2.1 = none) (hn : ∀ p ∈ ps, ns' p.2.2 = ns p.2.2) : cSp κ T pp ee f A D' lo σ' e i cd ns' ps al pa su na ta cap pc := by
  obtain ⟨h1, ⟨d, mc, g, h2, h3, h4, h5⟩, h8, h9, h10, h11, h12, h13⟩ := h
  have eL : sL ns' ps = sL ns ps := sL_cg ps [] hn
  have hd : σ'.1 d = σ.1 d := by
    rcases h4 with z | ⟨z, z'⟩
    · exact z.eq hr
    · rw [z', z]; exact hlow
  refine ⟨by rw [sLn_cg hn, h9.eq hr]; exact h1, ⟨d, mc, g, h2.keep (h10.eq hr) hd (fun a fs ea => ⟨fs, hV.kd hr ea (by omega)⟩), fun k p ek => ?_, ?_, h5⟩, ?_, h9.to hr, h10.to hr, h11.to hr, h12.to hr, h13.to hr⟩
  · obtain ⟨a, e1, e2, e3, e4⟩ := h3 k p ek
    refine ⟨a, e1, e2, e3.to hr, ?_⟩
    rw [e3.eq hr, e4]
    unfold cPf
    rw [hn p (sNm_mem (List.mem_of_getElem? ek))]
  · rcases h4 with z | ⟨z, z'⟩
    · exact Or.inl (z.to hr)
    · exact Or.inr ⟨z, hd.trans z'⟩
  · rw [eL]
    exact h8.keep (fun a ha => by
      rcases ha with z | z | z
      · rw [z]; exact h11.eq hr
      · rw [z]; exact h12.eq hr
      · rw [z]; exact h13.eq hr) (fun a fs ea => ⟨fs, hV.kd hr ea (by omega)⟩)
end CPP
