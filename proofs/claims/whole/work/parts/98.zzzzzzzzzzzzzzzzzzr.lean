/-! numbers of an S, of a comparison -/
section SBD
variable {f kk pp ee : Nat → Int32} {T len cnt : Nat} {V : zSt}
theorem wtL_5 {w : Nat} (hT : 2010 ≤ T) (h : rW V T len cnt kk pp ee f) (hw : w < cnt) (hk : kk w = nI 2) : wtL pp ee w ≤ 5 := by
  obtain ⟨h1, h2, h3, h4, h5, h6, h7, h8⟩ := h
  obtain ⟨a', e', c1, c2, c3, c4, c5⟩ := wW_4 hT h8 h5 hw hk
  unfold wtL
  rw [c1, c2, nI_clamp (by omega), nI_clamp (by omega)]
  omega
theorem lwS_5 {wt : Nat → Nat} : ∀ (ps : List tP), (∀ p, p ∈ ps → p.1 = 0 → wt p.2.2 ≤ 5) → lwS wt ps ≤ 5 * ps.length
  | [], _ => Nat.zero_le _
  | p :: ps, h => by
    have ih := lwS_5 ps (fun x hx => h x (List.mem_cons_of_mem _ hx))
    rw [lwS_c, List.length_cons]
    by_cases c : p.1 = 0
    · rw [if_pos c]
      have := h p (List.mem_cons_self ..) c
      omega
    · rw [if_neg c]
      omega
theorem nW_w {ps : List tP} (hT : 2010 ≤ T) (h : rW V T len cnt kk pp ee f) (hg : sGd cnt ps) (hk : sKn kk ps) : ∀ p, p ∈ ps → p.1 = 0 → -(2000 * (wtL pp ee p.2.2 : Int)) ≤ (nW T f pp ee p.2.2).toInt ∧ (nW T f pp ee p.2.2).toInt ≤ 2000 * (wtL pp ee p.2.2 : Int) := fun p hp h0 => by
  have := nW_bd hT h (hg.1 p hp) (hk p hp h0)
  omega
/-- an S -/
theorem nLs_sm {ps : List tP} {s0 : Int32} (hs : s0 = 1 ∨ s0 = -1) (hT : 2010 ≤ T) (h : rW V T len cnt kk pp ee f) (hg : sGd cnt ps) (hk : sKn kk ps) : -10010000 ≤ (nLs T f pp ee s0 ps 0).toInt ∧ (nLs T f pp ee s0 ps 0).toInt ≤ 10010000 := by
  have l5 := lwS_5 (wt := wtL pp ee) ps (fun p hp h0 => wtL_5 hT h (hg.1 p hp) (hk p hp h0))
  have l1 := hg.2
  have := nLs_bd (wt := wtL pp ee) hs ps 0 0 (nW_w hT h hg hk) (by decide) (by decide) (by omega)
  omega
/-- a comparison -/
theorem dPl_sm {p1 p2 : List tP} (hT : 2010 ≤ T) (h : rW V T len cnt kk pp ee f) (g1 : sGd cnt p1) (k1 : sKn kk p1) (g2 : sGd cnt p2) (k2 : sKn kk p2) : -20020000 ≤ dPl T f pp ee p1 p2 ∧ dPl T f pp ee p1 p2 ≤ 20020000 := by
  have l5 := lwS_5 (wt := wtL pp ee) p1 (fun p hp h0 => wtL_5 hT h (g1.1 p hp) (k1 p hp h0))
  have m5 := lwS_5 (wt := wtL pp ee) p2 (fun p hp h0 => wtL_5 hT h (g2.1 p hp) (k2 p hp h0))
  have l1 := g1.2
  have m1 := g2.2
  have := dPl_bd (wt := wtL pp ee) (p1 := p1) (p2 := p2) (T := T) (f := f) (pp := pp) (ee := ee) (fun p hp h0 => (List.mem_append.mp hp).elim (fun z => nW_w hT h g1 k1 p z h0) (fun z => nW_w hT h g2 k2 p z h0)) (by omega)
  omega
theorem sPl_n : ∀ (ps : List tP) (l : Int64), sNw T f pp ee ps → ps.foldl (fun x p => if p.1 = 0 then x + (sg p.2.1 * nW T f pp ee p.2.2).toInt64 else x) l = nLs T f pp ee 1 ps l
  | [], _, _ => rfl
  | p :: ps, l, h => by
    rw [List.foldl_cons, sPl_n ps _ (fun x hx => h x (List.mem_cons_of_mem _ hx))]
    show _ = nLs T f pp ee 1 ps (if p.1 = 0 then l + (sg p.2.1 * 1).toInt64 * (nW T f pp ee p.2.2).toInt64 else l)
    by_cases c : p.1 = 0
    · rw [if_pos c, if_pos c, sg_64 _ _ (h p (List.mem_cons_self ..) c)]
    · rw [if_neg c, if_neg c]
theorem sPl_sm {ps : List tP} (hT : 2010 ≤ T) (h : rW V T len cnt kk pp ee f) (hg : sGd cnt ps) (hk : sKn kk ps) : -10010000 ≤ (sPl T f pp ee ps).toInt ∧ (sPl T f pp ee ps).toInt ≤ 10010000 := by
  unfold sPl
  rw [sPl_n ps 0 (sNw_of hT h ps hg hk)]
  exact nLs_sm (Or.inl rfl) hT h hg hk
end SBD
