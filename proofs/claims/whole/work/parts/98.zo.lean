/-! the class's parser: a comparison -/
/-- a NAME's node as a C -/
def cTf (pl cd : Int32) (nv : Value) (l : Nat) : List Value := [.int 402, .int pl, .int cd, .int pl, .int 0, .int 0, .int 0, .int 0, .int 0, nv, .null, .null, .null, .null, .null, .ref l, .null, .null, .null, .null, .null]
def nPs (f pp ee : Nat → Int32) (ps : List tP) (ν : nSt) : nSt := ps.foldl (fun ν p => nPt f pp ee p ν) ν
theorem nPs_1 (f pp ee : Nat → Int32) : ∀ (ps : List tP) (ν : nSt), (nPs f pp ee ps ν).1 = ν.1
  | [], _ => rfl
  | p :: ps, ν => by
    show (nPs f pp ee ps (nPt f pp ee p ν)).1 = ν.1
    rw [nPs_1 f pp ee ps, nPt_1]
theorem nRes_1 {f pp ee : Nat → Int32} {nm : Nat → Option Nat} {ν ν' : nSt} (h : ν'.1 = ν.1) (w : Nat) : nRes f pp ee nm ν' w = nRes f pp ee nm ν w := by
  unfold nRes; rw [h]
/-- a comparison, or a NAME, in cells -/
def cCr (κ : oKv) (T : Nat) (kk pp ee f : Nat → Int32) (A : Nat → Nat) (D : cDt) (lo : Nat) (σ : oSt) (e i cd : Nat) (ns : Nat → Option Nat) (t : tT) : Prop :=
  (t = tN 24 i 0 0 s0 s0 tZ tZ ∧ ∃ l al pa su na ta cap pc, σ.1 e = some (.inr (7, cTf (pp i) (nI cd) (va_rf (ns i)) l)) ∧ cSp κ T pp ee f A D lo σ l i cd ns [(1, false, i)] al pa su na ta cap pc) ∨
  (∃ j S S', t = tN 25 i j (aRl kk j) S S' tZ tZ ∧ ∃ l al pa su na ta cap pc r al2 pa2 su2 na2 ta2 cap2 pc2 q na3 ta3 cap3, σ.1 e = some (.inr (7, cCf (pp i) (nI cd) (pp j) (kk j) l r q)) ∧ cSp κ T pp ee f A D lo σ l i cd ns S.2 al pa su na ta cap pc ∧ cSp κ T pp ee f A D lo σ r (j + 1) cd ns S'.2 al2 pa2 su2 na2 ta2 cap2 pc2 ∧ cSm σ q na3 ta3 cap3 (sDf (sL ns S.2) (sL ns S'.2)) (0 + (1 : Int32).toInt64 * sPl T (fun j => f j &&& 255) pp ee S.2 + (-1 : Int32).toInt64 * sPl T (fun j => f j &&& 255) pp ee S'.2) ∧ cOk A D lo σ q ∧ cOk A D lo σ na3 ∧ cOk A D lo σ ta3)
section CQB
variable {κ : oKv} {sz T n m len cnt : Nat} {kk pp ee f : Nat → Int32} {A : Nat → Nat} {nq ni : Int32} {rt : Value} {σ σ' : oSt} {D : cDt} {at' cd : Nat} {cn am bd nf ff : Int32} {s : Sum Nat Nat} {nm ns : Nat → Option Nat} {ν : nSt} {lo l i pa su na ta cap pc : Nat} {ps : List tP} {al : Int32}
theorem sLn_rf (ns : Nat → Option Nat) (ps : List tP) : ∃ o, sLn ns ps = va_rf o := by
  unfold sLn
  cases (sNm ps).getLast? with
  | none => exact ⟨none, rfl⟩
  | some p => exact ⟨_, rfl⟩
theorem ovr_va (o : Option Nat) : ovr (some (va_rf o)) = some o := by cases o <;> rfl
theorem sL_cg' {ns' : Nat → Option Nat} : ∀ (l : List tP) (L : List (Nat × Int32)), (∀ p ∈ l, 0 < p.1 → ns' p.2.2 = ns p.2.2) → l.foldl (fun L p => if p.1 = 0 then L else match ns' p.2.2 with | some b => sAdd L b (sg p.2.1) | none => L) L = l.foldl (fun L p => if p.1 = 0 then L else match ns p.2.2 with | some b => sAdd L b (sg p.2.1) | none => L) L
  | [], L, _ => rfl
  | p :: l, L, hh => by
    rw [List.foldl_cons, List.foldl_cons]
    by_cases c : p.1 = 0
    · rw [if_pos c, if_pos c]
      exact sL_cg' l _ (fun q hq => hh q (List.mem_cons_of_mem _ hq))
    · rw [if_neg c, if_neg c, hh p (List.mem_cons_self ..) (by omega)]
      exact sL_cg' l _ (fun q hq => hh q (List.mem_cons_of_mem _ hq))
theorem sNm_pos {p : tP} (hp : p ∈ sNm ps) : 0 < p.1 := by simpa using (List.mem_filter.mp hp).2
/-- the same S by other ways to its NAMES -/
theorem cSp.nsc {e : Nat} {ns' : Nat → Option Nat} (h : cSp κ T pp ee f A D lo σ e i cd ns ps al pa su na ta cap pc) (hn : ∀ p ∈ ps, 0 < p.1 → ns' p.2.2 = ns p.2.2) : cSp κ T pp ee f A D lo σ e i cd ns' ps al pa su na ta cap pc := by
  obtain ⟨h1, ⟨d, mc, g, h2, h3, h4, h5⟩, h8, h9⟩ := h
  have eL : sL ns' ps = sL ns ps := sL_cg' ps [] hn
  have eN : sLn ns' ps = sLn ns ps := by
    unfold sLn
    cases hl : (sNm ps).getLast? with
    | none => rfl
    | some p =>
      have hm := List.mem_of_getLast? hl
      show va_rf (ns' p.2.2) = va_rf (ns p.2.2)
      rw [hn p (sNm_mem hm) (sNm_pos hm)]
  refine ⟨by rw [eN]; exact h1, ⟨d, mc, g, h2, fun k p ek => ?_, h4, h5⟩, by rw [eL]; exact h8, h9⟩
  obtain ⟨a, e1, e2, e3, e4⟩ := h3 k p ek
  have hm := List.mem_of_getElem? ek
  refine ⟨a, e1, e2, e3, ?_⟩
  rw [e4]
  unfold cPf
  rw [hn p (sNm_mem hm) (sNm_pos hm)]
set_option maxHeartbeats 4000000 in
/-- comparison(c) -/
theorem c_cmp {e0 : Nat} {k0 : Int32} (h : cV κ sz len cnt kk pp ee f A nq ni rt σ D at' cd cn am bd nf ff) (ho : cO pp cnt at' bd s) (hn : ∀ i, s = .inr i → cNm pp ee f σ D nm ν cd nf) (he : σ.1 e0 = some (.inr (7, cNd k0 (pp at') (nI cd)))) (hm : 10 ≤ m) (hT : 2010 ≤ T) (hwl : ∀ j, j < cnt → wL pp ee j ≤ 10) : ∃ σ' at2 am2 bd2 nf2 ff2, oF κ T (m + 1) 125 [va_rf (some (A 0)), va_rf (some e0)] σ = some (some (va_rf (some e0)), σ') ∧ cV κ sz len cnt kk pp ee f A nq ni rt σ' D at2 cd cn am2 bd2 nf2 ff2 ∧ cO pp cnt at2 bd2 (aTo s (aCm kk T)) ∧ (σ.2.1 ≤ σ'.2.1 ∧ ∀ a, a < σ.2.1 → ¬ cMu A D a → a ≠ e0 → σ'.1 a = σ.1 a) ∧ (σ'.2.2.1 + 8 * at' ≤ σ.2.2.1 + 21 + 8 * at2 ∧ σ'.2.2.2 + 69 * at' ≤ σ.2.2.2 + 140 + 69 * at2) ∧ (at' ≤ at2 ∧ ∃ fs, σ'.1 e0 = some (.inr (7, fs)) ∧ fs[1]? = some (.int (pp at'))) ∧ (∀ i t j, s = .inr i → aCm kk T i = .inr (t, j) → am2 = am + 1 ∧ cCr κ T kk pp ee f A D σ.2.1 σ' e0 i cd (nRes f pp ee nm ν) t ∧ ((t = tN 24 i 0 0 s0 s0 tZ tZ ∧ cNm pp ee f σ' D nm (nUse f pp ee i ν) cd nf2 ∧ ff2 = ff) ∨ (∃ j1 S S', t = tN 25 i j1 (aRl kk j1) S S' tZ tZ ∧ cNm pp ee f σ' D nm (nPs f pp ee S'.2 (nPs f pp ee S.2 ν)) cd nf2 ∧ ff2 = if sFa (sDf (sL (nRes f pp ee nm ν) S.2) (sL (nRes f pp ee nm ν) S'.2)) = true then ff else fMin ff (pp j1)))) := by
  have lowσ : κ.2.2.1 < sz := h.1.1.2.2.2
  have le0 : e0 < σ.2.1 := alt h.1.1.1 he
  rw [oE_X7_comparison]
  unfold ob_X7_comparison
  obtain ⟨m2, hm2⟩ : ∃ m2, m = m2 + 2 := ⟨m - 2, by omega⟩
  obtain ⟨σ1, a1, at1, bd1, nf1, ns1, ps1, al1, pa1, su1, na1, ta1, cap1, pc1, a2, a3, a4, a5, ⟨a6, a6b⟩, ⟨a7, a7b, a7c⟩, a8⟩ := c_sum (κ := κ) (T := T) (m := m2) (nm := nm) (ν := ν) h ho hn (by omega) hT hwl
  rw [← hm2] at a1
  rw [oob_at h.2.1, obn_at, a1, orn_at]
  have e1 := h.kd a4 he (by omega)
  have p2 : opf σ1 (some e0) 7 15 (va_rf (some σ.2.1)) = some (oput σ1 e0 (.inr (7, cC0 k0 (pp at') (nI cd) (pp at') 0 σ.2.1))) := by
    rw [opf_at e1 (show 15 < 21 by decide)]; rfl
  rw [p2, obn_at]
  have v2 := a2.fl (fs' := cC0 k0 (pp at') (nI cd) (pp at') 0 σ.2.1) e1 (by omega)
  have e2 : (oput σ1 e0 (.inr (7, cC0 k0 (pp at') (nI cd) (pp at') 0 σ.2.1))).1 e0 = some (.inr (7, cC0 k0 (pp at') (nI cd) (pp at') 0 σ.2.1)) := oput_eq _ _ _
  have S2 := a5.bf (fs' := cC0 k0 (pp at') (nI cd) (pp at') 0 σ.2.1) e1 le0 (a2.1.1.2.1 _ lowσ)
  have k2 : ∀ a, a ≠ e0 → (oput σ1 e0 (.inr (7, cC0 k0 (pp at') (nI cd) (pp at') 0 σ.2.1))).1 a = σ1.1 a := fun a ha => oput_ne ha
  have z2 : (oput σ1 e0 (.inr (7, cC0 k0 (pp at') (nI cd) (pp at') 0 σ.2.1))).2 = σ1.2 := rfl
  generalize oput σ1 e0 (.inr (7, cC0 k0 (pp at') (nI cd) (pp at') 0 σ.2.1)) = σ2 at v2 e2 S2 k2 z2 ⊢
  -- one more comparison
  have f14 : ofd σ2 (some (A 0)) 9 14 = some (.int am) := by rw [ofd_at v2.2.1]; rfl
  have p3 : opf σ2 (some (A 0)) 9 14 (.int (am + 1)) = some (oput σ2 (A 0) (.inr (9, cPs A nq ni rt at1 cd cn (am + 1) bd1 nf1 ff))) := by
    rw [opf_at v2.2.1 (show 14 < 18 by decide)]; rfl
  rw [f14, ovi_in, obn_at, p3, obn_at]
  obtain ⟨v3, r3⟩ := v2.put (at2 := at1) (cd2 := cd) (cn2 := cn) (am2 := am + 1) (bd2 := bd1) (nf2 := nf1) (ff2 := ff) v2.2.2.1 v2.2.2.2.1 (Nat.le_refl _)
  have S3 := S2.to (ns' := ns1) v2 r3 (v3.1.1.2.1 _ lowσ) (fun _ _ => rfl)
  have e3 := v2.kd r3 e2 (by omega)
  have k3 : ∀ a, ¬ cMu A D a → a ≠ e0 → (oput σ2 (A 0) (.inr (9, cPs A nq ni rt at1 cd cn (am + 1) bd1 nf1 ff))).1 a = σ1.1 a := fun a hmu ha => by
    rw [oput_ne (fun z => hmu (Or.inl z)), k2 a ha]
  have z3 : (oput σ2 (A 0) (.inr (9, cPs A nq ni rt at1 cd cn (am + 1) bd1 nf1 ff))).2 = σ1.2 := z2
  have N3 : ∀ i t j, s = .inr i → aSm kk T i = .inr (t, j) → cNm pp ee f (oput σ2 (A 0) (.inr (9, cPs A nq ni rt at1 cd cn (am + 1) bd1 nf1 ff))) D nm (nPs f pp ee t.2 ν) cd nf1 := fun i t j hi ht => (a8 i t j hi ht).2.2.1.gn (fun a c ea hc => by
    rw [oput_ne (fun z => by rw [z, a2.2.1] at ea; cases ea; exact hc.n9), k2 a (fun z => by rw [z, e1] at ea; cases ea; rcases hc with ⟨x, y⟩ | ⟨x, y⟩ | ⟨x, y⟩ <;> cases y)]
    exact ea)
  generalize oput σ2 (A 0) (.inr (9, cPs A nq ni rt at1 cd cn (am + 1) bd1 nf1 ff)) = σ3 at v3 r3 S3 e3 k3 z3 N3 ⊢
  have z31 : σ3.2.1 = σ1.2.1 := by rw [z3]
  have z32 : σ3.2.2.1 = σ1.2.2.1 := by rw [z3]
  have z33 : σ3.2.2.2 = σ1.2.2.2 := by rw [z3]
  have a41 := a4.1
  have fr3 : ∀ a, a < σ.2.1 → ¬ cMu A D a → a ≠ e0 → σ3.1 a = σ.1 a := fun a ha hmu hne => by rw [k3 a hmu hne, a4.2.1 a ha hmu]
  obtain ⟨m1, hm1⟩ : ∃ m1, m = m1 + 1 := ⟨m - 1, by omega⟩
  have RL : ∀ v τ, oF κ T m 109 [.int v] τ = some (some (.int (if cRl v = true then 1 else 0)), τ) := fun v τ => by rw [hm1]; exact c_rel
  rw [oob_at v3.2.1, obn_at, c_kind (n := m) v3 a3 (by omega), oin_at, RL, oin_at, oob_at v3.2.1, obn_at, c_kind (n := m) v3 a3 (by omega), oin_at]
  by_cases cR : cRl (cK kk (aTo s (aSm kk T))) = true ∨ cK kk (aTo s (aSm kk T)) = 35
  · -- a REL
    have code : (if (if cRl (cK kk (aTo s (aSm kk T))) = true then (1 : Int32) else 0) = 0 then
        if cK kk (aTo s (aSm kk T)) = 35 then oj_X7_comparison_72 T (oF κ T m) κ (some (A 0)) (some e0) σ3
        else
          obn (opf σ3 (some e0) 7 0 (.int 402)) fun s27 =>
          obn (ovr (ofd s27 (some e0) 7 15)) fun v29 =>
          obn (ovr (ofd s27 v29 7 9)) fun v31 =>
          obn (opf s27 (some e0) 7 9 (va_rf v31)) fun s33 =>
          obn (ovr (ofd s33 (some e0) 7 15)) fun v35 =>
          obn (ovi (ofd s33 v35 7 6)) fun v37 =>
          if v37 = 1 then some (some (va_rf (some e0)), s33)
          else
            obn (oob s33 (some (A 0)) 9) fun a40 =>
            ocv (oF κ T m 107 [va_rf (some (A 0))] s33) fun s42 =>
            some (some (va_rf (some e0)), s42)
      else oj_X7_comparison_72 T (oF κ T m) κ (some (A 0)) (some e0) σ3) = oj_X7_comparison_72 T (oF κ T m) κ (some (A 0)) (some e0) σ3 := by
      by_cases c1 : cRl (cK kk (aTo s (aSm kk T))) = true
      · rw [if_pos c1, if_neg (by decide)]
      · rw [if_neg c1, if_pos rfl, if_pos (cR.resolve_left c1)]
    rw [code]
    cases s with
    | inl j =>
      exfalso
      rcases cR with z | z
      · exact absurd z (by show ¬ cRl 0 = true; decide)
      · exact absurd z (by show ¬ (0 : Int32) = 35; decide)
    | inr i =>
      cases es : aSm kk T i with
      | inl j =>
        exfalso
        rw [aTo_ok, es] at cR
        rcases cR with z | z
        · exact absurd z (by show ¬ cRl 0 = true; decide)
        · exact absurd z (by show ¬ (0 : Int32) = 35; decide)
      | inr r =>
        obtain ⟨S, j1⟩ := r
        have hati : at' = i := ho.2.1
        subst hati
        rw [aTo_ok, es] at a3 cR
        have hj1 : at1 = j1 := a3.2.1
        subst hj1
        have cR' : aRl kk at1 < 6 := aRl_cr.mpr cR
        have hlt : at1 < cnt := by
          by_cases q : at1 < cnt
          · exact q
          · exfalso
            have w : kk at1 = 0 := by rw [show at1 = cnt by have := v3.2.2.1; omega]; exact h.1.2.2.2.2.2.1
            have cR2 : cRl (kk at1) = true ∨ kk at1 = 35 := cR
            rw [w] at cR2
            rcases cR2 with z | z
            · exact absurd z (by decide)
            · exact absurd z (by decide)
        obtain ⟨y1, y2, y3, y4, y5⟩ := a8 at' S at1 rfl es
        obtain ⟨-, sw, -⟩ := aSm_w es
        obtain ⟨σ', at2, bd2, nf2, ff2, ns2, ps2, al2, r, pa2, su2, na2, ta2, cap2, pc2, q, na3, ta3, cap3, b1, b2, b3, ⟨b4, b4b⟩, ⟨b5, b6, b7, b8, b9⟩, ⟨b10, b11⟩, ⟨b12, b13⟩, b14⟩ := c_72 (κ := κ) (T := T) (m := m) v3 a3 (N3 at' S at1 rfl es) e3 S3 le0 hlt (by omega) hm hT hwl
        rw [b1]
        refine ⟨σ', at2, am + 1, bd2, nf2, ff2, rfl, b2, ?_, ⟨by omega, fun a ha hmu hne => ?_⟩, ⟨by omega, by omega⟩, ⟨by omega, _, b5, rfl⟩, fun i' t j hi ht => ?_⟩
        · rw [aTo_ok] at b3 ⊢
          unfold aCm
          rw [es]
          show cO pp cnt at2 bd2 (if aRl kk at1 < 6 then (aSm kk T (at1 + 1)).on fun s' j' => (.inr (tN 25 at' at1 (aRl kk at1) S s' tZ tZ, j') : aR tT) else if S.2 = [(1, false, at')] then .inr (tN 24 at' 0 0 s0 s0 tZ tZ, at1) else .inl at1).st
          rw [if_pos cR']
          cases es2 : aSm kk T (at1 + 1) with
          | inl j => rw [es2] at b3; exact b3
          | inr r => rw [es2] at b3; exact b3
        · rw [b4b a (by omega) hmu hne]; exact fr3 a ha hmu hne
        · cases hi
          unfold aCm at ht
          rw [es] at ht
          have ht' : (if aRl kk at1 < 6 then (aSm kk T (at1 + 1)).on fun s' j' => (.inr (tN 25 at' at1 (aRl kk at1) S s' tZ tZ, j') : aR tT) else if S.2 = [(1, false, at')] then .inr (tN 24 at' 0 0 s0 s0 tZ tZ, at1) else .inl at1) = .inr (t, j) := ht
          rw [if_pos cR'] at ht'
          obtain ⟨S', j2, es2, ht'⟩ := on_ok ht'
          cases ht'
          obtain ⟨w1, w2, w3, w4⟩ := b14 S' j es2
          have q1 : ∀ p ∈ ps1, 0 < p.1 → nRes f pp ee nm ν p.2.2 = ns1 p.2.2 := fun p hp hg => (y4 p (by rw [← y2]; exact hp) hg).symm
          have q2 : ∀ p ∈ ps2, 0 < p.1 → nRes f pp ee nm ν p.2.2 = ns2 p.2.2 := fun p hp hg => by
            rw [w3 p (by rw [← w1]; exact hp) hg]
            exact (nRes_1 (nPs_1 f pp ee S.2 ν) p.2.2).symm
          have E1 : sL (nRes f pp ee nm ν) S.2 = sL ns1 ps1 := by rw [← y2]; exact sL_cg' ps1 [] q1
          have E2 : sL (nRes f pp ee nm ν) S'.2 = sL ns2 ps2 := by rw [← w1]; exact sL_cg' ps2 [] q2
          refine ⟨rfl, Or.inr ⟨at1, S, S', rfl, σ.2.1, al1, pa1, su1, na1, ta1, cap1, pc1, r, al2, pa2, su2, na2, ta2, cap2, pc2, q, na3, ta3, cap3, b5, ?_, ?_, ?_, b9⟩, Or.inr ⟨at1, S, S', rfl, w2, ?_⟩⟩
          · rw [← y2]; exact b6.nsc q1
          · rw [← w1]; exact b7.nsc q2
          · rw [E1, E2, ← y2, ← w1]; exact b8
          · rw [E1, E2]; exact w4
  · -- no REL: a NAME alone
    have nc1 : ¬ cRl (cK kk (aTo s (aSm kk T))) = true := fun z => cR (Or.inl z)
    have nc2 : ¬ cK kk (aTo s (aSm kk T)) = 35 := fun z => cR (Or.inr z)
    rw [if_neg nc1, if_pos rfl, if_neg nc2]
    have p4 : opf σ3 (some e0) 7 0 (.int 402) = some (oput σ3 e0 (.inr (7, cTf (pp at') (nI cd) .null σ.2.1))) := by
      rw [opf_at e3 (show 0 < 21 by decide)]; rfl
    rw [p4, obn_at]
    have v4 := v3.fl (fs' := cTf (pp at') (nI cd) .null σ.2.1) e3 (by omega)
    have e4 : (oput σ3 e0 (.inr (7, cTf (pp at') (nI cd) .null σ.2.1))).1 e0 = some (.inr (7, cTf (pp at') (nI cd) .null σ.2.1)) := oput_eq _ _ _
    have S4 := S3.bf (fs' := cTf (pp at') (nI cd) .null σ.2.1) e3 le0 (v3.1.1.2.1 _ lowσ)
    have k4 : ∀ a, a ≠ e0 → (oput σ3 e0 (.inr (7, cTf (pp at') (nI cd) .null σ.2.1))).1 a = σ3.1 a := fun a ha => oput_ne ha
    have z4 : (oput σ3 e0 (.inr (7, cTf (pp at') (nI cd) .null σ.2.1))).2 = σ3.2 := rfl
    generalize oput σ3 e0 (.inr (7, cTf (pp at') (nI cd) .null σ.2.1)) = σ4 at v4 e4 S4 k4 z4 ⊢
    have f15 : ofd σ4 (some e0) 7 15 = some (.ref σ.2.1) := by rw [ofd_at e4]; rfl
    have f9 : ofd σ4 (some σ.2.1) 7 9 = some (sLn ns1 ps1) := by rw [ofd_at S4.1]; rfl
    obtain ⟨o, eo⟩ := sLn_rf ns1 ps1
    rw [f15, ovr_rf, obn_at, f9, eo, ovr_va, obn_at]
    have p5 : opf σ4 (some e0) 7 9 (va_rf o) = some (oput σ4 e0 (.inr (7, cTf (pp at') (nI cd) (va_rf o) σ.2.1))) := by
      rw [opf_at e4 (show 9 < 21 by decide)]; rfl
    rw [p5, obn_at]
    have v5 := v4.fl (fs' := cTf (pp at') (nI cd) (va_rf o) σ.2.1) e4 (by omega)
    have e5 : (oput σ4 e0 (.inr (7, cTf (pp at') (nI cd) (va_rf o) σ.2.1))).1 e0 = some (.inr (7, cTf (pp at') (nI cd) (va_rf o) σ.2.1)) := oput_eq _ _ _
    have S5 := S4.bf (fs' := cTf (pp at') (nI cd) (va_rf o) σ.2.1) e4 le0 (v4.1.1.2.1 _ lowσ)
    have k5 : ∀ a, a ≠ e0 → (oput σ4 e0 (.inr (7, cTf (pp at') (nI cd) (va_rf o) σ.2.1))).1 a = σ3.1 a := fun a ha => by rw [oput_ne ha]; exact k4 a ha
    have z5 : (oput σ4 e0 (.inr (7, cTf (pp at') (nI cd) (va_rf o) σ.2.1))).2 = σ1.2 := z4.trans z3
    generalize oput σ4 e0 (.inr (7, cTf (pp at') (nI cd) (va_rf o) σ.2.1)) = σ5 at v5 e5 S5 k5 z5 ⊢
    have f15' : ofd σ5 (some e0) 7 15 = some (.ref σ.2.1) := by rw [ofd_at e5]; rfl
    have f6 : ofd σ5 (some σ.2.1) 7 6 = some (.int al1) := by rw [ofd_at S5.1]; rfl
    rw [f15', ovr_rf, obn_at, f6, ovi_in, obn_at]
    have z51 : σ5.2.1 = σ1.2.1 := by rw [z5]
    have z52 : σ5.2.2.1 = σ1.2.2.1 := by rw [z5]
    have z53 : σ5.2.2.2 = σ1.2.2.2 := by rw [z5]
    have fr5 : ∀ a, a < σ.2.1 → ¬ cMu A D a → a ≠ e0 → σ5.1 a = σ.1 a := fun a ha hmu hne => by rw [k5 a hne]; exact fr3 a ha hmu hne
    -- what the document's reading does here
    have eT : ∀ i S j1, s = .inr i → aSm kk T i = .inr (S, j1) → aCm kk T i = if S.2 = [(1, false, i)] then .inr (tN 24 i 0 0 s0 s0 tZ tZ, j1) else .inl j1 := fun i S j1 hi es => by
      subst hi
      rw [aTo_ok, es] at cR
      have cR' : ¬ aRl kk j1 < 6 := fun z => cR (aRl_cr.mp z)
      unfold aCm
      rw [es]
      show (if aRl kk j1 < 6 then (aSm kk T (j1 + 1)).on fun s' j' => (.inr (tN 25 i j1 (aRl kk j1) S s' tZ tZ, j') : aR tT) else if S.2 = [(1, false, i)] then .inr (tN 24 i 0 0 s0 s0 tZ tZ, j1) else .inl j1) = _
      rw [if_neg cR']
    by_cases cA : al1 = 1
    · rw [if_pos cA]
      refine ⟨σ5, at1, am + 1, bd1, nf1, ff, rfl, v5, ?_, ⟨by omega, fr5⟩, ⟨by omega, by omega⟩, ⟨a7, _, e5, rfl⟩, fun i t j hi ht => ?_⟩
      · cases s with
        | inl j => exact a3
        | inr i =>
          rw [aTo_ok] at a3 ⊢
          cases es : aSm kk T i with
          | inl j =>
            unfold aCm
            rw [es] at a3 ⊢
            exact a3
          | inr r =>
            obtain ⟨S, j1⟩ := r
            obtain ⟨-, -, -, -, y5⟩ := a8 i S j1 rfl es
            rw [eT i S j1 rfl es, if_pos ((aSm_al es).mp (y5 ▸ cA))]
            rw [es] at a3
            exact a3
      · subst hi
        have hati : at' = i := ho.2.1
        subst hati
        cases es : aSm kk T at' with
        | inl j2 =>
          unfold aCm at ht
          rw [es] at ht
          cases ht
        | inr r =>
          obtain ⟨S, j1⟩ := r
          obtain ⟨y1, y2, y3, y4, y5⟩ := a8 at' S j1 rfl es
          have eS := (aSm_al es).mp (y5 ▸ cA)
          rw [eT at' S j1 rfl es, if_pos eS] at ht
          cases ht
          have q1 : ∀ p ∈ ps1, 0 < p.1 → nRes f pp ee nm ν p.2.2 = ns1 p.2.2 := fun p hp hg => (y4 p (by rw [← y2]; exact hp) hg).symm
          have eo' : va_rf o = va_rf (nRes f pp ee nm ν at') := by
            rw [← eo, y2, eS, y4 (1, false, at') (by rw [eS]; exact List.mem_singleton.mpr rfl) Nat.one_pos |>.symm]
            rfl
          refine ⟨rfl, Or.inl ⟨rfl, σ.2.1, al1, pa1, su1, na1, ta1, cap1, pc1, by rw [← eo']; exact e5, ?_⟩, Or.inl ⟨rfl, ?_, rfl⟩⟩
          · rw [← eS, ← y2]; exact S5.nsc q1
          · have N := N3 at' S j rfl es
            rw [eS] at N
            have N' : cNm pp ee f σ3 D nm (nUse f pp ee at' ν) cd nf1 := N
            exact N'.gn (fun a c ea hc => by
              rw [k5 a (fun z => by rw [z, e3] at ea; cases ea; rcases hc with ⟨x, y⟩ | ⟨x, y⟩ | ⟨x, y⟩ <;> cases y)]
              exact ea)
    · rw [if_neg cA, oob_at v5.2.1, obn_at]
      obtain ⟨σ6, bd6, w1, w2, w3, w4, w5, w6⟩ := c_fail (κ := κ) (T := T) (n := m) v5 a3 (by omega)
      rw [w1, ocv_at]
      have w51 : σ6.2.1 = σ5.2.1 := by rw [w5]
      have w52 : σ6.2.2.1 = σ5.2.2.1 := by rw [w5]
      have w53 : σ6.2.2.2 = σ5.2.2.2 := by rw [w5]
      refine ⟨σ6, at1, am + 1, bd6, nf1, ff, rfl, w2, ?_, ⟨by omega, fun a ha hmu hne => ?_⟩, ⟨by omega, by omega⟩, ⟨a7, _, v5.kd w4 e5 (by omega), rfl⟩, fun i t j hi ht => ?_⟩
      · cases s with
        | inl j => exact w3
        | inr i =>
          rw [aTo_ok] at w3 ⊢
          cases es : aSm kk T i with
          | inl j =>
            unfold aCm
            rw [es] at w3 ⊢
            exact w3
          | inr r =>
            obtain ⟨S, j1⟩ := r
            obtain ⟨-, -, -, -, y5⟩ := a8 i S j1 rfl es
            rw [eT i S j1 rfl es, if_neg (fun z => cA (y5.trans ((aSm_al es).mpr z)))]
            rw [es] at w3
            exact w3
      · rw [w6 a (fun z => hmu (Or.inl z))]; exact fr5 a ha hmu hne
      · exfalso
        cases es : aSm kk T i with
        | inl j2 =>
          unfold aCm at ht
          rw [es] at ht
          cases ht
        | inr r =>
          obtain ⟨S, j1⟩ := r
          obtain ⟨-, -, -, -, y5⟩ := a8 i S j1 hi es
          rw [eT i S j1 hi es, if_neg (fun z => cA (y5.trans ((aSm_al es).mpr z)))] at ht
          cases ht
end CQB
