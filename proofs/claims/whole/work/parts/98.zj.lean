/-! the class's parser: an S is read -/
/-- the word of an S that is one word -/
def tAl (kk : Nat → Int32) (t : tS) : Int32 := if aIs kk 45 t.1 = true then 0 else if t.2.length = 1 then kk t.1 else 0
/-- an S of one PART -/
def aS1 (kk : Nat → Int32) (i : Nat) : aR tS := (aPt kk (aIs kk 45 i) (if aIs kk 45 i = true then i + 1 else i)).on fun p j => .inr ((i, [p]), j)
/-- what an S's reading gives -/
def cSo (κ : oKv) (sz T len cnt : Nat) (kk pp ee f : Nat → Int32) (A : Nat → Nat) (nq ni : Int32) (rt : Value) (D : cDt) (cd : Nat) (cn am ff : Int32) (nm : Nat → Option Nat) (ν : nSt) (σ : oSt) (at' : Nat) (s : Sum Nat Nat) (F : Nat → aR tS) (σ' : oSt) (at2 : Nat) (bd2 nf2 : Int32) (ns' : Nat → Option Nat) (ps' : List tP) (al' : Int32) (pa su na ta cap pc : Nat) : Prop := cV κ sz len cnt kk pp ee f A nq ni rt σ' D at2 cd cn am bd2 nf2 ff ∧ cO pp cnt at2 bd2 (aTo s F) ∧ cFr A σ D σ' D ∧ cSp κ T pp ee f A D σ.2.1 σ' σ.2.1 at' cd ns' ps' al' pa su na ta cap pc ∧ (σ'.2.2.1 ≤ σ.2.2.1 + 5 + 6 * ps'.length ∧ σ'.2.2.2 ≤ σ.2.2.2 + 26 + 61 * ps'.length) ∧ (at' ≤ at2 ∧ 0 < ps'.length ∧ ps'.length + at' ≤ at2 + 1) ∧ (∀ i t j, s = .inr i → F i = .inr (t, j) → t.1 = i ∧ ps' = t.2 ∧ cNm pp ee f σ' D nm (t.2.foldl (fun ν p => nPt f pp ee p ν) ν) cd nf2 ∧ (∀ p ∈ t.2, 0 < p.1 → ns' p.2.2 = nRes f pp ee nm ν p.2.2) ∧ al' = tAl kk t)
section CPX
variable {κ : oKv} {sz T n m len cnt : Nat} {kk pp ee f : Nat → Int32} {A : Nat → Nat} {nq ni : Int32} {rt : Value} {σ σ' : oSt} {D : cDt} {at' cd : Nat} {cn am bd nf ff : Int32} {s : Sum Nat Nat} {nm ns : Nat → Option Nat} {ν : nSt} {lo e i pa su na ta cap pc : Nat} {ps : List tP} {al : Int32}
theorem cSp.cp (h : cSp κ T pp ee f A D lo σ e i cd ns ps al pa su na ta cap pc) : pc ≤ 10 + 2 * (ps.length - 1) ∧ cap ≤ 2 + 2 * (ps.length - 1) := by
  obtain ⟨-, ⟨d, mc, g, -, -, -, l5, l6⟩, -⟩ := h
  have hNl : (sNm ps).length ≤ ps.length := List.length_filter_le _ _
  exact ⟨by omega, l6⟩
/-- the sign in front -/
theorem c_s1 {t : Nat} {x1 : Int32} (hx1 : ¬ x1 ≤ 0) (h : cV κ sz len cnt kk pp ee f A nq ni rt σ D at' cd cn am bd nf ff) (ho : cO pp cnt at' bd s) (hS : cSp κ T pp ee f A D lo σ e i cd ns ps al pa su na ta cap pc) (hm : 8 ≤ m) : ∃ σ1 at1, ol_X7_sum__43 T (oF κ T m) κ (t + 1) (some (A 0)) x1 (some e) 1 0 σ = oj_X7_sum__92 T (oF κ T m) κ (ol_X7_sum__43 T (oF κ T m) κ t) (some (A 0)) x1 (some e) 0 (sg (aNg kk s)) σ1 ∧ cV κ sz len cnt kk pp ee f A nq ni rt σ1 D at1 cd cn am bd nf ff ∧ cO pp cnt at1 bd (aSg kk s) ∧ cSp κ T pp ee f A D lo σ1 e i cd ns ps (if aNg kk s = true then 0 else al) pa su na ta cap pc ∧ σ1.2 = σ.2 ∧ (∀ a, a < lo → ¬ cMu A D a → σ1.1 a = σ.1 a) ∧ at' ≤ at1 ∧ (cNm pp ee f σ D nm ν cd nf → cNm pp ee f σ1 D nm ν cd nf) := by
  have q0 : (1 : Int32) ≠ 0 := by decide
  have q1 : (0 : Int32) ≤ 0 := by decide
  rw [ol_X7_sum__43, if_neg hx1, if_neg q0, oob_at h.2.1, obn_at, c_kind (n := m) h ho (by omega), oin_at]
  by_cases c : aNg kk s = true
  · cases s with
    | inl j => cases c
    | inr i0 =>
      have ho' := ho
      obtain ⟨o1, o2, o3⟩ := ho
      subst o2
      have c45 : kk at' = 45 := of_decide_eq_true c
      have c' : aIs kk 45 at' = true := c
      have hlt' : at' < cnt := by
        by_cases q : at' < cnt
        · exact q
        · exfalso
          rw [show at' = cnt by omega, h.1.2.2.2.2.2.1] at c45
          exact absurd c45 (by decide)
      rw [if_pos (show cK kk (.inr at') = 45 from c45)]
      unfold oj_X7_sum__67
      rw [oob_at h.2.1, obn_at, c_kind (n := m) h ho' (by omega), oin_at, if_pos (show cK kk (.inr at') = 45 from c45)]
      unfold oj_X7_sum__83
      obtain ⟨w1, w2⟩ := hS.al0
      obtain ⟨y1, -⟩ := hS
      rw [w1, obn_at]
      have v1 := h.fl (fs' := cSf (pp i) (nI cd) 0 (sLn ns ps) pa su) y1 (by omega)
      have hk1 : ∀ a, a ≠ e → (oput σ e (.inr (7, cSf (pp i) (nI cd) 0 (sLn ns ps) pa su))).1 a = σ.1 a := fun a ha => oput_ne ha
      have hs1 : (oput σ e (.inr (7, cSf (pp i) (nI cd) 0 (sLn ns ps) pa su))).2 = σ.2 := rfl
      generalize oput σ e (.inr (7, cSf (pp i) (nI cd) 0 (sLn ns ps) pa su)) = σ1 at w2 v1 hk1 hs1 ⊢
      obtain ⟨q1, q2, q3, q4⟩ := c_next (κ := κ) (T := T) (n := m) v1 ho' hlt' (by omega)
      rw [oob_at v1.2.1, obn_at, q1, ocv_at]
      have S2 := w2.to (ns' := ns) v1 q3 (q2.1.1.2.1 _ h.1.1.2.2.2) (fun _ _ => rfl)
      refine ⟨_, at' + 1, ?_, q2, ?_, ?_, hs1, fun a ha hmu => ?_, Nat.le_succ _, fun hN => ?_⟩
      · rw [c]; rfl
      · show cO pp cnt (at' + 1) bd (.inr (if aIs kk 45 at' = true then at' + 1 else at'))
        rw [if_pos c']; exact q4
      · rw [if_pos c]; exact S2
      · rw [oput_ne (fun z => hmu (Or.inl z)), hk1 a (by have := w2.2.2.2.1.1; omega)]
      · exact hN.gn (fun a c ea hc => by
          rw [oput_ne (fun z => by rw [z, h.2.1] at ea; cases ea; exact hc.n9), hk1 a (fun z => by rw [z, y1] at ea; cases ea; rcases hc with ⟨x, y⟩ | ⟨x, y⟩ | ⟨x, y⟩ <;> cases y)]
          exact ea)
  · have n45 : ¬ cK kk s = 45 := fun z => by
      cases s with
      | inl j => exact absurd (show (0 : Int32) = 45 from z) (by decide)
      | inr i0 => exact c (decide_eq_true z)
    have cf : aNg kk s = false := by cases hh : aNg kk s with
      | true => exact absurd hh c
      | false => rfl
    rw [if_neg n45]
    unfold oj_X7_sum__67
    rw [oob_at h.2.1, obn_at, c_kind (n := m) h ho (by omega), oin_at, if_neg n45, if_pos q1]
    refine ⟨σ, at', by rw [cf]; rfl, h, ?_, by rw [if_neg c]; exact hS, rfl, fun _ _ _ => rfl, Nat.le_refl _, fun hN => hN⟩
    cases s with
    | inl j => exact ho
    | inr i0 =>
      show cO pp cnt at' bd (.inr (if aIs kk 45 i0 = true then i0 + 1 else i0))
      rw [if_neg (show ¬ aIs kk 45 i0 = true from c)]
      exact ho
end CPX
