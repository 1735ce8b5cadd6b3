/-! the class's parser: an S -/
theorem aPt_le {kk : Nat → Int32} {cnt i j : Nat} {g : Bool} {p : tP} (h0 : kk cnt = 0) (hi : i ≤ cnt) (h : aPt kk g i = .inr (p, j)) : j ≤ cnt := by
  have L : ∀ k x, 0 < k → k < 400 → x ≤ cnt → aIs kk k x = true → x < cnt := fun k x k1 k2 hx e => by
    by_cases c : x < cnt
    · exact c
    · have e' : kk x = nI k := of_decide_eq_true e
      rw [show x = cnt by omega, h0] at e'
      have := nI_inj' (a := 0) (by omega) (by omega) e'
      omega
  unfold aPt at h
  by_cases c1 : aIs kk 211 i = true
  · rw [if_pos c1] at h
    obtain ⟨u, j1, z, h⟩ := on_ok h
    obtain ⟨z1, rfl⟩ := aMs_ok z
    cases h
    have := L 211 i (by omega) (by omega) hi c1
    have := L 1 (i + 1) (by omega) (by omega) (by omega) z1
    omega
  · rw [if_neg c1] at h
    by_cases c2 : aIs kk 221 i = true
    · rw [if_pos c2] at h
      obtain ⟨u, j1, z, h⟩ := on_ok h
      obtain ⟨z1, rfl⟩ := aMs_ok z
      cases h
      have := L 221 i (by omega) (by omega) hi c2
      have := L 1 (i + 1) (by omega) (by omega) (by omega) z1
      omega
    · rw [if_neg c2] at h
      by_cases c3 : aIs kk 2 i = true
      · rw [if_pos c3] at h
        cases h
        have := L 2 i (by omega) (by omega) hi c3
        omega
      · rw [if_neg c3] at h
        obtain ⟨u, j1, z, h⟩ := on_ok h
        obtain ⟨z1, rfl⟩ := aMs_ok z
        cases h
        have := L 1 i (by omega) (by omega) hi z1
        omega
/-- turns beyond the words do not matter -/
theorem aSL_fu {kk : Nat → Int32} {cnt : Nat} (h0 : kk cnt = 0) : ∀ (t t' i : Nat), i ≤ cnt → cnt < i + t → cnt < i + t' → aSL kk t i = aSL kk t' i
  | 0, _, i, h1, h2, _ => by omega
  | _ + 1, 0, i, h1, _, h3 => by omega
  | t + 1, t' + 1, i, h1, h2, h3 => by
    rw [aSL, aSL]
    by_cases c : (aIs kk 43 i || aIs kk 45 i) = true
    · rw [if_pos c, if_pos c]
      have hi : i < cnt := by
        by_cases q : i < cnt
        · exact q
        · exfalso
          have e : i = cnt := by omega
          have f1 : aIs kk 43 i = false := decide_eq_false (by rw [e, h0]; decide)
          have f2 : aIs kk 45 i = false := decide_eq_false (by rw [e, h0]; decide)
          rw [f1, f2] at c
          cases c
      cases ep : aPt kk (aIs kk 45 i) (i + 1) with
      | inl j => rfl
      | inr r =>
        obtain ⟨p, j⟩ := r
        have hj := aPt_le h0 (by omega) ep
        have hw := (aPt_w ep).2.2.2
        show (aSL kk t j).on _ = (aSL kk t' j).on _
        rw [aSL_fu h0 t t' j hj (by omega) (by omega)]
    · rw [if_neg c, if_neg c]
section CPS
variable {κ : oKv} {sz T n m len cnt : Nat} {kk pp ee f : Nat → Int32} {A : Nat → Nat} {nq ni : Int32} {rt : Value} {σ σ' : oSt} {D : cDt} {at' cd : Nat} {cn am bd nf ff : Int32} {s : Sum Nat Nat} {nm ns : Nat → Option Nat} {ν : nSt} {lo e i pa su na ta cap pc : Nat} {ps : List tP} {al : Int32}
/-- the S's node with no PART alone -/
theorem cSp.al0 (h : cSp κ T pp ee f A D lo σ e i cd ns ps al pa su na ta cap pc) : opf σ (some e) 7 6 (.int 0) = some (oput σ e (.inr (7, cSf (pp i) (nI cd) 0 (sLn ns ps) pa su))) ∧ cSp κ T pp ee f A D lo (oput σ e (.inr (7, cSf (pp i) (nI cd) 0 (sLn ns ps) pa su))) e i cd ns ps 0 pa su na ta cap pc := by
  obtain ⟨h1, ⟨d, mc, g, l2, l3, l4, l5⟩, ⟨g0, h0', y1, y2, y3, y4, y5⟩, h9, h10, h11, h12, h13⟩ := h
  have pe : pa ≠ e := fun z => by have w := l2.1; rw [z, h1] at w; cases w
  have de : d ≠ e := fun z => by
    rcases l2.2.1 with ⟨-, -, -, w⟩ | ⟨w, -⟩
    · rw [z, h1] at w; cases w
    · rw [z, h1] at w; cases w
  have se : su ≠ e := fun z => by rw [z, h1] at y1; cases y1
  have ne : na ≠ e := fun z => by rw [z, h1] at y2; cases y2
  have te : ta ≠ e := fun z => by rw [z, h1] at y3; cases y3
  refine ⟨opf_at h1 (show 6 < 21 by decide), oput_eq _ _ _, ⟨d, mc, g, l2.keep (oput_ne pe) (oput_ne de) (fun a fs ea => ?_), fun k p ek => ?_, ?_, l5⟩, ⟨g0, h0', by rw [oput_ne se]; exact y1, by rw [oput_ne ne]; exact y2, by rw [oput_ne te]; exact y3, y4, fun k b c ek => ?_⟩, h9, h10, h11, h12, h13⟩
  · by_cases z : a = e
    · rw [z]; exact ⟨_, oput_eq _ _ _⟩
    · exact ⟨fs, by rw [oput_ne z]; exact ea⟩
  · obtain ⟨a, z1, z2, z3, z4⟩ := l3 k p ek
    exact ⟨a, z1, z2, z3, by rw [oput_ne z2]; exact z4⟩
  · rcases l4 with z | ⟨z, z'⟩
    · exact Or.inl z
    · exact Or.inr ⟨z, by rw [oput_ne de]; exact z'⟩
  · obtain ⟨z1, z2, fs, z3⟩ := y5 k b c ek
    exact ⟨z1, z2, fs, by rw [oput_ne (fun z => by rw [z, h1] at z3; cases z3)]; exact z3⟩
/-- what the rest of an S gives -/
def cSz (κ : oKv) (sz T len cnt : Nat) (kk pp ee f : Nat → Int32) (A : Nat → Nat) (nq ni : Int32) (rt : Value) (D : cDt) (cd : Nat) (cn am ff : Int32) (nm ns : Nat → Option Nat) (ν : nSt) (lo e i pa su cap pc : Nat) (ps : List tP) (al : Int32) (σ : oSt) (at' : Nat) (s : Sum Nat Nat) (F : Nat → aR (List tP)) (σ' : oSt) : Prop := ∃ (at2 : Nat) (bd2 nf2 : Int32) (ns' : Nat → Option Nat) (ps' : List tP) (al' : Int32) (na' ta' cap' pc' : Nat), cV κ sz len cnt kk pp ee f A nq ni rt σ' D at2 cd cn am bd2 nf2 ff ∧ cO pp cnt at2 bd2 (aTo s F) ∧ (σ.2.1 ≤ σ'.2.1 ∧ ∀ a, a < lo → ¬ cMu A D a → σ'.1 a = σ.1 a) ∧ cSp κ T pp ee f A D lo σ' e i cd ns' ps' al' pa su na' ta' cap' pc' ∧ (σ'.2.2.1 + 6 * ps.length ≤ σ.2.2.1 + 6 * ps'.length ∧ σ'.2.2.2 + (4 * pc - 30) + 4 * cap + 45 * ps.length ≤ σ.2.2.2 + (4 * pc' - 30) + 4 * cap' + 45 * ps'.length) ∧ ((∀ w, w < at' → ns' w = ns w) ∧ at' ≤ at2 ∧ ps'.length + at' ≤ ps.length + at2 ∧ ps.length ≤ ps'.length) ∧ (∀ i q j, s = .inr i → F i = .inr (q, j) → ps' = ps ++ q ∧ cNm pp ee f σ' D nm (q.foldl (fun ν p => nPt f pp ee p ν) ν) cd nf2 ∧ (∀ p ∈ q, 0 < p.1 → ns' p.2.2 = nRes f pp ee nm ν p.2.2) ∧ al' = if q = [] then al else 0)
end CPS
