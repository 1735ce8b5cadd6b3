/-! the class's parser: a comparison behind its REL -/
/-- a comparison's node -/
def cCf (pl cd mk rl : Int32) (l r su : Nat) : List Value := [.int 403, .int pl, .int cd, .int mk, .int 0, .int rl, .int 0, .int 0, .int 0, .null, .null, .null, .null, .null, .null, .ref l, .ref r, .null, .null, .ref su, .null]
def cC0 (k pl cd mk rl : Int32) (l : Nat) : List Value := [.int k, .int pl, .int cd, .int mk, .int 0, .int rl, .int 0, .int 0, .int 0, .null, .null, .null, .null, .null, .null, .ref l, .null, .null, .null, .null, .null]
def cC1 (pl cd mk rl : Int32) (l r : Nat) : List Value := [.int 403, .int pl, .int cd, .int mk, .int 0, .int rl, .int 0, .int 0, .int 0, .null, .null, .null, .null, .null, .null, .ref l, .ref r, .null, .null, .null, .null]
/-- both sides' difference -/
def sDf (L L' : List (Nat × Int32)) : List (Nat × Int32) := sAll (-1) L' (sAll 1 L [])
section CQA
variable {κ : oKv} {sz T n m len cnt : Nat} {kk pp ee f : Nat → Int32} {A : Nat → Nat} {nq ni : Int32} {rt : Value} {σ σ' : oSt} {D : cDt} {at' cd : Nat} {cn am bd nf ff : Int32} {s : Sum Nat Nat} {nm ns : Nat → Option Nat} {ν : nSt} {lo l i pa su na ta cap pc : Nat} {ps : List tP} {al : Int32}
theorem cSp.sm {e : Nat} (h : cSp κ T pp ee f A D lo σ e i cd ns ps al pa su na ta cap pc) : ofd σ (some e) 7 19 = some (.ref su) ∧ cSm σ su na ta cap (sL ns ps) (sPl T (fun j => f j &&& 255) pp ee ps) ∧ su < σ.2.1 ∧ na < σ.2.1 ∧ ta < σ.2.1 := by
  obtain ⟨h1, -, h8, h9, h10, h11, h12, h13⟩ := h
  exact ⟨by rw [ofd_at h1]; rfl, h8, h11.2.1, h12.2.1, h13.2.1⟩
set_option maxHeartbeats 4000000 in
theorem c_72 {e0 : Nat} {k0 : Int32} (h : cV κ sz len cnt kk pp ee f A nq ni rt σ D at' cd cn am bd nf ff) (ho : cO pp cnt at' bd (.inr at')) (hn : cNm pp ee f σ D nm ν cd nf) (he : σ.1 e0 = some (.inr (7, cC0 k0 (pp i) (nI cd) (pp i) 0 l))) (hS : cSp κ T pp ee f A D lo σ l i cd ns ps al pa su na ta cap pc) (hlo : e0 < lo) (hlt : at' < cnt) (hps : ps.length ≤ at' + 1) (hm : 10 ≤ m) (hT : 2010 ≤ T) (hwl : ∀ j, j < cnt → wL pp ee j ≤ 10) : ∃ σ' at2 bd2 nf2 ff2 ns2 ps2 al2 r pa2 su2 na2 ta2 cap2 pc2 q na3 ta3 cap3, oj_X7_comparison_72 T (oF κ T m) κ (some (A 0)) (some e0) σ = some (some (va_rf (some e0)), σ') ∧ cV κ sz len cnt kk pp ee f A nq ni rt σ' D at2 cd cn am bd2 nf2 ff2 ∧ cO pp cnt at2 bd2 (aTo (.inr (at' + 1)) (aSm kk T)) ∧ (σ.2.1 ≤ σ'.2.1 ∧ ∀ a, a < σ.2.1 → ¬ cMu A D a → a ≠ e0 → σ'.1 a = σ.1 a) ∧ (σ'.1 e0 = some (.inr (7, cCf (pp i) (nI cd) (pp at') (kk at') l r q)) ∧ cSp κ T pp ee f A D lo σ' l i cd ns ps al pa su na ta cap pc ∧ cSp κ T pp ee f A D lo σ' r (at' + 1) cd ns2 ps2 al2 pa2 su2 na2 ta2 cap2 pc2 ∧ cSm σ' q na3 ta3 cap3 (sDf (sL ns ps) (sL ns2 ps2)) (0 + (1 : Int32).toInt64 * sPl T (fun j => f j &&& 255) pp ee ps + (-1 : Int32).toInt64 * sPl T (fun j => f j &&& 255) pp ee ps2) ∧ cOk A D lo σ' q ∧ cOk A D lo σ' na3 ∧ cOk A D lo σ' ta3) ∧ (σ'.2.2.1 ≤ σ.2.2.1 + 8 + 2 * ps.length + 8 * ps2.length ∧ σ'.2.2.2 ≤ σ.2.2.2 + 42 + 8 * ps.length + 69 * ps2.length) ∧ (at' < at2 ∧ ps2.length + at' ≤ at2) ∧ (∀ t j, aSm kk T (at' + 1) = .inr (t, j) → ps2 = t.2 ∧ cNm pp ee f σ' D nm (t.2.foldl (fun ν p => nPt f pp ee p ν) ν) cd nf2 ∧ (∀ p ∈ t.2, 0 < p.1 → ns2 p.2.2 = nRes f pp ee nm ν p.2.2) ∧ ff2 = if sFa (sDf (sL ns ps) (sL ns2 ps2)) = true then ff else fMin ff (pp at')) := by
  have lowσ : κ.2.2.1 < sz := h.1.1.2.2.2
  have hcn : cnt ≤ 2000 := by have := h.1.2.1.2.2.2.2.2; have := h.1.2.1.2.2.2.2.1; omega
  have cko : cK kk (.inr at') = kk at' := rfl
  have le0 : e0 < σ.2.1 := alt h.1.1.1 he
  unfold oj_X7_comparison_72
  -- the node: its kind, its REL, its mark
  have p1 : opf σ (some e0) 7 0 (.int 403) = some (oput σ e0 (.inr (7, cC0 403 (pp i) (nI cd) (pp i) 0 l))) := by
    rw [opf_at he (show 0 < 21 by decide)]; rfl
  rw [p1, obn_at]
  have v1 := h.fl (fs' := cC0 403 (pp i) (nI cd) (pp i) 0 l) he (by omega)
  have e1 : (oput σ e0 (.inr (7, cC0 403 (pp i) (nI cd) (pp i) 0 l))).1 e0 = some (.inr (7, cC0 403 (pp i) (nI cd) (pp i) 0 l)) := oput_eq _ _ _
  have S1 := hS.bf (fs' := cC0 403 (pp i) (nI cd) (pp i) 0 l) he hlo (h.1.1.2.1 _ lowσ)
  have k1 : ∀ a, a ≠ e0 → (oput σ e0 (.inr (7, cC0 403 (pp i) (nI cd) (pp i) 0 l))).1 a = σ.1 a := fun a ha => oput_ne ha
  have z1 : (oput σ e0 (.inr (7, cC0 403 (pp i) (nI cd) (pp i) 0 l))).2 = σ.2 := rfl
  generalize oput σ e0 (.inr (7, cC0 403 (pp i) (nI cd) (pp i) 0 l)) = σ1 at v1 e1 S1 k1 z1 ⊢
  rw [oob_at v1.2.1, obn_at, c_kind (n := m) v1 ho (by omega), oin_at, cko]
  have p2 : opf σ1 (some e0) 7 5 (.int (kk at')) = some (oput σ1 e0 (.inr (7, cC0 403 (pp i) (nI cd) (pp i) (kk at') l))) := by
    rw [opf_at e1 (show 5 < 21 by decide)]; rfl
  rw [p2, obn_at]
  have v2 := v1.fl (fs' := cC0 403 (pp i) (nI cd) (pp i) (kk at') l) e1 (by omega)
  have e2 : (oput σ1 e0 (.inr (7, cC0 403 (pp i) (nI cd) (pp i) (kk at') l))).1 e0 = some (.inr (7, cC0 403 (pp i) (nI cd) (pp i) (kk at') l)) := oput_eq _ _ _
  have S2 := S1.bf (fs' := cC0 403 (pp i) (nI cd) (pp i) (kk at') l) e1 hlo (v1.1.1.2.1 _ lowσ)
  have k2 : ∀ a, a ≠ e0 → (oput σ1 e0 (.inr (7, cC0 403 (pp i) (nI cd) (pp i) (kk at') l))).1 a = σ.1 a := fun a ha => by rw [oput_ne ha]; exact k1 a ha
  have z2 : (oput σ1 e0 (.inr (7, cC0 403 (pp i) (nI cd) (pp i) (kk at') l))).2 = σ.2 := z1
  generalize oput σ1 e0 (.inr (7, cC0 403 (pp i) (nI cd) (pp i) (kk at') l)) = σ2 at v2 e2 S2 k2 z2 ⊢
  rw [oob_at v2.2.1, obn_at, c_here (n := m) v2 (by omega), oin_at]
  have p3 : opf σ2 (some e0) 7 3 (.int (pp at')) = some (oput σ2 e0 (.inr (7, cC0 403 (pp i) (nI cd) (pp at') (kk at') l))) := by
    rw [opf_at e2 (show 3 < 21 by decide)]; rfl
  rw [p3, obn_at]
  have v3 := v2.fl (fs' := cC0 403 (pp i) (nI cd) (pp at') (kk at') l) e2 (by omega)
  have e3 : (oput σ2 e0 (.inr (7, cC0 403 (pp i) (nI cd) (pp at') (kk at') l))).1 e0 = some (.inr (7, cC0 403 (pp i) (nI cd) (pp at') (kk at') l)) := oput_eq _ _ _
  have S3 := S2.bf (fs' := cC0 403 (pp i) (nI cd) (pp at') (kk at') l) e2 hlo (v2.1.1.2.1 _ lowσ)
  have k3 : ∀ a, a ≠ e0 → (oput σ2 e0 (.inr (7, cC0 403 (pp i) (nI cd) (pp at') (kk at') l))).1 a = σ.1 a := fun a ha => by rw [oput_ne ha]; exact k2 a ha
  have z3 : (oput σ2 e0 (.inr (7, cC0 403 (pp i) (nI cd) (pp at') (kk at') l))).2 = σ.2 := z2
  generalize oput σ2 e0 (.inr (7, cC0 403 (pp i) (nI cd) (pp at') (kk at') l)) = σ3 at v3 e3 S3 k3 z3 ⊢
  -- the REL is read
  obtain ⟨n1, v4, n3, n4⟩ := c_next (κ := κ) (T := T) (n := m) v3 ho hlt (by omega)
  rw [oob_at v3.2.1, obn_at, n1, ocv_at]
  have S4 := S3.to (ns' := ns) v3 n3 (v4.1.1.2.1 _ lowσ) (fun _ _ => rfl)
  have e4 := v3.kd n3 e3 (by omega)
  have N4 : cNm pp ee f (oput σ3 (A 0) (.inr (9, cPs A nq ni rt (at' + 1) cd cn am bd nf ff))) D nm ν cd nf := hn.gn (fun a c ea hc => by
    rw [oput_ne (fun z => by rw [z, h.2.1] at ea; cases ea; exact hc.n9), k3 a (fun z => by rw [z, he] at ea; cases ea; rcases hc with ⟨x, y⟩ | ⟨x, y⟩ | ⟨x, y⟩ <;> cases y)]
    exact ea)
  have k4 : ∀ a, ¬ cMu A D a → a ≠ e0 → (oput σ3 (A 0) (.inr (9, cPs A nq ni rt (at' + 1) cd cn am bd nf ff))).1 a = σ.1 a := fun a hmu ha => by
    rw [oput_ne (fun z => hmu (Or.inl z)), k3 a ha]
  have z4 : (oput σ3 (A 0) (.inr (9, cPs A nq ni rt (at' + 1) cd cn am bd nf ff))).2 = σ.2 := z3
  generalize oput σ3 (A 0) (.inr (9, cPs A nq ni rt (at' + 1) cd cn am bd nf ff)) = σ4 at v4 S4 e4 N4 n4 k4 z4 ⊢
  have z41 : σ4.2.1 = σ.2.1 := by rw [z4]
  -- the right S
  rw [oob_at v4.2.1, obn_at]
  obtain ⟨m2, hm2⟩ : ∃ m2, m = m2 + 2 := ⟨m - 2, by omega⟩
  obtain ⟨σ5, a1, at2, bd2, nf2, ns2, ps2, al2, pa2, su2, na2, ta2, cap2, pc2, a2, a3, a4, a5, ⟨a6, a6b⟩, ⟨a7, a7b, a7c⟩, a8⟩ := c_sum (κ := κ) (T := T) (m := m2) (nm := nm) (ν := ν) v4 n4 (fun _ _ => N4) (by omega) hT hwl
  rw [← hm2] at a1
  rw [a1, orn_at]
  have S5 := S4.to (ns' := ns) v4 a4 (a2.1.1.2.1 _ lowσ) (fun _ _ => rfl)
  have e5 := v4.kd a4 e4 (by omega)
  have p6 : opf σ5 (some e0) 7 16 (va_rf (some σ4.2.1)) = some (oput σ5 e0 (.inr (7, cC1 (pp i) (nI cd) (pp at') (kk at') l σ4.2.1))) := by
    rw [opf_at e5 (show 16 < 21 by decide)]; rfl
  rw [p6, obn_at]
  have e6 : (oput σ5 e0 (.inr (7, cC1 (pp i) (nI cd) (pp at') (kk at') l σ4.2.1))).1 e0 = some (.inr (7, cC1 (pp i) (nI cd) (pp at') (kk at') l σ4.2.1)) := oput_eq _ _ _
  have k6 : ∀ a, a ≠ e0 → (oput σ5 e0 (.inr (7, cC1 (pp i) (nI cd) (pp at') (kk at') l σ4.2.1))).1 a = σ5.1 a := fun a ha => oput_ne ha
  have z6 : (oput σ5 e0 (.inr (7, cC1 (pp i) (nI cd) (pp at') (kk at') l σ4.2.1))).2 = σ5.2 := rfl
  have fr6 : ∀ q, σ5.2.1 ≤ q → (oput σ5 e0 (.inr (7, cC1 (pp i) (nI cd) (pp at') (kk at') l σ4.2.1))).1 q = none := fun q hq => by
    have := alt a2.1.1.1 e5
    rw [k6 q (by omega)]; exact a2.1.1.1 q hq
  generalize oput σ5 e0 (.inr (7, cC1 (pp i) (nI cd) (pp at') (kk at') l σ4.2.1)) = σ6 at e6 k6 z6 fr6 ⊢
  have z61 : σ6.2.1 = σ5.2.1 := by rw [z6]
  have le5 : e0 < σ5.2.1 := alt a2.1.1.1 e5
  -- whatever agrees with this below, keeps all
  have vF := a2.fl (fs' := cCf (pp i) (nI cd) (pp at') (kk at') l σ4.2.1 σ5.2.1) e5 (by omega)
  have eF : (oput σ5 e0 (.inr (7, cCf (pp i) (nI cd) (pp at') (kk at') l σ4.2.1 σ5.2.1))).1 e0 = some (.inr (7, cCf (pp i) (nI cd) (pp at') (kk at') l σ4.2.1 σ5.2.1)) := oput_eq _ _ _
  have SF := S5.bf (fs' := cCf (pp i) (nI cd) (pp at') (kk at') l σ4.2.1 σ5.2.1) e5 hlo (a2.1.1.2.1 _ lowσ)
  have RF := a5.bf (fs' := cCf (pp i) (nI cd) (pp at') (kk at') l σ4.2.1 σ5.2.1) e5 (by omega) (a2.1.1.2.1 _ lowσ)
  have NF : ∀ t j, aSm kk T (at' + 1) = .inr (t, j) → cNm pp ee f (oput σ5 e0 (.inr (7, cCf (pp i) (nI cd) (pp at') (kk at') l σ4.2.1 σ5.2.1))) D nm (t.2.foldl (fun ν p => nPt f pp ee p ν) ν) cd nf2 := fun t j ht => (a8 _ t j rfl ht).2.2.1.gn (fun a c ea hc => by
    rw [oput_ne (fun z => by rw [z, e5] at ea; cases ea; rcases hc with ⟨x, y⟩ | ⟨x, y⟩ | ⟨x, y⟩ <;> cases y)]
    exact ea)
  have kF : ∀ a, a ≠ e0 → (oput σ5 e0 (.inr (7, cCf (pp i) (nI cd) (pp at') (kk at') l σ4.2.1 σ5.2.1))).1 a = σ5.1 a := fun a ha => oput_ne ha
  have zF : (oput σ5 e0 (.inr (7, cCf (pp i) (nI cd) (pp at') (kk at') l σ4.2.1 σ5.2.1))).2 = σ5.2 := rfl
  generalize oput σ5 e0 (.inr (7, cCf (pp i) (nI cd) (pp at') (kk at') l σ4.2.1 σ5.2.1)) = τ at vF eF SF RF NF kF zF ⊢
  have zF1 : τ.2.1 = σ5.2.1 := by rw [zF]
  have KEEP : ∀ τ' : oSt, (∀ a, a < σ5.2.1 → τ'.1 a = τ.1 a) → (∀ q, τ'.2.1 ≤ q → τ'.1 q = none) → σ5.2.1 ≤ τ'.2.1 → cV κ sz len cnt kk pp ee f A nq ni rt τ' D at2 cd cn am bd2 nf2 ff ∧ cFr A τ D τ' D ∧ cSp κ T pp ee f A D lo τ' l i cd ns ps al pa su na ta cap pc ∧ cSp κ T pp ee f A D σ4.2.1 τ' σ4.2.1 (at' + 1) cd ns2 ps2 al2 pa2 su2 na2 ta2 cap2 pc2 := fun τ' g1 g2 g3 => by
    obtain ⟨w1, w2⟩ := vF.ex (fun a ha => g1 a (by omega)) g2 (by omega)
    exact ⟨w1, w2, SF.to vF w2 (w1.1.1.2.1 _ lowσ) (fun _ _ => rfl), RF.to vF w2 (w1.1.1.2.1 _ lowσ) (fun _ _ => rfl)⟩
  -- the sum of both
  rw [olet_at, oq_11, obn_at, z61]
  have e7 : (onew σ6 (.inr (11, odef 11)) 4).1 σ6.2.1 = some (.inr (11, odef 11)) := onew_eq _ _ _
  have k7 : ∀ a, a ≠ σ6.2.1 → (onew σ6 (.inr (11, odef 11)) 4).1 a = σ6.1 a := fun a ha => onew_ne ha
  have z7 : (onew σ6 (.inr (11, odef 11)) 4).2 = (σ5.2.1 + 1, σ5.2.2.1 + 1, σ5.2.2.2 + 4) := by
    show (σ6.2.1 + 1, σ6.2.2.1 + 1, σ6.2.2.2 + 4) = _
    rw [z6]
  generalize onew σ6 (.inr (11, odef 11)) 4 = σ7 at e7 k7 z7 ⊢
  rw [z61] at e7 k7
  have z71 : σ7.2.1 = σ5.2.1 + 1 := by rw [z7]
  have fr7 : ∀ q, σ7.2.1 ≤ q → σ7.1 q = none := fun q hq => by rw [k7 q (by omega)]; exact fr6 q (by omega)
  obtain ⟨m1, hm1⟩ : ∃ m1, m = m1 + 4 := ⟨m - 4, by omega⟩
  obtain ⟨σ8, x1', x2, x3, x4, x5⟩ := x_init (κ := κ) (T := T) (n := m1 + 3) e7 fr7
  rw [show m1 + 3 + 1 = m by omega] at x1'
  rw [x1', ocv_at]
  rw [z7] at x5
  rw [z71] at x2 x3 x4
  have z8 : σ8.2 = (σ5.2.1 + 3, σ5.2.2.1 + 3, σ5.2.2.2 + 8) := by rw [x5]
  have e8 : σ8.1 e0 = some (.inr (7, cC1 (pp i) (nI cd) (pp at') (kk at') l σ4.2.1)) := by rw [x3 _ (by omega) (by omega), k7 _ (by omega)]; exact e6
  have p9 : opf σ8 (some e0) 7 19 (va_rf (some σ5.2.1)) = some (oput σ8 e0 (.inr (7, cCf (pp i) (nI cd) (pp at') (kk at') l σ4.2.1 σ5.2.1))) := by
    rw [opf_at e8 (show 19 < 21 by decide)]; rfl
  rw [p9, obn_at]
  have e9 : (oput σ8 e0 (.inr (7, cCf (pp i) (nI cd) (pp at') (kk at') l σ4.2.1 σ5.2.1))).1 e0 = some (.inr (7, cCf (pp i) (nI cd) (pp at') (kk at') l σ4.2.1 σ5.2.1)) := oput_eq _ _ _
  have k9 : ∀ a, a ≠ e0 → (oput σ8 e0 (.inr (7, cCf (pp i) (nI cd) (pp at') (kk at') l σ4.2.1 σ5.2.1))).1 a = σ8.1 a := fun a ha => oput_ne ha
  have z9 : (oput σ8 e0 (.inr (7, cCf (pp i) (nI cd) (pp at') (kk at') l σ4.2.1 σ5.2.1))).2 = (σ5.2.1 + 3, σ5.2.2.1 + 3, σ5.2.2.2 + 8) := z8
  generalize oput σ8 e0 (.inr (7, cCf (pp i) (nI cd) (pp at') (kk at') l σ4.2.1 σ5.2.1)) = σ9 at e9 k9 z9 ⊢
  have z91 : σ9.2.1 = σ5.2.1 + 3 := by rw [z9]
  have ag9 : ∀ a, a < σ5.2.1 → σ9.1 a = τ.1 a := fun a ha => by
    by_cases c : a = e0
    · rw [c, e9, eF]
    · rw [k9 a c, x3 a (by omega) (by omega), k7 a (by omega), k6 a c, kF a c]
  have fr9 : ∀ q, σ9.2.1 ≤ q → σ9.1 q = none := fun q hq => by rw [k9 q (by omega)]; exact x4 q (by omega)
  obtain ⟨v9, r9, S9, R9⟩ := KEEP σ9 ag9 fr9 (by omega)
  have M9 : cSm σ9 σ5.2.1 (σ5.2.1 + 1) (σ5.2.1 + 1 + 1) 2 [] 0 := by
    obtain ⟨g0, h0', y1, y2, y3, y4, y5⟩ := x2
    refine ⟨g0, h0', by rw [k9 _ (by omega)]; exact y1, by rw [k9 _ (by omega)]; exact y2, by rw [k9 _ (by omega)]; exact y3, y4, fun k b c ek => absurd ek (by show ¬ ([] : List (Nat × Int32))[k]? = some (b, c); simp)⟩
  -- the left into it
  have f19 : ofd σ9 (some e0) 7 19 = some (.ref σ5.2.1) := by rw [ofd_at e9]; rfl
  have f15 : ofd σ9 (some e0) 7 15 = some (.ref l) := by rw [ofd_at e9]; rfl
  obtain ⟨sm1, sm2, sm3, sm4, sm5⟩ := S9.sm
  have o9 : oob σ9 (some σ5.2.1) 11 = some σ5.2.1 := by obtain ⟨_, _, w, -⟩ := M9; exact oob_at w
  rw [f19, ovr_rf, obn_at, f15, ovr_rf, obn_at, sm1, ovr_rf, obn_at, o9, obn_at]
  have L1 : (sL ns ps).length ≤ 0 + ps.length := sL_len ps []
  have L2 : (sL ns2 ps2).length ≤ 0 + ps2.length := sL_len ps2 []
  have at2c : at2 ≤ cnt := a2.2.2.1
  have sl5 : su < σ5.2.1 := Nat.lt_of_lt_of_le (SF.sm).2.2.1 (by omega)
  have nl5 : na < σ5.2.1 := Nat.lt_of_lt_of_le (SF.sm).2.2.2.1 (by omega)
  have tl5 : ta < σ5.2.1 := Nat.lt_of_lt_of_le (SF.sm).2.2.2.2 (by omega)
  obtain ⟨σ10, na3, ta3, cap3, b1, b2, b3, b4, b5, ⟨b6, b6b⟩, b7, b8, b9⟩ := x_all (κ := κ) (T := T) (n := m1) (v := 1) hT M9 sm2 ⟨by omega, by omega, by omega⟩ fr9 (by show 0 + _ ≤ 2001; omega)
  rw [← hm1] at b1
  rw [b1, ocv_at]
  have ag10 : ∀ a, a < σ5.2.1 → σ10.1 a = τ.1 a := fun a ha => by rw [b3 a (by omega) (by omega) (by omega) (by omega)]; exact ag9 a ha
  obtain ⟨v10, r10, S10, R10⟩ := KEEP σ10 ag10 b4 (by omega)
  -- and the right
  have e10 : σ10.1 e0 = some (.inr (7, cCf (pp i) (nI cd) (pp at') (kk at') l σ4.2.1 σ5.2.1)) := by rw [ag10 e0 le5]; exact eF
  have g19 : ofd σ10 (some e0) 7 19 = some (.ref σ5.2.1) := by rw [ofd_at e10]; rfl
  have g16 : ofd σ10 (some e0) 7 16 = some (.ref σ4.2.1) := by rw [ofd_at e10]; rfl
  obtain ⟨rm1, rm2, rm3, rm4, rm5⟩ := R10.sm
  have o10 : oob σ10 (some σ5.2.1) 11 = some σ5.2.1 := by obtain ⟨_, _, w, -⟩ := b2; exact oob_at w
  rw [g19, ovr_rf, obn_at, g16, ovr_rf, obn_at, rm1, ovr_rf, obn_at, o10, obn_at]
  have rl5 : su2 < σ5.2.1 := Nat.lt_of_lt_of_le (RF.sm).2.2.1 (by omega)
  have rn5 : na2 < σ5.2.1 := Nat.lt_of_lt_of_le (RF.sm).2.2.2.1 (by omega)
  have rt5 : ta2 < σ5.2.1 := Nat.lt_of_lt_of_le (RF.sm).2.2.2.2 (by omega)
  have L3 : (sAll 1 (sL ns ps) []).length ≤ 0 + (sL ns ps).length := by
    have G : ∀ (l : List (Nat × Int32)) (L : List (Nat × Int32)), (sAll 1 l L).length ≤ L.length + l.length := by
      intro l
      induction l with
      | nil => intro L; exact Nat.le_refl _
      | cons x l IH =>
        intro L
        have w := IH (sAdd L x.1 (1 * x.2))
        have w2 := sAdd_len L x.1 (1 * x.2)
        rw [List.length_cons]
        show (sAll 1 l (sAdd L x.1 (1 * x.2))).length ≤ _
        omega
    exact G _ []
  have b9' : cap3 ≤ 2 + 2 * ps.length := by
    rcases b9 with z | z
    · omega
    · have z' : cap3 ≤ 2 * (0 + (sL ns ps).length) := z
      omega
  obtain ⟨σ11, na4, ta4, cap4, d1, d2, d3, d4, d5, ⟨d6, d6b⟩, d7, d8, d9⟩ := x_all (κ := κ) (T := T) (n := m1) (v := -1) hT b2 rm2 ⟨by omega, by omega, by omega⟩ b4 (by omega)
  rw [← hm1] at d1
  rw [d1, ocv_at]
  have ag11 : ∀ a, a < σ5.2.1 → σ11.1 a = τ.1 a := fun a ha => by rw [d3 a (by omega) (by omega) (by omega) (by omega)]; exact ag10 a ha
  obtain ⟨v11, r11, S11, R11⟩ := KEEP σ11 ag11 d4 (by omega)
  have e11 : σ11.1 e0 = some (.inr (7, cCf (pp i) (nI cd) (pp at') (kk at') l σ4.2.1 σ5.2.1)) := by rw [ag11 e0 le5]; exact eF
  have j19 : ofd σ11 (some e0) 7 19 = some (.ref σ5.2.1) := by rw [ofd_at e11]; rfl
  have j3 : ofd σ11 (some e0) 7 3 = some (.int (pp at')) := by rw [ofd_at e11]; rfl
  have o11 : oob σ11 (some σ5.2.1) 11 = some σ5.2.1 := by obtain ⟨_, _, w, -⟩ := d2; exact oob_at w
  have FT := x_fact (κ := κ) (T := T) (n := m1 + 3) d2
  rw [show m1 + 3 + 1 = m by omega] at FT
  rw [j19, ovr_rf, obn_at, o11, obn_at, FT, oin_at]
  have lolt : lo ≤ σ4.2.1 := by have := hS.2.2.2.1.1; have := hS.2.2.2.1.2.1; omega
  have a41 := a4.1
  have A05 : A 0 < σ5.2.1 := alt a2.1.1.1 a2.2.1
  have cap4' : cap4 ≤ 2 + 2 * ps.length + 2 * ps2.length := by
    rcases d9 with z | z
    · omega
    · omega
  have na4' : σ5.2.1 ≤ na4 ∧ na4 < σ11.2.1 := by
    have w : na3 < σ10.2.1 ∧ σ5.2.1 ≤ na3 := by rcases b6 with z | z <;> omega
    rcases d6 with z | z <;> omega
  have ta4' : σ5.2.1 ≤ ta4 ∧ ta4 < σ11.2.1 := by
    have w : ta3 < σ10.2.1 ∧ σ5.2.1 ≤ ta3 := by rcases b6b with z | z <;> omega
    rcases d6b with z | z <;> omega
  have c9 : σ9.2.2.1 = σ5.2.2.1 + 3 := by rw [z9]
  have c9b : σ9.2.2.2 = σ5.2.2.2 + 8 := by rw [z9]
  have z4a : σ4.2.2.1 = σ.2.2.1 := by rw [z4]
  have z4b : σ4.2.2.2 = σ.2.2.2 := by rw [z4]
  have FIN : ∀ (σ' : oSt) (ff2 : Int32), cV κ sz len cnt kk pp ee f A nq ni rt σ' D at2 cd cn am bd2 nf2 ff2 → cFr A σ11 D σ' D → σ'.2 = σ11.2 → (∀ a, a ≠ A 0 → σ'.1 a = σ11.1 a) → (ff2 = if sFa (sDf (sL ns ps) (sL ns2 ps2)) = true then ff else fMin ff (pp at')) → cV κ sz len cnt kk pp ee f A nq ni rt σ' D at2 cd cn am bd2 nf2 ff2 ∧ cO pp cnt at2 bd2 (aTo (.inr (at' + 1)) (aSm kk T)) ∧ (σ.2.1 ≤ σ'.2.1 ∧ ∀ a, a < σ.2.1 → ¬ cMu A D a → a ≠ e0 → σ'.1 a = σ.1 a) ∧ (σ'.1 e0 = some (.inr (7, cCf (pp i) (nI cd) (pp at') (kk at') l σ4.2.1 σ5.2.1)) ∧ cSp κ T pp ee f A D lo σ' l i cd ns ps al pa su na ta cap pc ∧ cSp κ T pp ee f A D lo σ' σ4.2.1 (at' + 1) cd ns2 ps2 al2 pa2 su2 na2 ta2 cap2 pc2 ∧ cSm σ' σ5.2.1 na4 ta4 cap4 (sDf (sL ns ps) (sL ns2 ps2)) (0 + (1 : Int32).toInt64 * sPl T (fun j => f j &&& 255) pp ee ps + (-1 : Int32).toInt64 * sPl T (fun j => f j &&& 255) pp ee ps2) ∧ cOk A D lo σ' σ5.2.1 ∧ cOk A D lo σ' na4 ∧ cOk A D lo σ' ta4) ∧ (σ'.2.2.1 ≤ σ.2.2.1 + 8 + 2 * ps.length + 8 * ps2.length ∧ σ'.2.2.2 ≤ σ.2.2.2 + 42 + 8 * ps.length + 69 * ps2.length) ∧ (at' < at2 ∧ ps2.length + at' ≤ at2) ∧ (∀ t j, aSm kk T (at' + 1) = .inr (t, j) → ps2 = t.2 ∧ cNm pp ee f σ' D nm (t.2.foldl (fun ν p => nPt f pp ee p ν) ν) cd nf2 ∧ (∀ p ∈ t.2, 0 < p.1 → ns2 p.2.2 = nRes f pp ee nm ν p.2.2) ∧ ff2 = if sFa (sDf (sL ns ps) (sL ns2 ps2)) = true then ff else fMin ff (pp at')) := fun σ' ff2 g1 g2 g3 g4 g5 => by
    have g31 : σ'.2.1 = σ11.2.1 := by rw [g3]
    have g32 : σ'.2.2.1 = σ11.2.2.1 := by rw [g3]
    have g33 : σ'.2.2.2 = σ11.2.2.2 := by rw [g3]
    have lw : σ'.1 κ.2.2.1 = none := g1.1.1.2.1 _ lowσ
    have ok : ∀ a, σ5.2.1 ≤ a → a < σ11.2.1 → cOk A D lo σ' a := fun a w1 w2 => by
      have := a2.new (σ' := σ') w1 (by omega)
      exact ⟨by omega, this.2⟩
    refine ⟨g1, a3, ⟨by omega, fun a ha hmu hne => ?_⟩, ⟨?_, S11.to v11 g2 lw (fun _ _ => rfl), (R11.to v11 g2 lw (fun _ _ => rfl)).lo' lolt, ?_, ok _ (Nat.le_refl _) (by omega), ok _ na4'.1 na4'.2, ok _ ta4'.1 ta4'.2⟩, ⟨?_, ?_⟩, ⟨by omega, by omega⟩, fun t j ht => ?_⟩
    · rw [g4 a (fun z => hmu (Or.inl z)), ag11 a (by omega), kF a hne, a4.2.1 a (by omega) hmu, k4 a hmu hne]
    · rw [g4 e0 (fun z => by rw [z, h.2.1] at he; cases he)]; exact e11
    · exact d2.keep (fun a ha => g4 a (by omega)) (fun a fs ea => ⟨fs, by rw [g4 a (fun z => by rw [z, v11.2.1] at ea; cases ea)]; exact ea⟩)
    · omega
    · omega
    · obtain ⟨y1, y2, y3, y4, y5⟩ := a8 _ t j rfl ht
      refine ⟨y2, (NF t j ht).gn (fun a c ea hc => ?_), y4, g5⟩
      rw [g4 a (fun z => by rw [z, vF.2.1] at ea; cases ea; exact hc.n9), ag11 a (by have := alt vF.1.1.1 ea; omega)]
      exact ea
  by_cases cF : sFa (sDf (sL ns ps) (sL ns2 ps2)) = true
  · have cF' : sFa (sAll (-1) (sL ns2 ps2) (sAll 1 (sL ns ps) [])) = true := cF
    rw [if_pos cF', if_neg (by decide)]
    exact ⟨σ11, at2, bd2, nf2, ff, ns2, ps2, al2, σ4.2.1, pa2, su2, na2, ta2, cap2, pc2, σ5.2.1, na4, ta4, cap4, rfl, FIN σ11 ff v11 (cFr.rf _ _ _) rfl (fun _ _ => rfl) (by rw [if_pos cF])⟩
  · have cF' : ¬ sFa (sAll (-1) (sL ns2 ps2) (sAll 1 (sL ns ps) [])) = true := cF
    rw [if_neg cF', if_pos rfl, j3, ovi_in, obn_at, oob_at v11.2.1, obn_at]
    obtain ⟨σ12, w1, w2, w3, w4, w5⟩ := c_blame (κ := κ) (T := T) (n := m1 + 3) (x := pp at') v11
    rw [show m1 + 3 + 1 = m by omega] at w1
    rw [w1, ocv_at]
    exact ⟨σ12, at2, bd2, nf2, fMin ff (pp at'), ns2, ps2, al2, σ4.2.1, pa2, su2, na2, ta2, cap2, pc2, σ5.2.1, na4, ta4, cap4, rfl, FIN σ12 _ w2 w3 w4 w5 (by rw [if_neg cF])⟩
end CQA
