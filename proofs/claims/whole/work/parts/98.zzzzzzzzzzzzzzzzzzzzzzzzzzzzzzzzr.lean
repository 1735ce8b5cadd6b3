/-! run(), the class: its state -/
/-- cells that what waits may still take -/
def hPt : List xmFr → Nat
  | [] => 0
  | .inl _ :: fr => 2 + hPt fr
  | .inr l :: fr => 2 * l.length + hPt fr
/-- cells that a function may still take before it is called -/
def hVt (h : xmHp) (v : xmV) : Nat := if v.1 = 3 then 3 * (3 - (h.1.getD (xmIx v.2) (.leaf, [], [], [])).2.2.2.length) else 0
theorem hVt_le (h : xmHp) (v : xmV) : hVt h v ≤ 9 := by
  unfold hVt
  split <;> omega
def hVq (h : xmHp) : (tT × List Nat × List xmV) ⊕ xmV → Nat
  | .inr v => hVt h v
  | .inl _ => 0
/-- the rows of what waits -/
def hW (wn ws wa : Nat) (x : Nat) : Prop := x = wn ∨ x = ws ∨ x = wa
/-- what is made on the way -/
def hCo (σ0 : oSt) (hl0 : Nat) (σ : oSt) (hl : Nat) : Prop := σ.2.2.2 + 2 * hl0 ≤ σ0.2.2.2 + 2 * hl ∧ 64 * σ.2.2.1 + hl0 ≤ 64 * σ0.2.2.1 + hl ∧ (hl = hl0 ∨ hl ≤ 664200)
theorem hCo.tr {a b c : oSt} {x y z : Nat} (h1 : hCo a x b y) (h2 : hCo b y c z) : hCo a x c z := by
  unfold hCo at *
  omega
theorem hCo.rf (a : oSt) (x : Nat) : hCo a x a x := ⟨Nat.le_refl _, Nat.le_refl _, Or.inl rfl⟩
section HXD
variable (κ : oKv) (T : Nat) (kk pp ee f fc : Nat → Int32) (tN : Nat → tY) (B : Nat → Nat) (D : cDt) (V : oSt) (nm : Nat → Option Nat) (p : Nat) (σ0 : oSt) (nf : Nat)
/-- the E at the node m -/
def hTt (t : tT) (env : List Nat) (m : Nat) : Prop := (∃ X lo1 fk, (p ≤ lo1 ∧ fk + nF t ≤ nf) ∧ cTX κ T kk pp ee fc B D X lo1 V nm t env fk (fun _ => none) 0 m) ∧ hEv tN nm p σ0 env ∧ hTw T f pp ee t
/-- the node of a let that waits -/
def hLt (m u : Nat) (b : tT) (env : List Nat) : Prop := p ≤ m ∧ ∃ fs y, V.1 m = some (.inr (7, fs)) ∧ fs[13]? = some (.ref y) ∧ hTt κ T kk pp ee f fc tN B D V nm p σ0 nf b (env ++ [u]) y
/-- what waits -/
def hFk (G : hG) (Ar : Nat → Prop) (top : Nat) (hp : Nat → Int64) (WN : Nat → Option Nat) (WS WA : Nat → Int32) : List xmFr → Prop
  | [] => True
  | .inl x :: fr => (∃ m a, WN fr.length = some m ∧ hLt κ T kk pp ee f fc tN B D V nm p σ0 nf m x.1 x.2.1 x.2.2.1 ∧ WS fr.length = nI a ∧ hSc G Ar top hp x.2.2.2.reverse a) ∧ hFk G Ar top hp WN WS WA fr
  | .inr l :: fr => (WN fr.length = none ∧ ∃ s, WA fr.length = nI s ∧ hSc G Ar top hp l s) ∧ hFk G Ar top hp WN WS WA fr
/-- a function's number -/
def hNb (t : tT) (env : List Nat) (u : Nat) : Prop := u < nf ∧ ∃ m fs pa x mc d, D.2.2.2 u = some m ∧ (p ≤ m ∧ p ≤ pa) ∧ V.1 m = some (.inr (7, fs)) ∧ fs[7]? = some (.int (nI u)) ∧ fs[11]? = some (.ref pa) ∧ fs[12]? = some (.ref x) ∧ V.1 pa = some (.inr (1, [.int mc, .ref d, .int (nI (xmWa t))])) ∧ hTt κ T kk pp ee f fc tN B D V nm p σ0 nf (xmBo t) (env ++ xmPa t) x
variable (ma ha0 wn ws wa : Nat) (fm0 : List Value) (hl0 : Nat)
/-- **the Machine's state** while it goes -/
def hXa (σ : oSt) (G : hG) (top ha hl : Nat) (hp : Nat → Int64) (fm : List Value) (n : Nat) (h : xmHp) (fr : List xmFr) : Prop :=
  (hMa ma fm ha hl hp top σ ∧ hHp (hNb κ T kk pp ee f fc tN B D V nm p σ0 nf) G top hp h) ∧ (hKe (hW wn ws wa) ma ha0 σ0 σ ha ∧ hCo σ0 hl0 σ hl) ∧ (∃ WN WS WA, hWt ma fm wn ws wa WN WS WA σ ∧ hFk κ T kk pp ee f fc tN B D V nm p σ0 nf G (hAr G.2.1 h.2.1) top hp WN WS WA fr) ∧ hFx [4, 5, 9, 10, 11, 12, 13, 14, 15] fm0 fm ∧ (fm[9]? = some (.int (nI fr.length)) ∧ fm[11]? = some (.int (nI n)) ∧ fm[12]? = some (.int 0) ∧ fm[13]? = some (.int (nI (xmDp fr))) ∧ fm[14]? = some (.int (nI (xmTot h))))
/-- the state where it ended -/
def hEd (e : Nat × Nat) (σ : oSt) : Prop := ∃ ha hl hp top fm, (hMa ma fm ha hl hp top σ ∧ top ≤ 335000) ∧ (hKe (hW wn ws wa) ma ha0 σ0 σ ha ∧ hCo σ0 hl0 σ hl) ∧ (∃ WN WS WA, hWt ma fm wn ws wa WN WS WA σ) ∧ hFx [4, 5, 9, 10, 11, 12, 13, 14, 15] fm0 fm ∧ fm[11]? = some (.int (nI e.2)) ∧ fm[12]? = some (.int (nI e.1))
/-- a state and the node to go on with -/
def hSt (Kb : Nat) (σ : oSt) (x : Option Nat) (m : xmM) : Prop := ∃ G top ha hl hp fm, hXa κ T kk pp ee f fc tN B D V nm p σ0 nf ma ha0 wn ws wa fm0 hl0 σ G top ha hl hp fm m.2.2.1 m.1 m.2.1 ∧ top + 16 * m.2.2.1 + hPt m.2.1 + hVq m.1 m.2.2.2 ≤ Kb + xmTot m.1 ∧ match m.2.2.2 with
  | .inr v => x = none ∧ ∃ y, fm[15]? = some (.long y) ∧ hV G v y
  | .inl y => ∃ nd a, x = some nd ∧ hTt κ T kk pp ee f fc tN B D V nm p σ0 nf y.1 y.2.1 nd ∧ fm[10]? = some (.int (nI a)) ∧ hSc G (hAr G.2.1 m.1.2.1) top hp y.2.2.reverse a
/-- how a turn ends -/
def hOt (Kb : Nat) (r : oRs) (res : (Nat × Nat) ⊕ xmM) : Prop := ∃ x σ', r = some (some (va_rf x), σ') ∧ match res with
  | .inl e => hEd σ0 ma ha0 wn ws wa fm0 hl0 e σ'
  | .inr m => hSt κ T kk pp ee f fc tN B D V nm p σ0 nf ma ha0 wn ws wa fm0 hl0 Kb σ' x m
end HXD
section HXE
variable {κ : oKv} {T n cnt : Nat} {kk pp ee f fc : Nat → Int32} {tE tN : Nat → tY} {R : Nat → Int32} {L : List Nat} {y0 : tY} {B : Nat → Nat} {D : cDt} {V : oSt} {nm : Nat → Option Nat} {p : Nat} {σ0 : oSt} {nf ma ha0 wn ws wa : Nat} {fm0 : List Value} {hl0 : Nat} {σ σ' : oSt} {G G' : hG} {top ha hl top' ha' hl' : Nat} {hp hp' : Nat → Int64} {fm gm : List Value} {nu n' : Nat} {h h' : xmHp} {fr : List xmFr} {env : List Nat} {vs : List xmV}
theorem hKe.tr {W : Nat → Prop} (k : hKe W ma ha0 σ0 σ ha) (g : hKe (fun _ => False) ma ha σ σ' ha') : hKe W ma ha0 σ0 σ' ha' := by
  obtain ⟨k1, k2, k3, k4, k5, k6⟩ := k
  obtain ⟨g1, g2, g3, g4, g5, g6⟩ := g
  refine ⟨fun x hx q1 q2 q3 => ?_, g2, by omega, ?_, g5, g6⟩
  · have nx : x ≠ ha := fun w => by
      rcases k4 with e | e
      · exact q2 (w.trans e)
      · omega
    rw [g1 x (by omega) q1 nx (fun w => w)]
    exact k1 x hx q1 q2 q3
  · rcases g4 with e | e
    · rw [e]; exact k4
    · exact Or.inr (by omega)
theorem hFk.kp {Ar Ar' : Nat → Prop} {WN : Nat → Option Nat} {WS WA : Nat → Int32} (g : hGe G G') (k : hKp Ar Ar' top top' hp hp') : ∀ (fr : List xmFr), hFk κ T kk pp ee f fc tN B D V nm p σ0 nf G Ar top hp WN WS WA fr → hFk κ T kk pp ee f fc tN B D V nm p σ0 nf G' Ar' top' hp' WN WS WA fr
  | [], _ => trivial
  | .inl x :: fr, w => by
    obtain ⟨⟨m, a, w1, w2, w3, w4⟩, w5⟩ := w
    exact ⟨⟨m, a, w1, w2, w3, w4.kp g k⟩, hFk.kp g k fr w5⟩
  | .inr l :: fr, w => by
    obtain ⟨⟨w1, s, w2, w3⟩, w4⟩ := w
    exact ⟨⟨w1, s, w2, w3.kp g k⟩, hFk.kp g k fr w4⟩
/-- rows behind the last one -/
theorem hFk.up {Ar : Nat → Prop} {WN : Nat → Option Nat} {WS WA : Nat → Int32} {q : Nat} {x : Option Nat} {s a : Int32} : ∀ (fr : List xmFr), fr.length ≤ q → hFk κ T kk pp ee f fc tN B D V nm p σ0 nf G Ar top hp WN WS WA fr → hFk κ T kk pp ee f fc tN B D V nm p σ0 nf G Ar top hp (va_up WN q x) (upd WS q s) (upd WA q a) fr
  | [], _, _ => trivial
  | .inl x :: fr, hq, w => by
    rw [List.length_cons] at hq
    obtain ⟨⟨m, a, w1, w2, w3, w4⟩, w5⟩ := w
    have e : ¬ fr.length = q := by omega
    exact ⟨⟨m, a, by unfold va_up; rw [if_neg e]; exact w1, w2, by unfold upd; rw [if_neg e]; exact w3, w4⟩, hFk.up fr (by omega) w5⟩
  | .inr l :: fr, hq, w => by
    rw [List.length_cons] at hq
    obtain ⟨⟨w1, s, w2, w3⟩, w4⟩ := w
    have e : ¬ fr.length = q := by omega
    exact ⟨⟨by unfold va_up; rw [if_neg e]; exact w1, s, by unfold upd; rw [if_neg e]; exact w2, w3⟩, hFk.up fr (by omega) w4⟩
theorem hWt.kp {WN : Nat → Option Nat} {WS WA : Nat → Int32} (W : hWt ma fm wn ws wa WN WS WA σ) (k : ∀ x, hW wn ws wa x → σ'.1 x = σ.1 x) (fx : ∀ k, k = 6 ∨ k = 7 ∨ k = 8 → gm[k]? = fm[k]?) : hWt ma gm wn ws wa WN WS WA σ' := by
  obtain ⟨⟨w1, w2, w3⟩, ⟨c1, c2, c3⟩, d⟩ := W
  exact ⟨⟨(fx 6 (by omega)).trans w1, (fx 7 (by omega)).trans w2, (fx 8 (by omega)).trans w3⟩, ⟨(k wn (Or.inl rfl)).trans c1, (k ws (Or.inr (Or.inl rfl))).trans c2, (k wa (Or.inr (Or.inr rfl))).trans c3⟩, d⟩
/-- the rows are none of what a step changes -/
theorem hWt.ke {WN : Nat → Option Nat} {WS WA : Nat → Int32} (M : hMa ma fm ha hl hp top σ) (hfr : ∀ q, σ.2.1 ≤ q → σ.1 q = none) (W : hWt ma fm wn ws wa WN WS WA σ) (k : hKe (fun _ => False) ma ha σ σ' ha') : ∀ x, hW wn ws wa x → σ'.1 x = σ.1 x := fun x hx => by
  obtain ⟨-, ⟨c1, c2, c3⟩, d1, d2, d3, -⟩ := W
  have m5 := M.2.2.1
  have hc : (∃ c, σ.1 x = some c) ∧ x ≠ ma ∧ x ≠ ha := by
    rcases hx with e | e | e
    · subst e
      exact ⟨⟨_, c1⟩, d1.symm, fun w => by rw [w, m5] at c1; cases c1⟩
    · subst e
      exact ⟨⟨_, c2⟩, d2.symm, fun w => by rw [w, m5] at c2; cases c2⟩
    · subst e
      exact ⟨⟨_, c3⟩, d3.symm, fun w => by rw [w, m5] at c3; cases c3⟩
  obtain ⟨⟨c, hc⟩, q1, q2⟩ := hc
  exact k.1 x (Nat.lt_of_not_le (fun w => by rw [hfr x w] at hc; cases hc)) q1 q2 (fun w => w)
/-- **a step that leaves what waits** -/
theorem hXa.to (I : hXa κ T kk pp ee f fc tN B D V nm p σ0 nf ma ha0 wn ws wa fm0 hl0 σ G top ha hl hp fm nu h fr) (M' : hMa ma gm ha' hl' hp' top' σ') (H' : hHp (hNb κ T kk pp ee f fc tN B D V nm p σ0 nf) G' top' hp' h') (k : hKe (fun _ => False) ma ha σ σ' ha') (co : hCo σ hl σ' hl') (g : hGe G G') (kp : hKp (hAr G.2.1 h.2.1) (hAr G'.2.1 h'.2.1) top top' hp hp') (fx : hFx [4, 5, 10, 11, 14, 15] fm gm) (h11 : gm[11]? = some (.int (nI n'))) (h14 : gm[14]? = some (.int (nI (xmTot h')))) : hXa κ T kk pp ee f fc tN B D V nm p σ0 nf ma ha0 wn ws wa fm0 hl0 σ' G' top' ha' hl' hp' gm n' h' fr := by
  obtain ⟨⟨M, H⟩, ⟨K, C⟩, ⟨WN, WS, WA, Wt, Fk⟩, F, f9, f11, f12, f13, f14⟩ := I
  refine ⟨⟨M', H'⟩, ⟨K.tr k, C.tr co⟩, ⟨WN, WS, WA, Wt.kp (Wt.ke M K.2.1 k) (fun q hq => fx q ?_), Fk.kp g kp⟩, fun q hq => (fx q (fun w => hq ?_)).trans (F q hq), (fx 9 (by decide)).trans f9, h11, (fx 12 (by decide)).trans f12, (fx 13 (by decide)).trans f13, h14⟩
  · rcases hq with e | e | e <;> (rw [e]; decide)
  · revert w
    simp only [List.mem_cons, List.not_mem_nil, or_false]
    omega
theorem hMa.pt (M : hMa ma fm ha hl hp top σ) (hne : ha ≠ ma) (hl2 : gm.length = 18) (h4 : gm[4]? = fm[4]?) (h5 : gm[5]? = fm[5]?) : hMa ma gm ha hl hp top (oput σ ma (.inr (5, gm))) := by
  obtain ⟨⟨m1, m2⟩, ⟨m3, m4⟩, m5, m6⟩ := M
  exact ⟨⟨oput_eq _ _ _, hl2⟩, ⟨h4.trans m3, h5.trans m4⟩, (oput_ne hne).trans m5, m6⟩
theorem hXa.ml (I : hXa κ T kk pp ee f fc tN B D V nm p σ0 nf ma ha0 wn ws wa fm0 hl0 σ G top ha hl hp fm nu h fr) (hml : ma < σ0.2.1) : ma < σ.2.1 := by
  have := I.2.1.1.2.2.1
  omega
/-- the Machine's own fields -/
theorem hXa.pt (I : hXa κ T kk pp ee f fc tN B D V nm p σ0 nf ma ha0 wn ws wa fm0 hl0 σ G top ha hl hp fm nu h fr) (hml : ma < σ0.2.1) (hl2 : gm.length = 18) (fx : hFx [10, 11, 15] fm gm) (h11 : gm[11]? = some (.int (nI n'))) : hXa κ T kk pp ee f fc tN B D V nm p σ0 nf ma ha0 wn ws wa fm0 hl0 (oput σ ma (.inr (5, gm))) G top ha hl hp gm n' h fr := by
  have K := I.2.1.1
  have k := (hKe.rf (W := fun _ => False) K.2.1 K.2.2.2.2.1 K.2.2.2.2.2).pt (c := .inr (5, gm)) (x := ma) (Or.inl rfl) (I.ml hml)
  refine I.to (I.1.1.pt K.2.2.2.2.2 hl2 (fx 4 (by decide)) (fx 5 (by decide))) I.1.2 k (hCo.rf _ _) (hGe.rf G) (fun a ha => ⟨ha, rfl⟩) (fun q hq => fx q (fun w => hq ?_)) h11 ((fx 14 (by decide)).trans I.2.2.2.2.2.2.2.2)
  revert w
  simp only [List.mem_cons, List.not_mem_nil, or_false]
  omega
/-- an end -/
theorem hXa.ed {e : Nat} (I : hXa κ T kk pp ee f fc tN B D V nm p σ0 nf ma ha0 wn ws wa fm0 hl0 σ G top ha hl hp fm nu h fr) (hml : ma < σ0.2.1) (ht : top ≤ 335000) : hEd σ0 ma ha0 wn ws wa fm0 hl0 (e, nu) (oput σ ma (.inr (5, fm.set 12 (.int (nI e))))) := by
  have l := I.ml hml
  obtain ⟨⟨M, H⟩, ⟨K, C⟩, ⟨WN, WS, WA, Wt, Fk⟩, F, f9, f11, f12, f13, f14⟩ := I
  have K' := K.pt (c := .inr (5, fm.set 12 (.int (nI e)))) (x := ma) (Or.inl rfl) l
  obtain ⟨-, -, d1, d2, d3, -⟩ := id Wt
  refine ⟨ha, hl, hp, top, _, ⟨M.pt K.2.2.2.2.2 (by rw [List.length_set]; exact M.1.2) (List.getElem?_set_ne (by decide)) (List.getElem?_set_ne (by decide)), ht⟩, ⟨K', C⟩, ⟨WN, WS, WA, Wt.kp (fun x hx => oput_ne ?_) (fun q hq => List.getElem?_set_ne (by omega))⟩, F.st (by decide), ?_, ?_⟩
  · rcases hx with e | e | e
    · rw [e]; exact d1.symm
    · rw [e]; exact d2.symm
    · rw [e]; exact d3.symm
  · rw [List.getElem?_set_ne (by decide)]; exact f11
  · rw [List.getElem?_set_self (by rw [M.1.2]; decide)]
/-- behind an end: a step -/
theorem hEd.to {e : Nat × Nat} (E : hEd σ0 ma ha0 wn ws wa fm0 hl0 e σ) : ∃ ha hl hp top fm, (hMa ma fm ha hl hp top σ ∧ top ≤ 335000) ∧ hKe (hW wn ws wa) ma ha0 σ0 σ ha ∧ ∀ σ' ha' hl' hp' top' gm, hMa ma gm ha' hl' hp' top' σ' → top' ≤ 335000 → hKe (fun _ => False) ma ha σ σ' ha' → hCo σ hl σ' hl' → hFx [4, 5, 10, 14, 15] fm gm → hEd σ0 ma ha0 wn ws wa fm0 hl0 e σ' := by
  obtain ⟨ha, hl, hp, top, fm, ⟨M, ht⟩, ⟨K, C⟩, ⟨WN, WS, WA, Wt⟩, F, f11, f12⟩ := E
  refine ⟨ha, hl, hp, top, fm, ⟨M, ht⟩, K, fun σ' ha' hl' hp' top' gm M' ht' k co fx => ⟨ha', hl', hp', top', gm, ⟨M', ht'⟩, ⟨K.tr k, C.tr co⟩, ⟨WN, WS, WA, Wt.kp (Wt.ke M K.2.1 k) (fun q hq => fx q ?_)⟩, fun q hq => (fx q (fun w => hq ?_)).trans (F q hq), (fx 11 (by decide)).trans f11, (fx 12 (by decide)).trans f12⟩⟩
  · rcases hq with e | e | e <;> (rw [e]; decide)
  · revert w
    simp only [List.mem_cons, List.not_mem_nil, or_false]
    omega
end HXE
