/-! the class's parser: what reading an E must give; small steps -/
/-- cells and places made, for the words read -/
def cEx (c1 c2 v : Nat) (σ : oSt) (D : cDt) (at' : Nat) (s : Sum Nat Nat) (σ' : oSt) (D' : cDt) (at2 : Nat) (s' : Sum Nat Nat) : Prop := at' ≤ at2 ∧ 8 * σ'.2.2.1 + (8 * c1 + v) + 240 * at' + 112 * fl s ≤ 8 * σ.2.2.1 + 240 * at2 + 240 * fl s' ∧ σ'.2.2.2 + (c2 + v) + 4 * D.1.2.2.1 + 4 * D.1.2.2.2.1 + 240 * at' + 190 * fl s ≤ σ.2.2.2 + 4 * D'.1.2.2.1 + 4 * D'.1.2.2.2.1 + 240 * at2 + 350 * fl s'
/-- slots that the words of an E are paid too much: what is not wanted of 240 a word -/
def sv : tT → Nat
  | .leaf => 0
  | .inner g d _ a b => (if g = 1 then 915 else if g = 2 then 1300 else if g = 3 then 600 else if g = 4 then 450 else if g = 5 then 230 else if g = 15 then 161 else if g = 16 then 455 else if g = 10 then 70 else if g = 33 then (if d.2.1 = 1 then 551 else 132) else if g = 34 then 450 else if g = 35 then 160 else if g = 19 then 900 else 0) + ((if g = 4 ∨ g = 5 then 0 else sv a) + sv b)
def svR (r : aR tT) : Nat := match r with
  | .inr x => sv x.1
  | .inl _ => 0
def svP (r : aR (tT → tT)) : Nat := match r with
  | .inr x => sv (x.1 tZ)
  | .inl _ => 0
def svA (s : Sum Nat Nat) (F : Nat → aR tT) : Nat := match s with
  | .inr i => svR (F i)
  | .inl _ => 0
theorem svA_ok (i : Nat) (F : Nat → aR tT) : svA (.inr i) F = svR (F i) := rfl
theorem svA_eq {s : Sum Nat Nat} {F : Nat → aR tT} {i j : Nat} {t : tT} (h : s = .inr i) (d : F i = .inr (t, j)) : svA s F = sv t := by
  rw [h, svA_ok, d]
  rfl
theorem svA_0 {s : Sum Nat Nat} {F : Nat → aR tT} (h : ∀ i t j, s = .inr i → F i = .inr (t, j) → sv t = 0) : svA s F = 0 := by
  cases s with
  | inl j => rfl
  | inr i =>
    rw [svA_ok]
    cases e : F i with
    | inl k => rfl
    | inr p => exact h i p.1 p.2 rfl e
section CEC
variable (κ : oKv) (sz T len cnt : Nat) (kk pp ee f : Nat → Int32) (A : Nat → Nat) (nq ni : Int32) (rt : Value)
/-- the tree is there, NAMES and forms are as it says -/
def cPo (lo : Nat) (D : cDt) (cd : Nat) (cn ff : Int32) (nm : Nat → Option Nat) (ν : nSt) (σ' : oSt) (D' : cDt) (nf2 ff2 : Int32) (nm' : Nat → Option Nat) (e i : Nat) (t : tT) (j : Nat) : Prop := cTr κ T kk pp ee f A D' lo σ' nm' t ν.1 D.1.2.2.2.2.2 (fun _ => none) 0 e ∧ cQn pp ee f σ' D' nm' (nT f pp ee t ν) cd nf2 j ∧ (∀ u, u < i → nm' u = nm u) ∧ ff2 = fE f pp ee t ν.1 cn ff ∧ D'.1.2.2.2.2.2 = D.1.2.2.2.2.2 + nF t ∧ (∀ x, x < D.1.2.2.2.2.2 → D'.2.2.2 x = D.2.2.2 x)
/-- a reader of an E -/
def cEc (mi dp m : Nat) (F : Nat → aR tT) : Prop := ∀ (σ : oSt) (D : cDt) (at' cd : Nat) (cn am bd nf ff : Int32) (s : Sum Nat Nat) (nm : Nat → Option Nat) (ν : nSt), cV κ sz len cnt kk pp ee f A nq ni rt σ D at' cd cn am bd nf ff → cO pp cnt at' bd s → cd ≤ 12 + 6 * dp → (∀ i, s = .inr i → cQn pp ee f σ D nm ν cd nf i) → ∃ σ' D' at2 am2 bd2 nf2 ff2 nm' e fs, oF κ T m mi [va_rf (some (A 0)), .int (nI dp)] σ = some (some (va_rf (some e)), σ') ∧ cV κ sz len cnt kk pp ee f A nq ni rt σ' D' at2 cd cn am2 bd2 nf2 ff2 ∧ cL kk pp cnt at2 bd2 (aTo s F) ∧ cFr A σ D σ' D' ∧ (σ.2.1 ≤ e ∧ σ'.1 e = some (.inr (7, fs)) ∧ fs.length = 21) ∧ cEx 0 0 (svA s F) σ D at' s σ' D' at2 (aTo s F) ∧ (∀ i t j, s = .inr i → F i = .inr (t, j) → cPo κ T kk pp ee f A σ.2.1 D cd cn ff nm ν σ' D' nf2 ff2 nm' e i t j)
/-- a reader of the rest of an E into its node -/
def cRc (mi dp m : Nat) (K : Int32) (F : Nat → aR tT) : Prop := ∀ (σ : oSt) (D : cDt) (at' cd : Nat) (cn am bd nf ff : Int32) (nm : Nat → Option Nat) (ν : nSt) (e : Nat), cV κ sz len cnt kk pp ee f A nq ni rt σ D at' cd cn am bd nf ff → cO pp cnt at' bd (.inr at') → at' < cnt → cd ≤ 12 + 6 * dp → cQn pp ee f σ D nm ν cd nf at' → σ.1 e = some (.inr (7, cNd K (pp at') (nI cd))) → ∃ σ' D' at2 am2 bd2 nf2 ff2 nm' fs, oF κ T m mi [va_rf (some (A 0)), va_rf (some e), .int (nI dp)] σ = some (none, σ') ∧ cV κ sz len cnt kk pp ee f A nq ni rt σ' D' at2 cd cn am2 bd2 nf2 ff2 ∧ cL kk pp cnt at2 bd2 (F at').st ∧ cFe A e σ D σ' D' ∧ (σ'.1 e = some (.inr (7, fs)) ∧ fs.length = 21) ∧ cEx 1 21 (svR (F at')) σ D at' (.inr at') σ' D' at2 (F at').st ∧ (∀ t j, F at' = .inr (t, j) → cPo κ T kk pp ee f A e D cd cn ff nm ν σ' D' nf2 ff2 nm' e at' t j)
end CEC
section CQS
variable {κ : oKv} {sz T n m len cnt : Nat} {kk pp ee f : Nat → Int32} {A : Nat → Nat} {nq ni : Int32} {rt : Value} {σ σ' : oSt} {D D' : cDt} {at' cd : Nat} {cn am bd nf ff : Int32} {s : Sum Nat Nat} {nm nm' : Nat → Option Nat} {ν : nSt} {lo e i : Nat}
/-- next, the state by its face -/
theorem w_next (h : cV κ sz len cnt kk pp ee f A nq ni rt σ D at' cd cn am bd nf ff) (ho : cO pp cnt at' bd (.inr i)) (hi : i < cnt) (hm : 1 ≤ n) : ∃ σ', oF κ T n 105 [va_rf (some (A 0))] σ = some (none, σ') ∧ cV κ sz len cnt kk pp ee f A nq ni rt σ' D (i + 1) cd cn am bd nf ff ∧ cO pp cnt (i + 1) bd (.inr (i + 1)) ∧ cFr A σ D σ' D ∧ σ'.2 = σ.2 ∧ (∀ a, a ≠ A 0 → σ'.1 a = σ.1 a) := by
  obtain ⟨g1, g2, g3, g4⟩ := c_next (κ := κ) (T := T) (n := n) h ho hi hm
  exact ⟨_, g1, g2, g4, g3, rfl, fun a ha => oput_ne ha⟩
/-- a field of the node -/
theorem w_put {fs : List Value} {k : Nat} {v : Value} (h : cV κ sz len cnt kk pp ee f A nq ni rt σ D at' cd cn am bd nf ff) (he : σ.1 e = some (.inr (7, fs))) (hfs : fs.length = 21) (hk : k < 21) : ∃ σ', opf σ (some e) 7 k v = some σ' ∧ cV κ sz len cnt kk pp ee f A nq ni rt σ' D at' cd cn am bd nf ff ∧ σ'.1 e = some (.inr (7, fs.set k v)) ∧ cFe A e σ D σ' D ∧ σ'.2 = σ.2 ∧ (∀ a, a ≠ e → σ'.1 a = σ.1 a) ∧ (∀ (nm : Nat → Option Nat) (ν : nSt) (i : Nat), cQn pp ee f σ D nm ν cd nf i → cQn pp ee f σ' D nm ν cd nf i) :=
  ⟨_, opf_at he (by omega), h.fl he (by omega), oput_eq _ _ _, cFe.put, rfl, fun a ha => oput_ne ha, fun _ _ _ q => q.fl he⟩
/-- a field of the parser: how many count, conditions -/
theorem w_cd {cd2 : Nat} {v : Int32} (h : cV κ sz len cnt kk pp ee f A nq ni rt σ D at' cd cn am bd nf ff) (hv : v = nI cd2) (h2 : cd2 ≤ 4000) : ∃ σ', opf σ (some (A 0)) 9 12 (.int v) = some σ' ∧ cV κ sz len cnt kk pp ee f A nq ni rt σ' D at' cd2 cn am bd nf ff ∧ cFr A σ D σ' D ∧ σ'.2 = σ.2 ∧ (∀ a, a ≠ A 0 → σ'.1 a = σ.1 a) := by
  have hp := h.put (at2 := at') (cd2 := cd2) (cn2 := cn) (am2 := am) (bd2 := bd) (nf2 := nf) (ff2 := ff) h.2.2.1 h2 (Nat.le_refl _)
  subst hv
  exact ⟨_, opf_at h.2.1 (show 12 < 18 by decide), hp.1, hp.2, rfl, fun a ha => oput_ne ha⟩
theorem w_cn {v : Int32} (h : cV κ sz len cnt kk pp ee f A nq ni rt σ D at' cd cn am bd nf ff) : ∃ σ', opf σ (some (A 0)) 9 13 (.int v) = some σ' ∧ cV κ sz len cnt kk pp ee f A nq ni rt σ' D at' cd v am bd nf ff ∧ cFr A σ D σ' D ∧ σ'.2 = σ.2 ∧ (∀ a, a ≠ A 0 → σ'.1 a = σ.1 a) := by
  have hp := h.put (at2 := at') (cd2 := cd) (cn2 := v) (am2 := am) (bd2 := bd) (nf2 := nf) (ff2 := ff) h.2.2.1 h.2.2.2.1 (Nat.le_refl _)
  exact ⟨_, opf_at h.2.1 (show 13 < 18 by decide), hp.1, hp.2, rfl, fun a ha => oput_ne ha⟩
theorem w_f12 (h : cV κ sz len cnt kk pp ee f A nq ni rt σ D at' cd cn am bd nf ff) : ofd σ (some (A 0)) 9 12 = some (.int (nI cd)) := by rw [ofd_at h.2.1]; rfl
theorem w_f13 (h : cV κ sz len cnt kk pp ee f A nq ni rt σ D at' cd cn am bd nf ff) : ofd σ (some (A 0)) 9 13 = some (.int cn) := by rw [ofd_at h.2.1]; rfl
theorem cV.low (h : cV κ sz len cnt kk pp ee f A nq ni rt σ D at' cd cn am bd nf ff) : σ.1 κ.2.2.1 = none := h.1.1.2.1 _ h.1.1.2.2.2
theorem ovi_i (v : Int32) : ovi (some (.int v)) = some v := rfl
/-- fewer count -/
theorem cQn.off {k : Nat} {ν1 : nSt} {cd1 : Nat} (h : cQn pp ee f σ D nm ν1 cd1 nf i) (hk : ∀ a c, σ.1 a = some c → cTy c → σ'.1 a = some c) (hc : cd1 = cd + k) : cQn pp ee f σ' D nm (nOff k ν1) cd nf i := by
  obtain ⟨⟨h1, h2, h3, h4, h5, h6⟩, a2, a3, a4⟩ := h
  have mt : ∀ x, x ∈ (nOff k ν1).1 → x ∈ ν1.1 := fun x hx => List.mem_of_mem_take hx
  refine ⟨⟨?_, fun j u e hj => ?_, h3, h4, fun x hx => h5 x (mt x hx), fun u hu => (by
    obtain ⟨b, b1, b2⟩ := h6 u hu
    exact ⟨b, b1, b2.keep hk⟩)⟩, fun x hx => ?_, a3, fun u hu => a4 u (mt u hu)⟩
  · show (ν1.1.take (ν1.1.length - k)).length = cd
    rw [List.length_take]; omega
  · have e' : (ν1.1.take (ν1.1.length - k))[j]? = some u := e
    rw [List.getElem?_take] at e'
    split at e'
    · obtain ⟨b, b1, b2, b3⟩ := h2 j u e' hj
      exact ⟨b, b1, b2, b3.keep hk⟩
    · cases e'
  · rcases hx with z | z
    · exact a2 x (Or.inl (mt x z))
    · exact a2 x (Or.inr z)
/-- NAMES where the parser's own object alone changes -/
theorem cQn.kf (h : cQn pp ee f σ D nm ν cd nf i) (hV : cV κ sz len cnt kk pp ee f A nq ni rt σ D at' cd cn am bd nf ff) (hr : cFr A σ D σ' D) : cQn pp ee f σ' D nm ν cd nf i := ⟨h.1.gn (hV.ty hr), h.2⟩
/-- the tree of an E read before, in a later state -/
theorem cTr.go {t : tT} {fs fs' : List Value} {lo5 fk j j' k x : Nat} {g : Nat → Option Nat} (h : cV κ sz len cnt kk pp ee f A nq ni rt σ D at' cd cn am bd nf ff) (hr : cFe A e σ D σ' D') (he : σ.1 e = some (.inr (7, fs))) (he' : σ'.1 e = some (.inr (7, fs'))) (hlo : e < lo5) (hl : lo ≤ lo5) (hlow : σ'.1 κ.2.2.1 = none) (Q : nLt (nT f pp ee t ν) j) (hnm : ∀ u, u < j' → nm' u = nm u) (hj : j ≤ j') (hfk : fk + nF t ≤ D.1.2.2.2.2.2) (hfun : ∀ x, x < D.1.2.2.2.2.2 → D'.2.2.2 x = D.2.2.2 x) (h0 : cTr κ T kk pp ee f A D lo5 σ nm t ν.1 fk g k x) : cTr κ T kk pp ee f A D' lo σ' nm' t ν.1 fk g k x := by
  obtain ⟨n1, n2⟩ := nT_12 (f := f) (pp := pp) (ee := ee) t ν
  refine cTr.kp (cKp.fe h hr he he' hlo hl hlow) (P := fun u => u < j') hnm t ν.1 fk g k x (fun u hu => ?_) (fun u hu => ?_) (fun x hx => hfun x (by omega)) h0
  · have := Q u (Or.inl (by rw [n1]; exact hu)); omega
  · have := Q u (Or.inr (by rw [n2]; exact List.mem_append.mpr (Or.inr hu))); omega
theorem cCt.go {t : tT} {fs fs' : List Value} {lo5 x cd2 : Nat} (h : cV κ sz len cnt kk pp ee f A nq ni rt σ D at' cd cn am bd nf ff) (hr : cFe A e σ D σ' D') (he : σ.1 e = some (.inr (7, fs))) (he' : σ'.1 e = some (.inr (7, fs'))) (hlo : e < lo5) (hl : lo ≤ lo5) (hlow : σ'.1 κ.2.2.1 = none) (hnm : ∀ u, u ∈ ν.1 → nm' u = nm u) (h0 : cCt κ T kk pp ee f A D lo5 σ cd2 (nRes f pp ee nm ν) t (fun _ => none) 0 x) : cCt κ T kk pp ee f A D' lo σ' cd2 (nR f pp ee nm' ν.1) t (fun _ => none) 0 x := by
  rw [nR_cg hnm]
  exact cCt.kp (cKp.fe h hr he he' hlo hl hlow) t _ _ _ h0
end CQS
