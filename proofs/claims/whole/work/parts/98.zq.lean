/-! the class's parser: what reading a C must give -/
/-- NAMES over a C -/
def nCt (f pp ee : Nat → Int32) : tT → nSt → nSt
  | .leaf, ν => ν
  | .inner g d _ a b, ν => if g = 24 then nUse f pp ee d.1 ν else if g = 25 then nPs f pp ee d.2.2.2.2.2 (nPs f pp ee d.2.2.2.1.2 ν) else nCt f pp ee b (nCt f pp ee a ν)
/-- forms over a C -/
def fCt (pp : Nat → Int32) (ns : Nat → Option Nat) : tT → Int32 → Int32
  | .leaf, ff => ff
  | .inner g d _ a b, ff => if g = 25 then (if sFa (sDf (sL ns d.2.2.2.1.2) (sL ns d.2.2.2.2.2)) = true then ff else fMin ff (pp d.2.1)) else fCt pp ns b (fCt pp ns a ff)
/-- how many ATOMS -/
def tAt : tT → Nat
  | .leaf => 0
  | .inner g _ _ a b => if g = 23 ∨ g = 24 ∨ g = 25 then 1 else tAt a + tAt b
theorem nCt_1 (f pp ee : Nat → Int32) : ∀ (t : tT) (ν : nSt), (nCt f pp ee t ν).1 = ν.1
  | .leaf, _ => rfl
  | .inner g d _ a b, ν => by
    unfold nCt
    split
    · exact nUse_1 ..
    · split
      · rw [nPs_1, nPs_1]
      · rw [nCt_1 f pp ee b, nCt_1 f pp ee a]
section CQD
variable {κ : oKv} {sz T n m len cnt : Nat} {kk pp ee f : Nat → Int32} {A : Nat → Nat} {nq ni : Int32} {rt : Value} {σ σ' : oSt} {D D' : cDt} {at' cd : Nat} {cn am bd nf ff : Int32} {s : Sum Nat Nat} {nm ns : Nat → Option Nat} {ν : nSt} {lo lo' e i : Nat}
/-- while the parser reads on -/
theorem cKp.fr {at2 cd2 : Nat} {cn2 am2 bd2 nf2 ff2 : Int32} (h : cV κ sz len cnt kk pp ee f A nq ni rt σ D at2 cd2 cn2 am2 bd2 nf2 ff2) (hr : cFr A σ D σ' D') (hl : lo' ≤ lo) (hlow : σ'.1 κ.2.2.1 = none) : cKp κ A D lo σ D' lo' σ' :=
  ⟨fun a ha => ⟨ha.eq hr, by have := ha.to hr; exact ⟨by have := this.1; omega, this.2⟩⟩, fun a fs ea => ⟨fs, h.kd hr ea (by omega)⟩, fun a fs ea => ⟨fs, h.kd hr ea (by omega)⟩, hlow⟩
/-- a node from before is changed -/
theorem cKp.bf {b : Nat} {fs fs' : List Value} (hb : σ.1 b = some (.inr (7, fs))) (hl : b < lo) (hl' : lo' ≤ lo) (hlow : σ.1 κ.2.2.1 = none) : cKp κ A D lo σ D lo' (oput σ b (.inr (7, fs'))) := by
  refine ⟨fun a ha => ⟨oput_ne (by have := ha.1; omega), by have := ha.1; omega, ha.2⟩, fun a gs ea => ⟨gs, by rw [oput_ne (fun z => by rw [z, hb] at ea; cases ea)]; exact ea⟩, fun a gs ea => ?_, by rw [oput_ne (fun z => by rw [← z, hlow] at hb; cases hb)]; exact hlow⟩
  by_cases z : a = b
  · rw [z]; exact ⟨_, oput_eq _ _ _⟩
  · exact ⟨gs, by rw [oput_ne z]; exact ea⟩
theorem cKp.tr {D'' : cDt} {lo'' : Nat} {σ'' : oSt} (h : cKp κ A D lo σ D' lo' σ') (h' : cKp κ A D' lo' σ' D'' lo'' σ'') : cKp κ A D lo σ D'' lo'' σ'' := by
  refine ⟨fun a ha => ?_, fun a fs ea => ?_, fun a fs ea => ?_, h'.2.2.2⟩
  · obtain ⟨q1, q2⟩ := h.1 a ha
    obtain ⟨q3, q4⟩ := h'.1 a q2
    exact ⟨q3.trans q1, q4⟩
  · obtain ⟨fs1, q⟩ := h.2.1 a fs ea
    exact h'.2.1 a fs1 q
  · obtain ⟨fs1, q⟩ := h.2.2.1 a fs ea
    exact h'.2.2.1 a fs1 q
/-- a node at e, of this place -/
def cPn (σ : oSt) (e : Nat) (pl : Int32) : Prop := ∃ fs, σ.1 e = some (.inr (7, fs)) ∧ fs[1]? = some (.int pl)
end CQD
/-- what a reader of a C at this depth gives -/
def cCc (κ : oKv) (sz T len cnt : Nat) (kk pp ee f : Nat → Int32) (A : Nat → Nat) (nq ni : Int32) (rt : Value) (D : cDt) (cd : Nat) (cn : Int32) (nm : Nat → Option Nat) (mi dp m : Nat) (F : Nat → aR tT) (C1 C2 : Nat) : Prop := ∀ (σ : oSt) (at' : Nat) (am bd nf ff : Int32) (s : Sum Nat Nat) (ν : nSt), cV κ sz len cnt kk pp ee f A nq ni rt σ D at' cd cn am bd nf ff → cO pp cnt at' bd s → (∀ i, s = .inr i → cNm pp ee f σ D nm ν cd nf) → ∃ σ' at2 am2 bd2 nf2 ff2 e pl, oF κ T m mi [va_rf (some (A 0)), .int (nI dp)] σ = some (some (va_rf (some e)), σ') ∧ cV κ sz len cnt kk pp ee f A nq ni rt σ' D at2 cd cn am2 bd2 nf2 ff2 ∧ cO pp cnt at2 bd2 (aTo s F) ∧ cFr A σ D σ' D ∧ (cPn σ' e pl ∧ σ.2.1 ≤ e) ∧ (σ'.2.2.1 + 30 * at' ≤ σ.2.2.1 + C1 + 30 * at2 ∧ σ'.2.2.2 + 240 * at' ≤ σ.2.2.2 + C2 + 240 * at2) ∧ at' ≤ at2 ∧ (∀ i t j, s = .inr i → F i = .inr (t, j) → cCt κ T kk pp ee f A D σ.2.1 σ' cd (nRes f pp ee nm ν) t (fun _ => none) 0 e ∧ pl = pp (tPl t) ∧ cNm pp ee f σ' D nm (nCt f pp ee t ν) cd nf2 ∧ am2 = am + nI (tAt t) ∧ ff2 = fCt pp (nRes f pp ee nm ν) t ff)
