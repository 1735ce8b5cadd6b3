/-! the class's parser: an ARG -/
/-- an ARG's tree, the rest left open -/
def aSh (a : tT → tT) : Prop := (∃ d, a = fun r => .inner 33 d () tZ r) ∨ (∃ d e, a = fun r => .inner 34 d () e r) ∨ (∃ d, a = fun r => .inner 35 d () tZ r)
section CRD
variable {κ : oKv} {sz T n m len cnt : Nat} {kk pp ee f : Nat → Int32} {A : Nat → Nat} {nq ni : Int32} {rt : Value} {σ σ' : oSt} {D D' : cDt} {at' cd : Nat} {cn am bd nf ff : Int32} {s : Sum Nat Nat} {nm nm' : Nat → Option Nat} {ν : nSt} {lo e i : Nat}
theorem sh_nT {a : tT → tT} (h : aSh a) (r : tT) (ν : nSt) : nT f pp ee (a r) ν = nT f pp ee r (nT f pp ee (a tZ) ν) := by
  rcases h with ⟨d, rfl⟩ | ⟨d, e, rfl⟩ | ⟨d, rfl⟩ <;> rfl
theorem sh_fE {a : tT → tT} (h : aSh a) (r : tT) (env : List Nat) (cn ff : Int32) : fE f pp ee (a r) env cn ff = fE f pp ee r env cn (fE f pp ee (a tZ) env cn ff) := by
  rcases h with ⟨d, rfl⟩ | ⟨d, e, rfl⟩ | ⟨d, rfl⟩ <;> rfl
theorem sh_nF {a : tT → tT} (h : aSh a) (r : tT) : nF (a r) = nF (a tZ) + nF r := by
  rcases h with ⟨d, rfl⟩ | ⟨d, e, rfl⟩ | ⟨d, rfl⟩
  · show 0 + 0 + nF r = 0 + 0 + 0 + nF r; omega
  · show 0 + nF e + nF r = 0 + nF e + 0 + nF r; omega
  · show 0 + 0 + nF r = 0 + 0 + 0 + nF r; omega
theorem sh_tr {a : tT → tT} (h : aSh a) {r : tT} {env : List Nat} {fk k m x : Nat} {g : Nat → Option Nat} (hg : g k = some x) (h1 : cTr κ T kk pp ee f A D lo σ nm (a tZ) env fk (fun _ => some x) 0 1) (h2 : cTr κ T kk pp ee f A D lo σ nm r env (fk + nF (a tZ)) g (k + 1) m) : cTr κ T kk pp ee f A D lo σ nm (a r) env fk g k m := by
  rcases h with ⟨d, rfl⟩ | ⟨d, e, rfl⟩ | ⟨d, rfl⟩
  · obtain ⟨x', su, w1, w2, w3⟩ := h1
    injection w1 with w1
    subst w1
    exact ⟨x, su, hg, w2, h2⟩
  · obtain ⟨x', fs, w1, w2, w3, w4⟩ := h1
    injection w1 with w1
    subst w1
    have z : fk + nF ((fun r => Std.DTreeMap.Internal.Impl.inner 34 d () e r : tT → tT) tZ) = fk + nF e := by show fk + (0 + nF e + 0) = _; omega
    rw [z] at h2
    exact ⟨x, fs, hg, w2, w3, h2⟩
  · obtain ⟨x', w1, w2, w3⟩ := h1
    injection w1 with w1
    subst w1
    exact ⟨x, hg, w2, h2⟩
/-- an S's own node changed: its mark, what it is alone -/
theorem cSq.put {mk mk' : Int32} {ns : Nat → Option Nat} {S : tS} {al al' : Int32} {su x : Nat} {fs : List Value} (h : cSq κ T pp ee f A D lo σ x mk cd ns S al su) (hf : σ.1 x = some (.inr (7, fs))) : ∃ pa, fs = (cSf (pp S.1) (nI cd) al (sLn ns S.2) pa su).set 3 (.int mk) ∧ (σ'.1 x = some (.inr (7, (cSf (pp S.1) (nI cd) al' (sLn ns S.2) pa su).set 3 (.int mk'))) → (∀ a, a ≠ x → σ'.1 a = σ.1 a) → σ'.2 = σ.2 → cSq κ T pp ee f A D lo σ' x mk' cd ns S al' su) := by
  obtain ⟨pa, na, ta, cap, pc, h1, ⟨d, mc, g, h2, h3, h4⟩, h5, k1, k2, k3, k4, k5⟩ := h
  rw [hf] at h1
  injection h1 with h1; injection h1 with h1; injection h1 with _ h1
  refine ⟨pa, h1, fun hx hk hz => ?_⟩
  subst h1
  have ok : ∀ a, cOk A D lo σ a → cOk A D lo σ' a := fun a w => ⟨w.1, by rw [hz]; exact w.2.1, w.2.2⟩
  have npa : pa ≠ x := fun z => by have w := h2.1; rw [z, hf] at w; cases w
  have nd : d ≠ x := fun z => by
    rcases h2.2.1 with ⟨-, -, -, w⟩ | ⟨w, -⟩
    · rw [z, hf] at w; cases w
    · rw [z, hf] at w; cases w
  have K : ∀ a gs, σ.1 a = some (.inr (7, gs)) → ∃ gs', σ'.1 a = some (.inr (7, gs')) := fun a gs ea => by
    by_cases z : a = x
    · rw [z]; exact ⟨_, hx⟩
    · exact ⟨gs, (hk a z).trans ea⟩
  have nS : su ≠ x ∧ na ≠ x ∧ ta ≠ x := by
    obtain ⟨_, _, w1, w2, w3, -⟩ := h5
    exact ⟨fun z => (by rw [z, hf] at w1; cases w1), fun z => (by rw [z, hf] at w2; cases w2), fun z => (by rw [z, hf] at w3; cases w3)⟩
  refine ⟨pa, na, ta, cap, pc, hx, ⟨d, mc, g, h2.keep (hk pa npa) (hk d nd) K, fun k p hkp => ?_, ?_⟩, h5.keep (fun a ha => hk a (by rcases ha with z | z | z <;> rw [z]; exact nS.1; exact nS.2.1; exact nS.2.2)) (fun a gs ea => ⟨gs, (hk a (fun z => by rw [z, hf] at ea; cases ea)).trans ea⟩), ok _ k1, ok _ k2, ok _ k3, ok _ k4, ok _ k5⟩
  · obtain ⟨a, q1, q2, q3, q4⟩ := h3 k p hkp
    exact ⟨a, q1, q2, ok a q3, (hk a q2).trans q4⟩
  · rcases h4 with y | ⟨y, y'⟩
    · exact Or.inl (ok d y)
    · exact Or.inr ⟨y, (hk d nd).trans y'⟩
end CRD
