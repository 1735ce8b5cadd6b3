/-! the class's Judge: its state, compare() -/
/-- what the Judge does not write -/
def jFr (pa ph ta th x : Nat) (cc : oC) : Prop := match cc with
  | .inr y => y.1 ≠ 3 ∧ y.1 ≠ 8
  | .inl y => y.1 ≠ .long ∧ x ≠ pa ∧ x ≠ ph ∧ x ≠ ta ∧ x ≠ th
def jKp (pa ph ta th : Nat) (σ σ' : oSt) : Prop := (∀ x cc, σ.1 x = some cc → jFr pa ph ta th x cc → σ'.1 x = some cc) ∧ (∀ x, σ.1 x = none → (x < σ.2.1 ∨ σ'.2.1 ≤ x) → σ'.1 x = none) ∧ σ.2.1 ≤ σ'.2.1
theorem jKp.rf {pa ph ta th : Nat} (σ : oSt) : jKp pa ph ta th σ σ := ⟨fun _ _ h _ => h, fun _ h _ => h, Nat.le_refl _⟩
theorem jKp.tr {pa ph ta th : Nat} {a b c : oSt} (h : jKp pa ph ta th a b) (g : jKp pa ph ta th b c) : jKp pa ph ta th a c := ⟨fun x cc e k => g.1 x cc (h.1 x cc e k) k, fun x e k => g.2.1 x (h.2.1 x e (k.imp id (fun w => Nat.le_trans g.2.2 w))) (k.imp (fun w => Nat.lt_of_lt_of_le w h.2.2) id), Nat.le_trans h.2.2 g.2.2⟩
theorem jKp.fr {pa ph ta th : Nat} {σ σ' : oSt} (h : jKp pa ph ta th σ σ') (hf : ∀ q, σ.2.1 ≤ q → σ.1 q = none) : ∀ q, σ'.2.1 ≤ q → σ'.1 q = none := fun q hq => h.2.1 q (hf q (Nat.le_trans h.2.2 hq)) (Or.inr hq)
/-- the Judge: conditions that wait P, truths Tr -/
def jSt (σ : oSt) (j o ca pa ph ta th len W b : Nat) (cl fa : Int32) (f : Nat → Int64) (rd : Int32) (wk : Option Nat) (ps : Int32) (P Tr : List (Nat × Bool)) : Prop := σ.1 j = some (.inr (3, [.ref o, .ref pa, .ref ph, .int (nI P.length), .ref ta, .ref th, .int (nI Tr.length), .int rd, va_rf wk, .int ps])) ∧ (σ.1 o = some (.inr (8, [.ref ca, .int (nI W), .int (nI b), .int cl, .int fa])) ∧ σ.1 ca = some (.inl (.long, len, .inr (.inl f)))) ∧ (∃ gp hp, σ.1 pa = some (.inl (.object "LiquidTongue$Node", 40, .inr (.inr (.inr (.inr gp))))) ∧ σ.1 ph = some (.inl (.boolean, 40, .inl hp)) ∧ ∀ (k : Nat) (x : Nat × Bool), P[k]? = some x → gp k = some x.1 ∧ hp k = b01 x.2) ∧ (∃ gt ht, σ.1 ta = some (.inl (.object "LiquidTongue$Name", 40, .inr (.inr (.inr (.inr gt))))) ∧ σ.1 th = some (.inl (.boolean, 40, .inl ht)) ∧ ∀ (k : Nat) (x : Nat × Bool), Tr[k]? = some x → gt k = some x.1 ∧ ht k = b01 x.2) ∧ (P.length ≤ 40 ∧ Tr.length ≤ 40) ∧ ph ≠ th
section JST
variable {σ : oSt} {j o ca pa ph ta th len W b : Nat} {cl fa : Int32} {f : Nat → Int64} {rd : Int32} {wk : Option Nat} {ps : Int32} {P Tr : List (Nat × Bool)}
theorem jSt.ne (h : jSt σ j o ca pa ph ta th len W b cl fa f rd wk ps P Tr) : (j ≠ o ∧ j ≠ ca ∧ j ≠ pa ∧ j ≠ ph ∧ j ≠ ta ∧ j ≠ th) ∧ (o ≠ ca ∧ o ≠ pa ∧ o ≠ ph ∧ o ≠ ta ∧ o ≠ th) ∧ (ca ≠ pa ∧ ca ≠ ph ∧ ca ≠ ta ∧ ca ≠ th) ∧ (pa ≠ ph ∧ pa ≠ ta ∧ pa ≠ th) ∧ (ph ≠ ta ∧ ph ≠ th) ∧ ta ≠ th := by
  obtain ⟨h1, ⟨h2, h3⟩, ⟨gp, hp, h4, h5, -⟩, ⟨gt, ht, h6, h7, -⟩, -, h8⟩ := h
  have no : ∀ {x y : Nat} {a b : oC}, σ.1 x = some a → σ.1 y = some b → a ≠ b → x ≠ y := fun {x y a b} e1 e2 hne e => by
    subst e
    rw [e1] at e2
    exact hne (Option.some.inj e2)
  refine ⟨⟨no h1 h2 ?_, no h1 h3 ?_, no h1 h4 ?_, no h1 h5 ?_, no h1 h6 ?_, no h1 h7 ?_⟩, ⟨no h2 h3 ?_, no h2 h4 ?_, no h2 h5 ?_, no h2 h6 ?_, no h2 h7 ?_⟩, ⟨no h3 h4 ?_, no h3 h5 ?_, no h3 h6 ?_, no h3 h7 ?_⟩, ⟨no h4 h5 ?_, no h4 h6 ?_, no h4 h7 ?_⟩, ⟨no h5 h6 ?_, h8⟩, no h6 h7 ?_⟩ <;> (intro e; simp at e)
theorem jSt.oc (h : jSt σ j o ca pa ph ta th len W b cl fa f rd wk ps P Tr) : gOc σ o ca len W b cl fa f = σ := by
  obtain ⟨h1, ⟨h2, h3⟩, -⟩ := h
  unfold gOc
  rw [oput_same h3, oput_same h2]
/-- other cells of the Octagon -/
theorem jSt.put {fa' : Int32} {f' : Nat → Int64} (h : jSt σ j o ca pa ph ta th len W b cl fa f rd wk ps P Tr) : jSt (gOc σ o ca len W b cl fa' f') j o ca pa ph ta th len W b cl fa' f' rd wk ps P Tr ∧ jKp pa ph ta th σ (gOc σ o ca len W b cl fa' f') := by
  obtain ⟨⟨n1, n2, n3, n4, n5, n6⟩, ⟨m1, m2, m3, m4, m5⟩, ⟨k1, k2, k3, k4⟩, -⟩ := h.ne
  obtain ⟨h1, ⟨h2, h3⟩, ⟨gp, hp, h4, h5, h6⟩, ⟨gt, ht, h7, h8, h9⟩, h10, h11⟩ := h
  refine ⟨⟨(gOc_oth n1 n2).trans h1, ⟨gOc_o, gOc_ca (Ne.symm m1)⟩, ⟨gp, hp, (gOc_oth (Ne.symm m2) (Ne.symm k1)).trans h4, (gOc_oth (Ne.symm m3) (Ne.symm k2)).trans h5, h6⟩, ⟨gt, ht, (gOc_oth (Ne.symm m4) (Ne.symm k3)).trans h7, (gOc_oth (Ne.symm m5) (Ne.symm k4)).trans h8, h9⟩, h10, h11⟩, fun x cc e k => ?_, fun x e k => ?_, Nat.le_refl _⟩
  · have x1 : x ≠ o := fun z => by
      subst z
      rw [h2] at e
      injection e with e
      subst e
      exact k.2 rfl
    have x2 : x ≠ ca := fun z => by
      subst z
      rw [h3] at e
      injection e with e
      subst e
      exact k.1 rfl
    rw [gOc_oth x1 x2]
    exact e
  · have x1 : x ≠ o := fun z => by subst z; rw [h2] at e; cases e
    have x2 : x ≠ ca := fun z => by subst z; rw [h3] at e; cases e
    rw [gOc_oth x1 x2]
    exact e
end JST
