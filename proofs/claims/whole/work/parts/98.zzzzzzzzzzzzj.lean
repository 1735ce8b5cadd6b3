/-! the class's Judge: weaken(), isSure() -/
/-- what a whole question does not write -/
def jKx (X : Nat → Prop) (pa ph ta th : Nat) (σ σ' : oSt) : Prop := (∀ x cc, σ.1 x = some cc → jFr pa ph ta th x cc → (∀ fs, cc ≠ .inr (4, fs)) → (∀ fs, cc ≠ .inr (6, fs)) → (∀ y, cc = .inl y → (y.1 = .int ∨ y.1 = .object "LiquidTongue$Sum") → ¬ X x) → σ'.1 x = some cc) ∧ (∀ x fs, σ.1 x = some (.inr (4, fs)) → ∃ fs', σ'.1 x = some (.inr (4, fs')) ∧ fs'.length = fs.length ∧ ∀ i, i < 11 → (i = 7 → ¬ X x) → fs'[i]? = fs[i]?) ∧ (∀ x fs, σ.1 x = some (.inr (6, fs)) → ∃ fs', σ'.1 x = some (.inr (6, fs')) ∧ fs'.length = fs.length ∧ ∀ i, i ≠ 6 → i ≠ 7 → fs'[i]? = fs[i]?) ∧ (∀ x, σ.1 x = none → (x < σ.2.1 ∨ σ'.2.1 ≤ x) → σ'.1 x = none) ∧ σ.2.1 ≤ σ'.2.1
section JKX
variable {X : Nat → Prop} {pa ph ta th : Nat} {σ σ' : oSt}
theorem jKx.tr {a b c : oSt} (h : jKx X pa ph ta th a b) (g : jKx X pa ph ta th b c) : jKx X pa ph ta th a c := ⟨fun x cc e k l m n => g.1 x cc (h.1 x cc e k l m n) k l m n, fun x fs e => by
  obtain ⟨f1, a1, a2, a3⟩ := h.2.1 x fs e
  obtain ⟨f2, b1, b2, b3⟩ := g.2.1 x f1 a1
  exact ⟨f2, b1, b2.trans a2, fun i hi h7 => (b3 i hi h7).trans (a3 i hi h7)⟩, fun x fs e => by
  obtain ⟨f1, a1, a2, a3⟩ := h.2.2.1 x fs e
  obtain ⟨f2, b1, b2, b3⟩ := g.2.2.1 x f1 a1
  exact ⟨f2, b1, b2.trans a2, fun i h6 h7 => (b3 i h6 h7).trans (a3 i h6 h7)⟩, fun x e k => g.2.2.2.1 x (h.2.2.2.1 x e (k.imp id (fun w => Nat.le_trans g.2.2.2.2 w))) (k.imp (fun w => Nat.lt_of_lt_of_le w h.2.2.2.2) id), Nat.le_trans h.2.2.2.2 g.2.2.2.2⟩
theorem jKb.kx (h : jKb pa ph ta th σ σ') : jKx X pa ph ta th σ σ' := ⟨fun x cc e k l m _ => h.1 x cc e k l m, fun x fs e => by
  obtain ⟨f1, a1, a2, a3⟩ := h.2.1 x fs e
  exact ⟨f1, a1, a2, fun i hi _ => a3 i hi⟩, h.2.2.1, h.2.2.2.1, h.2.2.2.2⟩
theorem jKw.kx (h : jKw X pa ph ta th σ σ') : jKx X pa ph ta th σ σ' := ⟨fun x cc e k l _ n => h.1 x cc e k (by
  cases cc with
  | inl y => exact n y rfl
  | inr y => exact fun w => l y.2 (by rw [← w])), h.2.2.2, fun x fs e => ⟨fs, h.ob e (by decide) (by decide) (by decide), rfl, fun _ _ _ => rfl⟩, h.2.1, h.2.2.1⟩
end JKX
section JWK
variable {lo : Nat × (Nat → Prop)} {κ : oKv} {T j o pa ph ta th : Nat} {rd : Int32} {wk : Option Nat} {ps : Int32} {B : Int} {ti : Nat → Nat} {Mn : Nat → Bool → List oBr} {bs : Nat → Int32} {kn : Nat → Nat}
theorem jSt.lev2 {σ : oSt} {W ca len b b' : Nat} {cl cl' fa fa' : Int32} {f f' : Nat → Int64} {P Tr : List (Nat × Bool)} (h : jSt σ j o ca pa ph ta th len W b cl fa f rd wk ps P Tr) : jSt (gOc σ o ca len W b' cl' fa' f') j o ca pa ph ta th len W b' cl' fa' f' rd wk ps P Tr ∧ jKp pa ph ta th σ (gOc σ o ca len W b' cl' fa' f') := by
  obtain ⟨⟨n1, n2, n3, n4, n5, n6⟩, ⟨m1, m2, m3, m4, m5⟩, ⟨k1, k2, k3, k4⟩, -⟩ := h.ne
  obtain ⟨h1, ⟨h2, h3⟩, ⟨gp, hp, h4, h5, h6⟩, ⟨gt, ht, h7, h8, h9⟩, h10, h11⟩ := h
  refine ⟨⟨(gOc_oth n1 n2).trans h1, ⟨gOc_o, gOc_ca (Ne.symm m1)⟩, ⟨gp, hp, (gOc_oth (Ne.symm m2) (Ne.symm k1)).trans h4, (gOc_oth (Ne.symm m3) (Ne.symm k2)).trans h5, h6⟩, ⟨gt, ht, (gOc_oth (Ne.symm m4) (Ne.symm k3)).trans h7, (gOc_oth (Ne.symm m5) (Ne.symm k4)).trans h8, h9⟩, h10, h11⟩, fun x cc e k => ?_, fun x e k => ?_, Nat.le_refl _⟩
  · have x1 : x ≠ o := fun z => by
      subst z
      rw [h2] at e
      injection e with e
      subst e
      exact k.2 rfl
    have x2 : x ≠ ca := fun z => by
      subst z
      rw [h3] at e
      injection e with e
      subst e
      exact k.1 rfl
    rw [gOc_oth x1 x2]
    exact e
  · have x1 : x ≠ o := fun z => by subst z; rw [h2] at e; cases e
    have x2 : x ≠ ca := fun z => by subst z; rw [h3] at e; cases e
    rw [gOc_oth x1 x2]
    exact e
/-- a field of the Judge's own: weakened, possible -/
theorem jSt.fld {σ : oSt} {W ca len b : Nat} {cl fa : Int32} {f : Nat → Int64} {P Tr : List (Nat × Bool)} (h : jSt σ j o ca pa ph ta th len W b cl fa f rd wk ps P Tr) (wk' : Option Nat) (ps' : Int32) : jSt (oput σ j (.inr (3, [.ref o, .ref pa, .ref ph, .int (nI P.length), .ref ta, .ref th, .int (nI Tr.length), .int rd, va_rf wk', .int ps']))) j o ca pa ph ta th len W b cl fa f rd wk' ps' P Tr ∧ jKp pa ph ta th σ (oput σ j (.inr (3, [.ref o, .ref pa, .ref ph, .int (nI P.length), .ref ta, .ref th, .int (nI Tr.length), .int rd, va_rf wk', .int ps']))) := by
  obtain ⟨⟨n1, n2, n3, n4, n5, n6⟩, -⟩ := h.ne
  obtain ⟨h1, ⟨h2, h3⟩, ⟨gp, hp, h4, h5, h6⟩, ⟨gt, ht, h7, h8, h9⟩, h10, h11⟩ := h
  refine ⟨⟨oput_eq _ _ _, ⟨(oput_ne (Ne.symm n1)).trans h2, (oput_ne (Ne.symm n2)).trans h3⟩, ⟨gp, hp, (oput_ne (Ne.symm n3)).trans h4, (oput_ne (Ne.symm n4)).trans h5, h6⟩, ⟨gt, ht, (oput_ne (Ne.symm n5)).trans h7, (oput_ne (Ne.symm n6)).trans h8, h9⟩, h10, h11⟩, fun x cc e k => ?_, fun x e k => ?_, Nat.le_refl _⟩
  · have : x ≠ j := fun z => by
      subst z
      rw [h1] at e
      injection e with e
      subst e
      exact k.1 rfl
    exact (oput_ne this).trans e
  · have : x ≠ j := fun z => by
      subst z
      rw [h1] at e
      cases e
    exact (oput_ne this).trans e
/-- close(), explore(0) from what is known -/
theorem j_cx {X : Nat → Prop} {α : Type} {Rp : oSt → Int32 → List α → Prop} {Q : α → List oLm → Prop} {N N0 c Hm A0 ca len : Nat} {sl : Nat → Nat} {σ : oSt} {f : Nat → Int64} {fa : Int32} {Tr : List (Nat × Bool)} {L : List oLm} {Z : List ((Nat × Bool) × Nat)} {Wy : List (List oBr)} {Lp : List oLm} {S : List α} (hT : 200 ≤ T) (hc : 0 < c ∧ c ≤ 60) (hB : 2 ≤ B) (hBW : ((2 * c : Nat) : Int) * B + B + 2 ≤ 4503599627370496) (hti : ∀ x y, ti x = ti y → x = y) (hq : qOk κ T N0 j o pa ph ta th (2 * c) B rd wk X Rp Q) (hA : A0 ≤ 20) (hlv : (A0 + 1) * (2 * c * (2 * c)) ≤ 100800) (hN : Hm + N0 + 48 ≤ N) (hl : len ≤ 201600) (hm : 2 * c * (2 * c) ≤ len) (hfr : ∀ q, σ.2.1 ≤ q → σ.1 q = none) (hI : bgI X κ j o ca pa ph ta th len (2 * c) c rd wk ps B sl ti Mn Hm A0 σ f fa Tr L Z Wy Lp) (hR : Rp σ ps S) : ∃ σ1 σ' ca' len' f' fa' ps', oF κ T N 58 [va_rf (some o)] σ = some (none, σ1) ∧ ofd σ (some j) 3 0 = some (.ref o) ∧ oob σ (some o) 8 = some o ∧ oob σ1 (some j) 3 = some j ∧ oF κ T N 63 [va_rf (some j), .int 0] σ1 = some (none, σ') ∧ jSt σ' j o ca' pa ph ta th len' (2 * c) 0 1 fa' f' rd wk ps' (Z.map Prod.fst) Tr ∧ jKx X pa ph ta th σ σ' ∧ gMo len len' σ σ' ∧ len' ≤ 201600 ∧ Rp σ' ps' (fQz (fun x => ¬ exL Wy (kFe (fun L => ¬ Q x L)) Lp []) S) := by
  obtain ⟨N, rfl⟩ : ∃ N', N = N' + 2 := ⟨N - 2, by omega⟩
  obtain ⟨J, i2, i3, i4, i5, i6, i7⟩ := hI
  have m12 := J.ne.2.1.1
  have hP0 : oPn B (2 * c) 0 L f fa := by
    rcases i2 with ⟨-, h⟩ | ⟨e, -⟩
    · exact h
    · exact absurd e (by decide)
  obtain ⟨f1, fa1, c1, c2, c3⟩ := c_oclose (κ := κ) (T := T) (n := N) (σ := σ) (ca := ca) (o := o) (c := c) (len := len) (b := 0) (f := f) (fa := fa) (L := L) (B := B) hT (by omega) rfl (Ne.symm m12) (by omega) (by omega) (by omega) hBW i3 hP0
  rw [J.oc] at c1
  obtain ⟨J1, k1⟩ := J.lev2 (b' := 0) (cl' := 1) (fa' := fa1) (f' := f1)
  have wl := wZ_le Z (fun z hz => (i4 z hz).1.nd.2)
  have ll : (Z.map Prod.fst).length = Z.length := List.length_map ..
  have hlev : 0 + ((Z.map Prod.snd).sum + 1) * (2 * c * (2 * c)) ≤ 100800 := by
    have h2 : ((Z.map Prod.snd).sum + 1) * (2 * c * (2 * c)) ≤ (A0 + 1) * (2 * c * (2 * c)) := Nat.mul_le_mul_right _ (by omega)
    omega
  obtain ⟨σ', ca', len', f', ps', u1, u2, u3, u4, u5, u6, u7⟩ := c_explore (κ := κ) (T := T) (X := X) (c := c) (sl := sl) (Mn := Mn) hT hc rfl (by omega) hBW hti hq Hm (wZ Z) 0 (N + 2) (gOc σ o ca len (2 * c) 0 1 fa1 f1) ca len 0 fa1 f1 ps (Z.map Prod.fst) Tr L S Z (Nat.le_refl _) (by omega) rfl (fun z hz => ⟨jMn.jk k1 _ _ _ (i4 z hz).1, (i4 z hz).2.jk k1⟩) (by omega) (by omega) (by omega) J1 c2 i3 i6 (by omega) hl hlev (k1.fr hfr) (hq.2.1 _ _ _ _ k1 hR)
  refine ⟨_, σ', ca', len', f', fa1, ps', c1, ofd_at J.1, oob_at J.2.1.1, oob_at J1.1, u1, u2, (k1.k4.b.kx).tr u3.kx, (gMo.of2 (σ := σ) rfl).trans u4, u5, ?_⟩
  rw [fQ_cg (R := fun x => ¬ exL (pMn Mn ((Z.map Prod.fst).drop 0)) (kFe (fun L => ¬ Q x L)) L (tMn ti Tr))]
  · exact u7
  · intro x _
    rw [List.drop_zero, i7 _ (kFe.d (fun L L' e w w' => w (hq.1 x L' L e.symm w')))]
end JWK
