/-! the class's Judge: weaken(), isSure() -/
/-- what a whole question does not write -/
def jKx (X : Nat → Prop) (pa ph ta th : Nat) (σ σ' : oSt) : Prop := (∀ x cc, σ.1 x = some cc → jFr pa ph ta th x cc → (∀ fs, cc ≠ .inr (4, fs)) → (∀ fs, cc ≠ .inr (6, fs)) → (∀ y, cc = .inl y → (y.1 = .int ∨ y.1 = .object "LiquidTongue$Sum") → ¬ X x) → σ'.1 x = some cc) ∧ (∀ x fs, σ.1 x = some (.inr (4, fs)) → ∃ fs', σ'.1 x = some (.inr (4, fs')) ∧ fs'.length = fs.length ∧ ∀ i, i < 11 → (i = 7 → ¬ X x) → fs'[i]? = fs[i]?) ∧ (∀ x fs, σ.1 x = some (.inr (6, fs)) → ∃ fs', σ'.1 x = some (.inr (6, fs')) ∧ fs'.length = fs.length ∧ ∀ i, i ≠ 6 → i ≠ 7 → fs'[i]? = fs[i]?) ∧ (∀ x, σ.1 x = none → (x < σ.2.1 ∨ σ'.2.1 ≤ x) → σ'.1 x = none) ∧ σ.2.1 ≤ σ'.2.1
section JKX
variable {X : Nat → Prop} {pa ph ta th : Nat} {σ σ' : oSt}
theorem jKx.tr {a b c : oSt} (h : jKx X pa ph ta th a b) (g : jKx X pa ph ta th b c) : jKx X pa ph ta th a c := ⟨fun x cc e k l m n => g.1 x cc (h.1 x cc e k l m n) k l m n, fun x fs e => by
  obtain ⟨f1, a1, a2, a3⟩ := h.2.1 x fs e
  obtain ⟨f2, b1, b2, b3⟩ := g.2.1 x f1 a1
  exact ⟨f2, b1, b2.trans a2, fun i hi h7 => (b3 i hi h7).trans (a3 i hi h7)⟩, fun x fs e => by
  obtain ⟨f1, a1, a2, a3⟩ := h.2.2.1 x fs e
  obtain ⟨f2, b1, b2, b3⟩ := g.2.2.1 x f1 a1
  exact ⟨f2, b1, b2.trans a2, fun i h6 h7 => (b3 i h6 h7).trans (a3 i h6 h7)⟩, fun x e k => g.2.2.2.1 x (h.2.2.2.1 x e (k.imp id (fun w => Nat.le_trans g.2.2.2.2 w))) (k.imp (fun w => Nat.lt_of_lt_of_le w h.2.2.2.2) id), Nat.le_trans h.2.2.2.2 g.2.2.2.2⟩
theorem jKb.kx (h : jKb pa ph ta th σ σ') : jKx X pa ph ta th σ σ' := ⟨fun x cc e k l m _ => h.1 x cc e k l m, fun x fs e => by
  obtain ⟨f1, a1, a2, a3⟩ := h.2.1 x fs e
  exact ⟨f1, a1, a2, fun i hi _ => a3 i hi⟩, h.2.2.1, h.2.2.2.1, h.2.2.2.2⟩
theorem jKw.kx (h : jKw X pa ph ta th σ σ') : jKx X pa ph ta th σ σ' := ⟨fun x cc e k l _ n => h.1 x cc e k (by
  cases cc with
  | inl y => exact n y rfl
  | inr y => exact fun w => l y.2 (by rw [← w])), h.2.2.2, fun x fs e => ⟨fs, h.ob e (by decide) (by decide) (by decide), rfl, fun _ _ _ => rfl⟩, h.2.1, h.2.2.1⟩
end JKX
section JWK
variable {lo : Nat × (Nat → Prop)} {κ : oKv} {T j o pa ph ta th : Nat} {rd : Int32} {wk : Option Nat} {ps : Int32} {B : Int} {ti : Nat → Nat} {Mn : Nat → Bool → List oBr} {bs : Nat → Int32} {kn : Nat → Nat}
theorem jSt.lev2 {σ : oSt} {W ca len b b' : Nat} {cl cl' fa fa' : Int32} {f f' : Nat → Int64} {P Tr : List (Nat × Bool)} (h : jSt σ j o ca pa ph ta th len W b cl fa f rd wk ps P Tr) : jSt (gOc σ o ca len W b' cl' fa' f') j o ca pa ph ta th len W b' cl' fa' f' rd wk ps P Tr ∧ jKp pa ph ta th σ (gOc σ o ca len W b' cl' fa' f') := by
  obtain ⟨⟨n1, n2, n3, n4, n5, n6⟩, ⟨m1, m2, m3, m4, m5⟩, ⟨k1, k2, k3, k4⟩, -⟩ := h.ne
  obtain ⟨h1, ⟨h2, h3⟩, ⟨gp, hp, h4, h5, h6⟩, ⟨gt, ht, h7, h8, h9⟩, h10, h11⟩ := h
  refine ⟨⟨(gOc_oth n1 n2).trans h1, ⟨gOc_o, gOc_ca (Ne.symm m1)⟩, ⟨gp, hp, (gOc_oth (Ne.symm m2) (Ne.symm k1)).trans h4, (gOc_oth (Ne.symm m3) (Ne.symm k2)).trans h5, h6⟩, ⟨gt, ht, (gOc_oth (Ne.symm m4) (Ne.symm k3)).trans h7, (gOc_oth (Ne.symm m5) (Ne.symm k4)).trans h8, h9⟩, h10, h11⟩, fun x cc e k => ?_, fun x e k => ?_, Nat.le_refl _⟩
  · have x1 : x ≠ o := fun z => by
      subst z
      rw [h2] at e
      injection e with e
      subst e
      exact k.2 rfl
    have x2 : x ≠ ca := fun z => by
      subst z
      rw [h3] at e
      injection e with e
      subst e
      exact k.1 rfl
    rw [gOc_oth x1 x2]
    exact e
  · have x1 : x ≠ o := fun z => by subst z; rw [h2] at e; cases e
    have x2 : x ≠ ca := fun z => by subst z; rw [h3] at e; cases e
    rw [gOc_oth x1 x2]
    exact e
/-- a field of the Judge's own: weakened, possible -/
theorem jSt.fld {σ : oSt} {W ca len b : Nat} {cl fa : Int32} {f : Nat → Int64} {P Tr : List (Nat × Bool)} (h : jSt σ j o ca pa ph ta th len W b cl fa f rd wk ps P Tr) (wk' : Option Nat) (ps' : Int32) : jSt (oput σ j (.inr (3, [.ref o, .ref pa, .ref ph, .int (nI P.length), .ref ta, .ref th, .int (nI Tr.length), .int rd, va_rf wk', .int ps']))) j o ca pa ph ta th len W b cl fa f rd wk' ps' P Tr ∧ jKp pa ph ta th σ (oput σ j (.inr (3, [.ref o, .ref pa, .ref ph, .int (nI P.length), .ref ta, .ref th, .int (nI Tr.length), .int rd, va_rf wk', .int ps']))) := by
  obtain ⟨⟨n1, n2, n3, n4, n5, n6⟩, -⟩ := h.ne
  obtain ⟨h1, ⟨h2, h3⟩, ⟨gp, hp, h4, h5, h6⟩, ⟨gt, ht, h7, h8, h9⟩, h10, h11⟩ := h
  refine ⟨⟨oput_eq _ _ _, ⟨(oput_ne (Ne.symm n1)).trans h2, (oput_ne (Ne.symm n2)).trans h3⟩, ⟨gp, hp, (oput_ne (Ne.symm n3)).trans h4, (oput_ne (Ne.symm n4)).trans h5, h6⟩, ⟨gt, ht, (oput_ne (Ne.symm n5)).trans h7, (oput_ne (Ne.symm n6)).trans h8, h9⟩, h10, h11⟩, fun x cc e k => ?_, fun x e k => ?_, Nat.le_refl _⟩
  · have : x ≠ j := fun z => by
      subst z
      rw [h1] at e
      injection e with e
      subst e
      exact k.1 rfl
    exact (oput_ne this).trans e
  · have : x ≠ j := fun z => by
      subst z
      rw [h1] at e
      cases e
    exact (oput_ne this).trans e
/-- close(), explore(0) from what is known -/
theorem j_cx {X : Nat → Prop} {α : Type} {Rp : oSt → Int32 → List α → Prop} {Q : α → List oLm → Prop} {N N0 c Hm A0 ca len : Nat} {sl : Nat → Nat} {σ : oSt} {f : Nat → Int64} {fa : Int32} {Tr : List (Nat × Bool)} {L : List oLm} {Z : List ((Nat × Bool) × Nat)} {Wy : List (List oBr)} {Lp : List oLm} {S : List α} (hT : 200 ≤ T) (hc : 0 < c ∧ c ≤ 60) (hB : 2 ≤ B) (hBW : ((2 * c : Nat) : Int) * B + B + 2 ≤ 4503599627370496) (hti : ∀ x y, ti x = ti y → x = y) (hq : qOk κ T N0 j o pa ph ta th (2 * c) B rd wk X Rp Q) (hA : A0 ≤ 20) (hN : Hm + N0 + 48 ≤ N) (hl : len ≤ 60000000) (hm : 2 * c * (2 * c) ≤ len) (hfr : ∀ q, σ.2.1 ≤ q → σ.1 q = none) (hI : bgI X κ j o ca pa ph ta th len (2 * c) c rd wk ps B sl ti Mn Hm A0 σ f fa Tr L Z Wy Lp) (hR : Rp σ ps S) : ∃ σ1 σ' ca' len' f' fa' ps', oF κ T N 58 [va_rf (some o)] σ = some (none, σ1) ∧ ofd σ (some j) 3 0 = some (.ref o) ∧ oob σ (some o) 8 = some o ∧ oob σ1 (some j) 3 = some j ∧ oF κ T N 63 [va_rf (some j), .int 0] σ1 = some (none, σ') ∧ jSt σ' j o ca' pa ph ta th len' (2 * c) 0 1 fa' f' rd wk ps' (Z.map Prod.fst) Tr ∧ jKx X pa ph ta th σ σ' ∧ gMo len len' σ σ' ∧ len' ≤ 60000000 ∧ Rp σ' ps' (fQz (fun x => ¬ exL Wy (kFe (fun L => ¬ Q x L)) Lp []) S) := by
  obtain ⟨N, rfl⟩ : ∃ N', N = N' + 2 := ⟨N - 2, by omega⟩
  obtain ⟨J, i2, i3, i4, i5, i6, i7⟩ := hI
  have m12 := J.ne.2.1.1
  have hP0 : oPn B (2 * c) 0 L f fa := by
    rcases i2 with ⟨-, h⟩ | ⟨e, -⟩
    · exact h
    · exact absurd e (by decide)
  obtain ⟨f1, fa1, c1, c2, c3⟩ := c_oclose (κ := κ) (T := T) (n := N) (σ := σ) (ca := ca) (o := o) (c := c) (len := len) (b := 0) (f := f) (fa := fa) (L := L) (B := B) hT (by omega) rfl (Ne.symm m12) (by omega) (by omega) (by omega) hBW i3 hP0
  rw [J.oc] at c1
  obtain ⟨J1, k1⟩ := J.lev2 (b' := 0) (cl' := 1) (fa' := fa1) (f' := f1)
  have wl := wZ_le Z (fun z hz => (i4 z hz).1.nd.2)
  have ll : (Z.map Prod.fst).length = Z.length := List.length_map ..
  have hlev : 0 + (wZ Z + 2) * (2 * c * (2 * c)) ≤ 1000000 := by
    have h1 : 2 * c * (2 * c) ≤ 14400 := by
      have : 2 * c * (2 * c) ≤ 120 * 120 := Nat.mul_le_mul (by omega) (by omega)
      omega
    have h2 : (wZ Z + 2) * (2 * c * (2 * c)) ≤ 42 * 14400 := Nat.mul_le_mul (by omega) h1
    omega
  obtain ⟨σ', ca', len', f', ps', u1, u2, u3, u4, u5, u6, u7⟩ := c_explore (κ := κ) (T := T) (X := X) (c := c) (sl := sl) (Mn := Mn) hT hc rfl (by omega) hBW hti hq Hm (wZ Z) 0 (N + 2) (gOc σ o ca len (2 * c) 0 1 fa1 f1) ca len 0 fa1 f1 ps (Z.map Prod.fst) Tr L S Z (Nat.le_refl _) (by omega) rfl (fun z hz => ⟨jMn.jk k1 _ _ _ (i4 z hz).1, (i4 z hz).2.jk k1⟩) (by omega) (by omega) (by omega) J1 c2 i3 i6 (by omega) hl hlev (k1.fr hfr) (hq.2.1 _ _ _ _ k1 hR)
  refine ⟨_, σ', ca', len', f', fa1, ps', c1, ofd_at J.1, oob_at J.2.1.1, oob_at J1.1, u1, u2, (k1.k4.b.kx).tr u3.kx, (gMo.of2 (σ := σ) rfl).trans u4, u5, ?_⟩
  rw [fQ_cg (R := fun x => ¬ exL (pMn Mn ((Z.map Prod.fst).drop 0)) (kFe (fun L => ¬ Q x L)) L (tMn ti Tr))]
  · exact u7
  · intro x _
    rw [List.drop_zero, i7 _ (kFe.d (fun L L' e w w' => w (hq.1 x L' L e.symm w')))]
/-- **weaken(scope, left, right)** -/
theorem c_weaken {N Hm ca len W0 b0 w ra sa kl kr : Nat} {cl0 fa0 : Int32} {σ : oSt} {f : Nat → Int64} {P Tr : List (Nat × Bool)} {at' : Nat → Nat} {Dk : Nat → Bool × List (Nat × kTe) × List kFc} {Sc : List sEn} {s : Option Nat} {D : Bool × List (Nat × kTe) × List kFc} {G : List (Nat × kTe)} {F : List kFc} (hT : 100200 ≤ T) (hJ : pa < lo.1 ∧ ph < lo.1 ∧ ta < lo.1 ∧ th < lo.1) (hB : 2 ≤ B) (hBW : ((2 * ((msL bs Sc).length + 1) : Nat) : Int) * B + B + 2 ≤ 4503599627370496) (hN : Hm + 60 ≤ N) (hti : ∀ x y, ti x = ti y → x = y) (J : jSt σ j o ca pa ph ta th len W0 b0 cl0 fa0 f rd wk ps P Tr) (hl : len ≤ 60000000) (hfr : ∀ q, σ.2.1 ≤ q → σ.1 q = none) (hS : cScp bs kn σ Sc s) (hSl : Sc.length < 1000) (hnd : (msL bs Sc).Nodup) (hml : (msL bs Sc).length + 1 ≤ 60) (hK : ∀ a, a ∈ msL bs Sc → kInf lo σ B (msL bs Sc) (kn a) (Dk a)) (hD : kInf lo σ B (msL bs Sc) kl D) (hO : kOr lo σ w ra sa F) (hG : kGo lo σ kr w G) (hRw : kRw lo ra sa σ) (hF : ∀ x, x ∈ F → (∀ a e, (kRs G x.2).1 = some (a, e) → a ∈ msL bs Sc) ∧ kBd B (kRs G x.2)) (hM : ∀ σ1, jKb pa ph ta th σ σ1 → (∀ a, a ∈ msL bs Sc → nSl σ1 (rd + 1) (slO (msL bs Sc)) ((msL bs Sc).length + 1) a) → ∀ x, x ∈ tsL Sc → jMn (fun x => x = w ∨ x = ra ∨ x = sa) κ σ1 pa ph ta th (rd + 1) (slO (msL bs Sc)) ti ((msL bs Sc).length + 1) B Mn Hm (at' x.1) x.1) (hA : ((tsL Sc).map (fun x => at' x.1)).sum ≤ 20) : ∃ v σ' ca' len' W' f' fa' ps' P' Tr', oF κ T (N + 1) 67 [va_rf (some j), va_rf s, va_rf (some kl), va_rf (some kr)] σ = some (some (.int v), σ') ∧ jSt σ' j o ca' pa ph ta th len' W' 0 1 fa' f' (rd + 1) (some kr) ps' P' Tr' ∧ jKx (fun x => x = w ∨ x = ra ∨ x = sa) pa ph ta th σ σ' ∧ gMo len len' σ σ' ∧ len' ≤ 60000000 ∧ kOr lo σ' w ra sa (fQz (fun x => ¬ exL ((tsL Sc).map (fun x => Mn x.1 x.2)) (kFe (fun L => ¬ qB (slO (msL bs Sc)) G x L)) ((msL bs Sc).flatMap (fun a => lrnL (slO (msL bs Sc)) (slO (msL bs Sc) a) (Dk a).1 (Dk a).2.1 (Dk a).2.2) ++ lrnL (slO (msL bs Sc)) 0 D.1 D.2.1 D.2.2) []) F) ∧ v = (if (fQz (fun x => ¬ exL ((tsL Sc).map (fun x => Mn x.1 x.2)) (kFe (fun L => ¬ qB (slO (msL bs Sc)) G x L)) ((msL bs Sc).flatMap (fun a => lrnL (slO (msL bs Sc)) (slO (msL bs Sc) a) (Dk a).1 (Dk a).2.1 (Dk a).2.2) ++ lrnL (slO (msL bs Sc)) 0 D.1 D.2.1 D.2.2) []) F).length < F.length then 1 else 0) := by
  generalize hms : msL bs Sc = ms at *
  obtain ⟨N, rfl⟩ : ∃ N', N = N' + 1 := ⟨N - 1, by omega⟩
  obtain ⟨J0, k0⟩ := J.fld (some kr) ps
  have K0 : jKb pa ph ta th σ _ := k0.k4.b
  obtain ⟨σ1, ca1, len1, f1, fa1, Tr1, L1, Z1, b1, b2, b3, b4, b5, b6, b7⟩ := c_jbegin (κ := κ) (T := T) (N := N) (Hm := Hm) (at' := at') (Dk := Dk) (Sc := Sc) (s := s) (x2 := some kl) (Dl := some D) (Mn := Mn) (ti := ti) (X := fun x => x = w ∨ x = ra ∨ x = sa) (B := B) hT hJ hB (by rw [hms]; exact hBW) (by omega) J0 hl (k0.fr hfr) (cScp.kb K0 Sc s hS) hSl (by rw [hms]; exact hnd) (by rw [hms]; exact hml) (fun a ha => by rw [hms] at ha ⊢; exact (hK a ha).kb hJ K0) (Or.inr ⟨kl, D, rfl, rfl, by rw [hms]; exact hD.kb hJ K0⟩) (fun σ1 h => by rw [hms]; exact hM σ1 (K0.tr h)) hA
  rw [hms] at b3 b5 b7
  have K1 : jKb pa ph ta th σ σ1 := K0.tr b2
  have hc : 0 < ms.length + 1 ∧ ms.length + 1 ≤ 60 := ⟨by omega, hml⟩
  have R1 : rpB lo kr w ra sa G (rd + 1) (slO ms) (ms.length + 1) B σ1 ps F := ⟨hO.kb hJ K1, hG.kb hJ K1, (by
    obtain ⟨⟨⟨y, g1⟩, z, g2⟩, g3, g4, g5⟩ := hRw
    exact ⟨⟨⟨y, K1.ar g1 (fun e => by cases e) (by omega)⟩, z, K1.ar g2 (fun e => by cases e) (by omega)⟩, g3, g4, g5⟩), fun x hx => ⟨fun a e q => b3 a ((hF x hx).1 a e q), (hF x hx).2⟩⟩
  obtain ⟨σ2, σ3, ca3, len3, f3, fa3, ps3, d1, d2, d3, d4, d5, d6, d7, d8, d9, d10⟩ := j_cx (κ := κ) (T := T) (N := N + 1) (N0 := 4) (ti := ti) (Q := qB (slO ms) G) (Rp := rpB lo kr w ra sa G (rd + 1) (slO ms) (ms.length + 1) B) (by omega) hc hB hBW hti (qOkB hT hJ hc rfl) hA (by omega) b6 b5 (K1.fr hfr) b7 R1
  obtain ⟨hO3, hG3, -⟩ := d10
  have fk1 : ofd σ (some kr) 4 1 = some (.ref w) := by
    obtain ⟨fs, h1, h2, h3, -⟩ := hG
    exact (ofd_at h1).trans h3
  have fk3 : ofd σ3 (some kr) 4 1 = some (.ref w) := by
    obtain ⟨fs, h1, h2, h3, -⟩ := hG3
    exact (ofd_at h1).trans h3
  have fo1 : ofd σ (some w) 4 7 = some (.int (nI F.length)) ∧ F.length ≤ 100000 := by
    obtain ⟨fo, cap, hr, gs, o1, o2, o3, o4, o5⟩ := hO
    exact ⟨(ofd_at o1).trans o3, o4⟩
  generalize hF3 : fQz (fun x => ¬ exL ((tsL Sc).map (fun x => Mn x.1 x.2)) (kFe (fun L => ¬ qB (slO ms) G x L)) (ms.flatMap (fun a => lrnL (slO ms) (slO ms a) (Dk a).1 (Dk a).2.1 (Dk a).2.2) ++ lrnL (slO ms) 0 D.1 D.2.1 D.2.2) []) F = F3
  have hO3 : kOr lo σ3 w ra sa F3 := by rw [← hF3]; exact hO3
  have fo3 : ofd σ3 (some w) 4 7 = some (.int (nI F3.length)) ∧ F3.length ≤ 100000 := by
    obtain ⟨fo, cap, hr, gs, o1, o2, o3, o4, o5⟩ := hO3
    exact ⟨(ofd_at o1).trans o3, o4⟩
  have gm : gMo len len3 σ σ3 := ((gMo.of2 (σ := σ) rfl).trans b4).trans d8
  refine ⟨_, σ3, ca3, len3, _, f3, fa3, ps3, _, _, ?_, d6, K1.kx.tr d7, gm, d9, hO3, rfl⟩
  rw [oE_X1_weaken]
  unfold ob_X1_weaken
  rw [fk1, ovr_rf, obn_at, fo1.1, ovi_i, obn_at, opf_at J.1 (by simp only [List.length_cons, List.length_nil]; omega), obn_at]
  have b1 : oF κ T (N + 1) 57 [va_rf (some j), va_rf s, va_rf (some kl)] (oput σ j (.inr (3, [.ref o, .ref pa, .ref ph, .int (nI P.length), .ref ta, .ref th, .int (nI Tr.length), .int rd, va_rf (some kr), .int ps]))) = _ := b1
  show (obn (oob (oput σ j (.inr (3, [.ref o, .ref pa, .ref ph, .int (nI P.length), .ref ta, .ref th, .int (nI Tr.length), .int rd, va_rf (some kr), .int ps]))) (some j) 3) fun a7 => ocv (oF κ T (N + 1) 57 [va_rf (some j), va_rf s, va_rf (some kl)] (oput σ j (.inr (3, [.ref o, .ref pa, .ref ph, .int (nI P.length), .ref ta, .ref th, .int (nI Tr.length), .int rd, va_rf (some kr), .int ps])))) _) = _
  rw [oob_at J0.1, obn_at, b1, ocv_at, d2, ovr_rf, obn_at, d3, obn_at, d1, ocv_at, d4, obn_at, d5, ocv_at, fk3, ovr_rf, obn_at, fo3.1, ovi_i, obn_at]
  by_cases z : F3.length < F.length
  · rw [if_neg (nI_ge (by omega) (by omega)), if_pos z]
  · rw [if_pos (nI_le (by omega) (by omega)), if_neg z]
end JWK
