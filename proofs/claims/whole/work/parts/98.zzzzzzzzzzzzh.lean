/-! the class's Judge: begin(), weaken() -/
theorem oPn.up {B B' : Int} {W b : Nat} {L : List oLm} {f : Nat → Int64} {fa : Int32} (hB : B ≤ B') (h : oPn B W b L f fa) : oPn B' W b L f fa := by
  obtain ⟨h1, h2, h3⟩ := h
  refine ⟨h1, h2, fun e => ?_⟩
  obtain ⟨q1, q2, q3⟩ := h3 e
  refine ⟨q1, fun i j hi hj => ?_, q3⟩
  have := q2 i j hi hj
  omega
section JBE
variable {lo : Nat × (Nat → Prop)} {κ : oKv} {T j o pa ph ta th : Nat} {rd : Int32} {wk : Option Nat} {ps : Int32} {B : Int} {ti : Nat → Nat} {Mn : Nat → Bool → List oBr} {X : Nat → Prop} {bs : Nat → Int32} {kn : Nat → Nat}
theorem j_reset {n u ca len W0 b0 : Nat} {cl0 fa0 : Int32} {σ : oSt} {f : Nat → Int64} (hT : 30000 ≤ T) (hu : u ≤ 60) (J : jSt σ j o ca pa ph ta th len W0 b0 cl0 fa0 f rd wk ps [] []) (hl : len ≤ 60000000) (hfr : ∀ q, σ.2.1 ≤ q → σ.1 q = none) : ∃ σ' ca' len' f', oF κ T (n + 3) 41 [va_rf (some o), .int (nI u)] σ = some (none, σ') ∧ jSt σ' j o ca' pa ph ta th len' (2 * u) 0 0 0 f' rd wk ps [] [] ∧ jKp pa ph ta th σ σ' ∧ gMo len len' σ σ' ∧ 2 * u * (2 * u) ≤ len' ∧ len' ≤ 60000000 ∧ oPn 0 (2 * u) 0 [] f' 0 := by
  obtain ⟨⟨n1, n2, n3, n4, n5, n6⟩, ⟨m1, m2, m3, m4, m5⟩, ⟨k1, k2, k3, k4⟩, -⟩ := J.ne
  have hO := J.oc
  obtain ⟨h1, ⟨h2, h3⟩, ⟨gp, hp, h4, h5, h6⟩, ⟨gt, ht, h7, h8, h9⟩, h10, h11⟩ := J
  have lt : ∀ {x : Nat} {cc : oC}, σ.1 x = some cc → x < σ.2.1 := fun {x cc} e => by
    by_cases z : x < σ.2.1
    · exact z
    · rw [hfr x (by omega)] at e; cases e
  obtain ⟨σ1, ca', len', f', a1, a2, a3, a4, a5, a6, a7, a8, a9, a10⟩ := c_reset (κ := κ) (T := T) (n := n) (u := u) (W0 := W0) (b0 := b0) (cl0 := cl0) (fa0 := fa0) (f := f) hT (by omega) (Ne.symm m1) (lt h2) (lt h3) hl hfr
  rw [hO] at a1
  have lo := lt h2
  have lc := lt h3
  have mo : σ.2.1 ≤ σ1.2.1 := a7.2.1
  have ot : ∀ {x : Nat}, x < σ.2.1 → x ≠ o → x ≠ ca → (gOc σ1 o ca' len' (2 * u) 0 0 0 f').1 x = σ.1 x := fun {x} e x1 x2 => by
    rw [gOc_oth x1 (by rcases a5 with z | z; rw [z]; exact x2; omega), a2 x e x1 x2]
  have uu : 2 * u * (2 * u) ≤ 14400 := by
    have : 2 * u * (2 * u) ≤ 120 * 120 := Nat.mul_le_mul (by omega) (by omega)
    omega
  refine ⟨_, ca', len', f', a1, ⟨(ot (lt h1) n1 n2).trans h1, ⟨gOc_o, gOc_ca a4⟩, ⟨gp, hp, (ot (lt h4) (Ne.symm m2) (Ne.symm k1)).trans h4, (ot (lt h5) (Ne.symm m3) (Ne.symm k2)).trans h5, h6⟩, ⟨gt, ht, (ot (lt h7) (Ne.symm m4) (Ne.symm k3)).trans h7, (ot (lt h8) (Ne.symm m5) (Ne.symm k4)).trans h8, h9⟩, h10, h11⟩, ⟨fun x cc e k => ?_, fun x e k => ?_, mo⟩, a7, a8, by rcases a9 with z | z <;> omega, a10⟩
  · have x1 : x ≠ o := fun z => by
      subst z
      rw [h2] at e
      injection e with e
      subst e
      exact k.2 rfl
    have x2 : x ≠ ca := fun z => by
      subst z
      rw [h3] at e
      injection e with e
      subst e
      exact k.1 rfl
    exact (ot (lt e) x1 x2).trans e
  · have x1 : x ≠ o := fun z => by subst z; rw [h2] at e; cases e
    have x2 : x ≠ ca := fun z => by subst z; rw [h3] at e; cases e
    rcases k with k | k
    · exact (ot k x1 x2).trans e
    · have k : σ1.2.1 ≤ x := k
      rw [gOc_oth x1 (by omega)]
      exact a3 x k
/-- the Judge's own numbers anew -/
theorem j_rd {ca len W0 b0 : Nat} {cl0 fa0 : Int32} {σ : oSt} {f : Nat → Int64} {P Tr : List (Nat × Bool)} (J : jSt σ j o ca pa ph ta th len W0 b0 cl0 fa0 f rd wk ps P Tr) : ∃ s1 s2 σ', opf σ (some j) 3 7 (.int (rd + 1)) = some s1 ∧ opf s1 (some j) 3 3 (.int 0) = some s2 ∧ opf s2 (some j) 3 6 (.int 0) = some σ' ∧ jSt σ' j o ca pa ph ta th len W0 b0 cl0 fa0 f (rd + 1) wk ps [] [] ∧ jKp pa ph ta th σ σ' ∧ σ'.2 = σ.2 := by
  obtain ⟨⟨n1, n2, n3, n4, n5, n6⟩, -⟩ := J.ne
  obtain ⟨h1, ⟨h2, h3⟩, ⟨gp, hp, h4, h5, h6⟩, ⟨gt, ht, h7, h8, h9⟩, ⟨h10, h10'⟩, h11⟩ := J
  refine ⟨_, _, _, opf_at h1 (by simp only [List.length_cons, List.length_nil]; omega), opf_at (oput_eq _ _ _) (by simp), ?_, ⟨oput_eq _ _ _, ⟨(oput_ne (Ne.symm n1)).trans h2, (oput_ne (Ne.symm n2)).trans h3⟩, ⟨gp, hp, (oput_ne (Ne.symm n3)).trans h4, (oput_ne (Ne.symm n4)).trans h5, fun k x e => by cases e⟩, ⟨gt, ht, (oput_ne (Ne.symm n5)).trans h7, (oput_ne (Ne.symm n6)).trans h8, fun k x e => by cases e⟩, ⟨by simp, by simp⟩, h11⟩, ⟨fun x cc e k => ?_, fun x e k => ?_, Nat.le_refl _⟩, rfl⟩
  · rw [oput_oput, opf_at (oput_eq _ _ _) (by simp), oput_oput]
    rfl
  · have : x ≠ j := fun z => by
      subst z
      rw [h1] at e
      injection e with e
      subst e
      exact k.1 rfl
    exact (oput_ne this).trans e
  · have : x ≠ j := fun z => by
      subst z
      rw [h1] at e
      cases e
    exact (oput_ne this).trans e
theorem msL_kn {σ : oSt} : ∀ (Sc : List sEn) (s : Option Nat), cScp bs kn σ Sc s → ∀ a, a ∈ msL bs Sc → ∃ fs, σ.1 a = some (.inr (6, fs)) ∧ fs.length = 8
  | [], _, _, a, h => by cases h
  | .inl b :: r, s, ⟨q, ou, v2, g1, g2, ⟨fs, g3, g4, g5, g6⟩, g7⟩, a, h => by
    by_cases z : isM (bs b) = true
    · rw [show msL bs (.inl b :: r) = b :: msL bs r from if_pos z] at h
      rcases List.mem_cons.mp h with rfl | h
      · exact ⟨fs, g3, g4⟩
      · exact msL_kn r ou g7 a h
    · rw [show msL bs (.inl b :: r) = msL bs r from if_neg z] at h
      exact msL_kn r ou g7 a h
  | .inr (m, hh) :: r, s, ⟨q, ou, g1, g2, g7⟩, a, h => msL_kn r ou g7 a h
/-- a NAME's slot -/
def slO (ms : List Nat) (a : Nat) : Nat := ms.idxOf a + 1
/-- what is known on the left: nothing, or a type -/
def lfL (sl : Nat → Nat) : Option (Bool × List (Nat × kTe) × List kFc) → List oLm
  | none => []
  | some D => lrnL sl 0 D.1 D.2.1 D.2.2
/-- **begin(scope, left)** -/
theorem c_jbegin {N Hm ca len W0 b0 : Nat} {cl0 fa0 : Int32} {σ : oSt} {f : Nat → Int64} {P Tr : List (Nat × Bool)} {at' : Nat → Nat} {Dk : Nat → Bool × List (Nat × kTe) × List kFc} {Sc : List sEn} {s x2 : Option Nat} {Dl : Option (Bool × List (Nat × kTe) × List kFc)} (hT : 100200 ≤ T) (hJ : pa < lo.1 ∧ ph < lo.1 ∧ ta < lo.1 ∧ th < lo.1) (hB : 2 ≤ B) (hBW : ((2 * ((msL bs Sc).length + 1) : Nat) : Int) * B + B + 2 ≤ 4503599627370496) (hN : Hm + 6 ≤ N) (J : jSt σ j o ca pa ph ta th len W0 b0 cl0 fa0 f rd wk ps P Tr) (hl : len ≤ 60000000) (hfr : ∀ q, σ.2.1 ≤ q → σ.1 q = none) (hS : cScp bs kn σ Sc s) (hSl : Sc.length < 1000) (hnd : (msL bs Sc).Nodup) (hml : (msL bs Sc).length + 1 ≤ 60) (hK : ∀ a, a ∈ msL bs Sc → kInf lo σ B (msL bs Sc) (kn a) (Dk a)) (hD : (x2 = none ∧ Dl = none) ∨ ∃ k D, x2 = some k ∧ Dl = some D ∧ kInf lo σ B (msL bs Sc) k D) (hM : ∀ σ1, jKb pa ph ta th σ σ1 → (∀ a, a ∈ msL bs Sc → nSl σ1 (rd + 1) (slO (msL bs Sc)) ((msL bs Sc).length + 1) a) → ∀ x, x ∈ tsL Sc → jMn X κ σ1 pa ph ta th (rd + 1) (slO (msL bs Sc)) ti ((msL bs Sc).length + 1) B Mn Hm (at' x.1) x.1) (hA : ((tsL Sc).map (fun x => at' x.1)).sum ≤ 20) : ∃ σ' ca' len' f' fa' Tr' L' Z', oF κ T (N + 1) 57 [va_rf (some j), va_rf s, va_rf x2] σ = some (none, σ') ∧ jKb pa ph ta th σ σ' ∧ (∀ a, a ∈ msL bs Sc → nSl σ' (rd + 1) (slO (msL bs Sc)) ((msL bs Sc).length + 1) a) ∧ gMo len len' σ σ' ∧ 2 * ((msL bs Sc).length + 1) * (2 * ((msL bs Sc).length + 1)) ≤ len' ∧ len' ≤ 60000000 ∧ bgI X κ j o ca' pa ph ta th len' (2 * ((msL bs Sc).length + 1)) ((msL bs Sc).length + 1) (rd + 1) wk ps B (slO (msL bs Sc)) ti Mn Hm ((tsL Sc).map (fun x => at' x.1)).sum σ' f' fa' Tr' L' Z' ((tsL Sc).map (fun x => Mn x.1 x.2)) ((msL bs Sc).flatMap (fun a => lrnL (slO (msL bs Sc)) (slO (msL bs Sc) a) (Dk a).1 (Dk a).2.1 (Dk a).2.2) ++ lfL (slO (msL bs Sc)) Dl) := by
  generalize hms : msL bs Sc = ms at *
  obtain ⟨N, rfl⟩ : ∃ N', N = N' + 4 := ⟨N - 4, by omega⟩
  have f7 : ofd σ (some j) 3 7 = some (.int rd) := ofd_at J.1
  obtain ⟨s1, s2, σ1, p1, p2, p3, J1, p5, p6⟩ := j_rd J
  obtain ⟨σ2, b1, b2, b3⟩ := c_bg25 (κ := κ) (T := T) (n := N + 3) (bs := bs) (kn := kn) (rd := rd + 1) (j := j) (x1 := s) (x2 := x2) Sc s T 1 σ1 (cScp.kb p5.k4.b Sc s hS) (by rw [hms]; exact hnd) (by omega) ⟨_, J1.1, rfl⟩
  rw [hms] at b1 b2 b3
  have J2 : jSt σ2 j o ca pa ph ta th len W0 b0 cl0 fa0 f (rd + 1) wk ps [] [] := by
    obtain ⟨h1, ⟨h2, h3⟩, ⟨gp, hp, h4, h5, h6⟩, ⟨gt, ht, h7, h8, h9⟩, h10, h11⟩ := J1
    have no6 : ∀ {x : Nat} {cc : oC}, σ1.1 x = some cc → (∀ fs, cc ≠ .inr (6, fs)) → σ2.1 x = some cc := fun e h => b2.ot e h
    refine ⟨no6 h1 (fun fs w => ?_), ⟨no6 h2 (fun fs w => ?_), no6 h3 (fun fs w => by cases w)⟩, ⟨gp, hp, no6 h4 (fun fs w => by cases w), no6 h5 (fun fs w => by cases w), h6⟩, ⟨gt, ht, no6 h7 (fun fs w => by cases w), no6 h8 (fun fs w => by cases w), h9⟩, h10, h11⟩
    · injection w with w
      injection w with w
      exact absurd w (by decide)
    · injection w with w
      injection w with w
      exact absurd w (by decide)
  have K2 : jKb pa ph ta th σ σ2 := p5.k4.b.tr b2.b
  obtain ⟨σ3, ca', len', f3, r1, J3, r3, r4, r5, r6, r7⟩ := j_reset (κ := κ) (T := T) (n := N + 1) (u := ms.length + 1) (by omega) hml J2 hl (K2.fr hfr)
  have K3 : jKb pa ph ta th σ σ3 := K2.tr r3.k4.b
  have n3 : ∀ a, a ∈ ms → nSl σ3 (rd + 1) (slO ms) (ms.length + 1) a := fun a ha => by
    have hi : ms.idxOf a < ms.length := List.idxOf_lt_length_iff.mpr ha
    obtain ⟨fs, c1, c2, c3⟩ := b3 (ms.idxOf a) a (by rw [List.getElem?_eq_getElem hi, List.getElem_idxOf hi])
    refine ⟨fs, r3.1 _ _ c1 ⟨by show (6 : Nat) ≠ 3; decide, by show (6 : Nat) ≠ 8; decide⟩, ?_, c3, ?_⟩
    · rw [c2]
      show _ = some (Value.int (nI (ms.idxOf a + 1)))
      rw [Nat.add_comm]
    · show ms.idxOf a + 1 < ms.length + 1
      omega
  have g2 : gMo len len' σ σ3 := by
    have : gMo len len σ σ2 := gMo.of2 (b2.2.1.trans p6)
    exact this.trans r4
  -- what is on the left
  have left : ∃ σ4 f4 fa4 L4, (if x2 = none then oj_X1_begin_101 T (oF κ T (N + 4)) κ (some j) s σ3 else obn (oob σ3 (some j) 3) fun a10 => ocv (oF κ T (N + 4) 50 [va_rf (some j), va_rf x2, .int 0] σ3) fun s12 => oj_X1_begin_101 T (oF κ T (N + 4)) κ (some j) s s12) = oj_X1_begin_101 T (oF κ T (N + 4)) κ (some j) s σ4 ∧ jK4 pa ph ta th σ3 σ4 ∧ σ4.2 = σ3.2 ∧ bgI X κ j o ca' pa ph ta th len' (2 * (ms.length + 1)) (ms.length + 1) (rd + 1) wk ps B (slO ms) ti Mn Hm 0 σ4 f4 fa4 [] L4 [] [] (lfL (slO ms) Dl) := by
    have I3 : bgI X κ j o ca' pa ph ta th len' (2 * (ms.length + 1)) (ms.length + 1) (rd + 1) wk ps B (slO ms) ti Mn Hm 0 σ3 f3 0 [] [] [] [] [] := ⟨J3, Or.inl ⟨rfl, r7.up (by omega)⟩, fun l h => (by cases h), fun z h => (by cases h), Nat.le_refl _, fun _ x b b' h => (by cases h), fun K hK' => Iff.rfl⟩
    rcases hD with ⟨rfl, rfl⟩ | ⟨k, D, rfl, rfl, hD⟩
    · exact ⟨σ3, f3, 0, [], if_pos rfl, jK4.rf σ3, rfl, I3⟩
    · obtain ⟨w, ra, sa, kf, kd, k1, k2, k3, k4, k5, k6⟩ := hD.kb hJ K3
      obtain ⟨σ4, f4, fa4, L4, b1, b2, b3, b4, b5, b6, b7, b8⟩ := c_learn (κ := κ) (T := T) (n := N) (s := 0) (sl := slO ms) (b := 0) (c := ms.length + 1) (B := B) (L := []) hT hJ ⟨by omega, hml⟩ rfl (by omega) (by omega) hB hBW (fun l h => by cases h) J3 (Or.inl ⟨rfl, r7.up (by omega)⟩) k1 k2 k4 k5 (fun x hx => ⟨fun a' e' w' => n3 a' ((k6 x hx).1 a' e' w'), (k6 x hx).2⟩) (by omega)
      rw [← k3, List.append_nil] at b6
      refine ⟨σ4, f4, fa4, L4, ?_, b3, b4, b2, b5, b7, fun z h => (by cases h), Nat.le_refl _, fun _ x b b' h => (by cases h), fun K hK' => hK'.1.iff b6 (fun x => Iff.rfl)⟩
      have b1 : oF κ T (N + 4) 50 [va_rf (some j), va_rf (some k), .int 0] σ3 = _ := b1
      rw [if_neg (by simp), oob_at J3.1, obn_at, b1, ocv_at]
  obtain ⟨σ4, f4, fa4, L4, l1, l2, l3, l4⟩ := left
  have K4 : jKb pa ph ta th σ σ4 := K3.tr l2.b
  have n4 : ∀ a, a ∈ ms → nSl σ4 (rd + 1) (slO ms) (ms.length + 1) a := fun a ha => (n3 a ha).k4 l2
  obtain ⟨σ5, f5, fa5, Tr5, L5, Z5, m1, m2, m3, m4⟩ := c_bg104 (κ := κ) (T := T) (N := N + 4) (Hm := Hm) (at' := at') (ms := ms) (Dk := Dk) (bs := bs) (kn := kn) (ti := ti) (Mn := Mn) (X := X) (sl := slO ms) (len := len') (c := ms.length + 1) (B := B) hT hJ ⟨by omega, hml⟩ rfl (by omega) r5 hB hBW hN Sc s T 0 σ4 f4 fa4 [] L4 [] [] (lfL (slO ms) Dl) (cScp.kb K4 Sc s hS) (by omega) (fun a ha => by rw [hms] at ha; exact ⟨(hK a ha).kb hJ K4, ha⟩) n4 (hM σ4 K4 n4) (by rw [Nat.zero_add]; exact hA) l4
  rw [hms, Nat.zero_add, List.nil_append] at m4
  have g5 : gMo len len' σ σ5 := g2.trans (gMo.of2 (m3.trans l3))
  refine ⟨σ5, ca', len', f5, fa5, Tr5, L5, Z5, ?_, K4.tr m2.b, fun a ha => (n4 a ha).k4 m2, g5, r5, r6, m4⟩
  rw [oE_X1_begin]
  unfold ob_X1_begin
  rw [f7, ovi_i, obn_at, p1, obn_at, p2, obn_at, p3, obn_at]
  have b1 : ol_X1_begin_25 T (oF κ T (N + 4)) κ T (some j) s x2 1 s σ1 = _ := b1
  rw [b1]
  unfold bgE
  rw [show ofd σ2 (some j) 3 0 = some (.ref o) from ofd_at J2.1, ovr_rf, obn_at, oob_at J2.2.1.1, obn_at, Nat.add_comm 1 ms.length, r1, ocv_at, l1]
  exact m1
end JBE
