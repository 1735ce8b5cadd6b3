/-! the class's Judge: begin(), weaken() -/
theorem oPn.up {B B' : Int} {W b : Nat} {L : List oLm} {f : Nat → Int64} {fa : Int32} (hB : B ≤ B') (h : oPn B W b L f fa) : oPn B' W b L f fa := by
  obtain ⟨h1, h2, h3⟩ := h
  refine ⟨h1, h2, fun e => ?_⟩
  obtain ⟨q1, q2, q3⟩ := h3 e
  refine ⟨q1, fun i j hi hj => ?_, q3⟩
  have := q2 i j hi hj
  omega
section JBE
variable {lo : Nat × (Nat → Prop)} {κ : oKv} {T j o pa ph ta th : Nat} {rd : Int32} {wk : Option Nat} {ps : Int32} {B : Int} {ti : Nat → Nat} {Mn : Nat → Bool → List oBr} {X : Nat → Prop} {bs : Nat → Int32} {kn : Nat → Nat}
theorem j_reset {n u ca len W0 b0 : Nat} {cl0 fa0 : Int32} {σ : oSt} {f : Nat → Int64} (hT : 30000 ≤ T) (hu : u ≤ 60) (J : jSt σ j o ca pa ph ta th len W0 b0 cl0 fa0 f rd wk ps [] []) (hl : len ≤ 201600) (hfr : ∀ q, σ.2.1 ≤ q → σ.1 q = none) : ∃ σ' ca' len' f', oF κ T (n + 3) 41 [va_rf (some o), .int (nI u)] σ = some (none, σ') ∧ jSt σ' j o ca' pa ph ta th len' (2 * u) 0 0 0 f' rd wk ps [] [] ∧ jKp pa ph ta th σ σ' ∧ gMo len len' σ σ' ∧ 2 * u * (2 * u) ≤ len' ∧ len' ≤ 201600 ∧ oPn 0 (2 * u) 0 [] f' 0 := by
  obtain ⟨⟨n1, n2, n3, n4, n5, n6⟩, ⟨m1, m2, m3, m4, m5⟩, ⟨k1, k2, k3, k4⟩, -⟩ := J.ne
  have hO := J.oc
  obtain ⟨h1, ⟨h2, h3⟩, ⟨gp, hp, h4, h5, h6⟩, ⟨gt, ht, h7, h8, h9⟩, h10, h11⟩ := J
  have lt : ∀ {x : Nat} {cc : oC}, σ.1 x = some cc → x < σ.2.1 := fun {x cc} e => by
    by_cases z : x < σ.2.1
    · exact z
    · rw [hfr x (by omega)] at e; cases e
  obtain ⟨σ1, ca', len', f', a1, a2, a3, a4, a5, a6, a7, a8, a9, a10⟩ := c_reset (κ := κ) (T := T) (n := n) (u := u) (W0 := W0) (b0 := b0) (cl0 := cl0) (fa0 := fa0) (f := f) hT (by omega) (Ne.symm m1) (lt h2) (lt h3) (Nat.le_trans hl (by decide)) hfr
  rw [hO] at a1
  have lo := lt h2
  have lc := lt h3
  have mo : σ.2.1 ≤ σ1.2.1 := a7.2.1
  have ot : ∀ {x : Nat}, x < σ.2.1 → x ≠ o → x ≠ ca → (gOc σ1 o ca' len' (2 * u) 0 0 0 f').1 x = σ.1 x := fun {x} e x1 x2 => by
    rw [gOc_oth x1 (by rcases a5 with z | z; rw [z]; exact x2; omega), a2 x e x1 x2]
  have uu : 2 * u * (2 * u) ≤ 14400 := by
    have : 2 * u * (2 * u) ≤ 120 * 120 := Nat.mul_le_mul (by omega) (by omega)
    omega
  refine ⟨_, ca', len', f', a1, ⟨(ot (lt h1) n1 n2).trans h1, ⟨gOc_o, gOc_ca a4⟩, ⟨gp, hp, (ot (lt h4) (Ne.symm m2) (Ne.symm k1)).trans h4, (ot (lt h5) (Ne.symm m3) (Ne.symm k2)).trans h5, h6⟩, ⟨gt, ht, (ot (lt h7) (Ne.symm m4) (Ne.symm k3)).trans h7, (ot (lt h8) (Ne.symm m5) (Ne.symm k4)).trans h8, h9⟩, h10, h11⟩, ⟨fun x cc e k => ?_, fun x e k => ?_, mo⟩, a7, a8, by rcases a9 with z | z <;> omega, a10⟩
  · have x1 : x ≠ o := fun z => by
      subst z
      rw [h2] at e
      injection e with e
      subst e
      exact k.2 rfl
    have x2 : x ≠ ca := fun z => by
      subst z
      rw [h3] at e
      injection e with e
      subst e
      exact k.1 rfl
    exact (ot (lt e) x1 x2).trans e
  · have x1 : x ≠ o := fun z => by subst z; rw [h2] at e; cases e
    have x2 : x ≠ ca := fun z => by subst z; rw [h3] at e; cases e
    rcases k with k | k
    · exact (ot k x1 x2).trans e
    · have k : σ1.2.1 ≤ x := k
      rw [gOc_oth x1 (by omega)]
      exact a3 x k
/-- the Judge's own numbers anew -/
theorem j_rd {ca len W0 b0 : Nat} {cl0 fa0 : Int32} {σ : oSt} {f : Nat → Int64} {P Tr : List (Nat × Bool)} (J : jSt σ j o ca pa ph ta th len W0 b0 cl0 fa0 f rd wk ps P Tr) : ∃ s1 s2 σ', opf σ (some j) 3 7 (.int (rd + 1)) = some s1 ∧ opf s1 (some j) 3 3 (.int 0) = some s2 ∧ opf s2 (some j) 3 6 (.int 0) = some σ' ∧ jSt σ' j o ca pa ph ta th len W0 b0 cl0 fa0 f (rd + 1) wk ps [] [] ∧ jKp pa ph ta th σ σ' ∧ σ'.2 = σ.2 := by
  obtain ⟨⟨n1, n2, n3, n4, n5, n6⟩, -⟩ := J.ne
  obtain ⟨h1, ⟨h2, h3⟩, ⟨gp, hp, h4, h5, h6⟩, ⟨gt, ht, h7, h8, h9⟩, ⟨h10, h10'⟩, h11⟩ := J
  refine ⟨_, _, _, opf_at h1 (by simp only [List.length_cons, List.length_nil]; omega), opf_at (oput_eq _ _ _) (by simp), ?_, ⟨oput_eq _ _ _, ⟨(oput_ne (Ne.symm n1)).trans h2, (oput_ne (Ne.symm n2)).trans h3⟩, ⟨gp, hp, (oput_ne (Ne.symm n3)).trans h4, (oput_ne (Ne.symm n4)).trans h5, fun k x e => by cases e⟩, ⟨gt, ht, (oput_ne (Ne.symm n5)).trans h7, (oput_ne (Ne.symm n6)).trans h8, fun k x e => by cases e⟩, ⟨by simp, by simp⟩, h11⟩, ⟨fun x cc e k => ?_, fun x e k => ?_, Nat.le_refl _⟩, rfl⟩
  · rw [oput_oput, opf_at (oput_eq _ _ _) (by simp), oput_oput]
    rfl
  · have : x ≠ j := fun z => by
      subst z
      rw [h1] at e
      injection e with e
      subst e
      exact k.1 rfl
    exact (oput_ne this).trans e
  · have : x ≠ j := fun z => by
      subst z
      rw [h1] at e
      cases e
    exact (oput_ne this).trans e
theorem msL_kn {σ : oSt} : ∀ (Sc : List sEn) (s : Option Nat), cScp bs kn σ Sc s → ∀ a, a ∈ msL bs Sc → ∃ fs, σ.1 a = some (.inr (6, fs)) ∧ fs.length = 8
  | [], _, _, a, h => by cases h
  | .inl b :: r, s, ⟨q, ou, v2, g1, g2, ⟨fs, g3, g4, g5, g6⟩, g7⟩, a, h => by
    by_cases z : isM (bs b) = true
    · rw [show msL bs (.inl b :: r) = b :: msL bs r from if_pos z] at h
      rcases List.mem_cons.mp h with rfl | h
      · exact ⟨fs, g3, g4⟩
      · exact msL_kn r ou g7 a h
    · rw [show msL bs (.inl b :: r) = msL bs r from if_neg z] at h
      exact msL_kn r ou g7 a h
  | .inr (m, hh) :: r, s, ⟨q, ou, g1, g2, g7⟩, a, h => msL_kn r ou g7 a h
/-- a NAME's slot -/
def slO (ms : List Nat) (a : Nat) : Nat := ms.idxOf a + 1
/-- what is known on the left: nothing, or a type -/
def lfL (sl : Nat → Nat) : Option (Bool × List (Nat × kTe) × List kFc) → List oLm
  | none => []
  | some D => lrnL sl 0 D.1 D.2.1 D.2.2
end JBE
