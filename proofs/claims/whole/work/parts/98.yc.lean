/-! the reference: a comparison; single and condition as they are called -/
section RSK
variable {κ : oKv} {ks : Nat → Nat} {qs : List Nat} {T m h0 len cnt sz d N S P A C z : Nat} {τ : zSt} {s : Sum Nat Nat} {kk pp ee f : Nat → Int32}
theorem aRl_6 (kk : Nat → Int32) (i : Nat) : aRl kk i ≤ 6 := by
  unfold aRl
  repeat' split
  all_goals omega
theorem sg_1 {b : Bool} : sg b = 1 ↔ b = false := by cases b <;> decide
theorem nI_eq1 {l : Nat} (h : l < 2 ^ 31) : nI l = 1 ↔ l = 1 := ⟨fun e => nI_inj' h (by decide) (e.trans (show (1 : Int32) = nI 1 from rfl)), fun e => by rw [e]; rfl⟩
set_option maxHeartbeats 1000000 in
/-- a comparison or a NAME alone: single's last road -/
theorem q_comp (hf : lFacts κ ks sz) (hT : 2010 ≤ T) {i : Nat} (hm : 5 ≤ m) (h : rR T len cnt kk pp ee f d τ N S P A C (.inr i)) (hE : rEn N S P (.inr i)) : ∃ v τ', (zci (zF h0 qs ks T m 21 [.ref h0] τ) fun r21 s19 =>
            zci (zF h0 qs ks T m 18 [.ref h0] s19) fun r24 s22 =>
            if 0 ≤ r24 then
              zci (zF h0 qs ks T m 10 [.ref h0, .int 25, .int (pp i)] s22) fun r28 s26 =>
              zgd (zin (s26.1 10) 2010) (
              zgd (zin r28 2100) (zlet (zA s26 8 (upd (s26.2.2.1 8) (r28).toNatClampNeg (s26.2.2.1 4 ((s26.1 10)).toNatClampNeg))) fun s31 =>
              zlet (zI s31 10 ((s31.1 10) + 1)) fun s33 =>
              zgd (zin r28 2100) (zlet (zA s33 9 (upd (s33.2.2.1 9) (r28).toNatClampNeg r21)) fun s36 =>
              zgd (zin r28 2100) (zlet (zA s36 11 (upd (s36.2.2.1 11) (r28).toNatClampNeg r24)) fun s39 =>
              zci (zF h0 qs ks T m 21 [.ref h0] s39) fun r43 s41 =>
              zgd (zin r28 2100) (zlet (zA s41 10 (upd (s41.2.2.1 10) (r28).toNatClampNeg r43)) fun s45 =>
              some (some (.int r28), s45))))))
            else
              if (s22.1 11) = 0 then
                zgd (zin r21 2100) (
                zgd (zin r21 2100) (
                if ((s22.2.2.1 14 (r21).toNatClampNeg) - (s22.2.2.1 13 (r21).toNatClampNeg)) = 1 then
                  zgd (zin r21 2100) (
                  zgd (zin (s22.2.2.1 13 (r21).toNatClampNeg) 2100) (
                  if (s22.2.2.1 16 ((s22.2.2.1 13 (r21).toNatClampNeg)).toNatClampNeg) = 1 then
                    zgd (zin r21 2100) (
                    zgd (zin (s22.2.2.1 13 (r21).toNatClampNeg) 2100) (
                    if (s22.2.2.1 17 ((s22.2.2.1 13 (r21).toNatClampNeg)).toNatClampNeg) = 1 then
                      zgd (zin r21 2100) (
                      zgd (zin (s22.2.2.1 13 (r21).toNatClampNeg) 2100) (
                      zgd (zin (s22.2.2.1 18 ((s22.2.2.1 13 (r21).toNatClampNeg)).toNatClampNeg) 2010) (
                      if (s22.2.2.1 4 ((s22.2.2.1 18 ((s22.2.2.1 13 (r21).toNatClampNeg)).toNatClampNeg)).toNatClampNeg) = (pp i) then
                        zci (zF h0 qs ks T m 10 [.ref h0, .int 24, .int (pp i)] s22) fun r63 s61 =>
                        zgd (zin r21 2100) (
                        zgd (zin (s61.2.2.1 13 (r21).toNatClampNeg) 2100) (
                        zgd (zin r63 2100) (zlet (zA s61 9 (upd (s61.2.2.1 9) (r63).toNatClampNeg (s61.2.2.1 18 ((s61.2.2.1 13 (r21).toNatClampNeg)).toNatClampNeg))) fun s67 =>
                        some (some (.int r63), s67))))
                      else
                        j_single_330 T (zF h0 qs ks T m) h0 qs ks s22)))
                    else
                      j_single_330 T (zF h0 qs ks T m) h0 qs ks s22))
                  else
                    j_single_330 T (zF h0 qs ks T m) h0 qs ks s22))
                else
                  j_single_330 T (zF h0 qs ks T m) h0 qs ks s22))
              else
                j_single_330 T (zF h0 qs ks T m) h0 qs ks s22) = some (some (.int v), τ') ∧ rPc T len cnt kk pp ee f d A C τ N S P (.inr i) (aCm kk T) (1 + z) v τ' := by
  have hcn := h.1.cn
  have hi := h.2.2.2.2
  obtain ⟨n1, n2, n3⟩ := hE i rfl
  obtain ⟨τ1, P1, f1, f2, f3, f4, f5, f6⟩ := q_sum (h0 := h0) (qs := qs) (ks := ks) (m := m) hf hT h (show S < 2100 by omega) n3 (by omega)
  rw [f1]
  simp only [zci]
  rw [q_rel (h0 := h0) (qs := qs) (ks := ks) (m := m) hf hT f2 (by omega)]
  simp only []
  rw [aTo_ok] at f2 f5 ⊢
  -- a fault here
  have F : ∀ (τ1 : zSt) (s : Sum Nat Nat) (P1 : Nat), rR T len cnt kk pp ee f d τ1 N (S + 1) P1 A C s → rAg N S P A C τ τ1 → P ≤ P1 → P1 + i ≤ P + aPo cnt s → (aCm kk T i = .inl (aWr s)) → aPo cnt s ≤ cnt → ∃ v τ', j_single_330 T (zF h0 qs ks T m) h0 qs ks τ1 = some (some (.int v), τ') ∧ rPc T len cnt kk pp ee f d A C τ N S P (.inr i) (aCm kk T) (1 + z) v τ' := fun τ1 s P1 a1 a2 a3 a4 a5 a6 => by
    obtain ⟨τ2, g1, g2, g3⟩ := q_form (h0 := h0) (qs := qs) (ks := ks) (m := m) a1 (by omega)
    unfold j_single_330
    rw [g1]
    have eT : aTo (.inr i) (aCm kk T) = .inl (aWr s) := by rw [aTo_ok, a5]; rfl
    refine ⟨0, τ2, rfl, N, S + 1, P1, 0, ?_⟩
    rw [eT]
    refine ⟨g2, a2.tr g3 (Nat.le_refl _) (Nat.le_succ _) a3 (Nat.le_refl _) (Nat.le_refl _), ⟨(Nat.le_refl _), by omega, a3⟩, ⟨?_, ?_, ?_⟩, fun j e => (by cases e), ⟨rfl, by decide⟩, fun i' t j e e' => ?_⟩
    · show N + i ≤ N + cnt + (1 + z); omega
    · show S + 1 + i ≤ S + cnt + 2; omega
    · show P1 + i ≤ P + cnt; omega
    · cases e
      rw [a5] at e'
      cases e'
  cases es : aSm kk T i with
  | inl j =>
    rw [es] at f2 f5
    have eC : aCm kk T i = .inl j := by unfold aCm; rw [es]; rfl
    show ∃ v τ', (if (0 : Int32) ≤ -1 then _ else _) = _ ∧ _
    rw [if_neg (by decide), if_neg (show ¬ τ1.1 11 = 0 by rw [f2.2.2.1]; decide)]
    exact F τ1 (.inl j) P1 f2 f3 f4 f5 eC (Nat.le_refl _)
  | inr r =>
    obtain ⟨t, j⟩ := r
    rw [es] at f2 f5
    have hst : aR.st (Sum.inr (t, j) : aR tS) = Sum.inr j := rfl
    rw [hst] at f2 f5 ⊢
    obtain ⟨l1, l2, l3⟩ := f6 i t j rfl es
    have hj : j ≤ cnt := f2.2.2.2.2
    have f5' : P1 + i ≤ P + j := f5
    have hr6 := aRl_6 kk j
    by_cases c : aRl kk j < 6
    · have hlt := aRl_lt f2.1 hj c
      have hv : aRv kk (.inr j) = nI (aRl kk j) := if_pos c
      rw [hv, if_pos (show (0 : Int32) ≤ nI (aRl kk j) from show nI 0 ≤ nI (aRl kk j) from nI_le (Nat.zero_le _) (by omega))]
      obtain ⟨τ2, g1, g2, g3, g4, g5, g6⟩ := q_node (h0 := h0) (qs := qs) (ks := ks) (m := m) f2 (show N < 2100 by omega) (by omega) 25 (pp i)
      have w10 : τ2.1 10 = nI j := g2.2.2.2.1
      have w4 : τ2.2.2.1 4 j = pp j := g2.1.pl hj
      rw [g1]
      simp only [zgd, zlet, w10, w4, zA1, zin_n (show N < 2100 by omega) (show 2100 < 2 ^ 31 by decide), zin_n (show j < 2010 by omega) (show 2010 < 2 ^ 31 by decide), if_true, nI_clamp (show N < 2 ^ 31 by omega), nI_clamp (show j < 2 ^ 31 by omega), nI_1]
      -- sign, x1, x3 of the new node
      obtain ⟨k1, k2⟩ := (g2.a (upd (τ2.2.2.1 8) N (pp j)) (show 6 ≤ 8 by omega)).nx hlt
      have k3 := (k1.a (upd ((zI (zA τ2 8 (upd (τ2.2.2.1 8) N (pp j))) 10 (nI (j + 1))).2.2.1 9) N (nI S)) (show 6 ≤ 9 by omega)).a (upd ((zA (zI (zA τ2 8 (upd (τ2.2.2.1 8) N (pp j))) 10 (nI (j + 1))) 9 (upd ((zI (zA τ2 8 (upd (τ2.2.2.1 8) N (pp j))) 10 (nI (j + 1))).2.2.1 9) N (nI S))).2.2.1 11) N (nI (aRl kk j))) (show 6 ≤ 11 by omega)
      have k4 := (((((rAg.rf τ2).a (N := N) (S := S + 1) (P := P1) (A := A) (C := C) (k := 8) (x := N) (v := pp j) (rFz.n6 (by omega) (by omega) (Nat.le_refl N))).i (k := 10) (v := nI (j + 1)) (by omega)).a (k := 9) (x := N) (v := nI S) (rFz.n6 (by omega) (by omega) (Nat.le_refl N))).a (k := 11) (x := N) (v := nI (aRl kk j)) (rFz.n6 (by omega) (by omega) (Nat.le_refl N)))
      have v0 : (zA (zA (zI (zA τ2 8 (upd (τ2.2.2.1 8) N (pp j))) 10 (nI (j + 1))) 9 (upd ((zI (zA τ2 8 (upd (τ2.2.2.1 8) N (pp j))) 10 (nI (j + 1))).2.2.1 9) N (nI S))) 11 (upd ((zA (zI (zA τ2 8 (upd (τ2.2.2.1 8) N (pp j))) 10 (nI (j + 1))) 9 (upd ((zI (zA τ2 8 (upd (τ2.2.2.1 8) N (pp j))) 10 (nI (j + 1))).2.2.1 9) N (nI S))).2.2.1 11) N (nI (aRl kk j)))).2.2.1 6 N = 25 := by
        rw [zAn _ _ (by decide), zAn _ _ (by decide), zI2, zAn _ _ (by decide)]; exact g4
      have v1 : (zA (zA (zI (zA τ2 8 (upd (τ2.2.2.1 8) N (pp j))) 10 (nI (j + 1))) 9 (upd ((zI (zA τ2 8 (upd (τ2.2.2.1 8) N (pp j))) 10 (nI (j + 1))).2.2.1 9) N (nI S))) 11 (upd ((zA (zI (zA τ2 8 (upd (τ2.2.2.1 8) N (pp j))) 10 (nI (j + 1))) 9 (upd ((zI (zA τ2 8 (upd (τ2.2.2.1 8) N (pp j))) 10 (nI (j + 1))).2.2.1 9) N (nI S))).2.2.1 11) N (nI (aRl kk j)))).2.2.1 7 N = pp i := by
        rw [zAn _ _ (by decide), zAn _ _ (by decide), zI2, zAn _ _ (by decide)]; exact g5
      have v2 : (zA (zA (zI (zA τ2 8 (upd (τ2.2.2.1 8) N (pp j))) 10 (nI (j + 1))) 9 (upd ((zI (zA τ2 8 (upd (τ2.2.2.1 8) N (pp j))) 10 (nI (j + 1))).2.2.1 9) N (nI S))) 11 (upd ((zA (zI (zA τ2 8 (upd (τ2.2.2.1 8) N (pp j))) 10 (nI (j + 1))) 9 (upd ((zI (zA τ2 8 (upd (τ2.2.2.1 8) N (pp j))) 10 (nI (j + 1))).2.2.1 9) N (nI S))).2.2.1 11) N (nI (aRl kk j)))).2.2.1 8 N = pp j := by
        rw [zAn _ _ (by decide), zAn _ _ (by decide), zI2, zAe, upd_at]
      have v3 : (zA (zA (zI (zA τ2 8 (upd (τ2.2.2.1 8) N (pp j))) 10 (nI (j + 1))) 9 (upd ((zI (zA τ2 8 (upd (τ2.2.2.1 8) N (pp j))) 10 (nI (j + 1))).2.2.1 9) N (nI S))) 11 (upd ((zA (zI (zA τ2 8 (upd (τ2.2.2.1 8) N (pp j))) 10 (nI (j + 1))) 9 (upd ((zI (zA τ2 8 (upd (τ2.2.2.1 8) N (pp j))) 10 (nI (j + 1))).2.2.1 9) N (nI S))).2.2.1 11) N (nI (aRl kk j)))).2.2.1 9 N = nI S := by
        rw [zAn _ _ (by decide), zAe, upd_at]
      have v5 : (zA (zA (zI (zA τ2 8 (upd (τ2.2.2.1 8) N (pp j))) 10 (nI (j + 1))) 9 (upd ((zI (zA τ2 8 (upd (τ2.2.2.1 8) N (pp j))) 10 (nI (j + 1))).2.2.1 9) N (nI S))) 11 (upd ((zA (zI (zA τ2 8 (upd (τ2.2.2.1 8) N (pp j))) 10 (nI (j + 1))) 9 (upd ((zI (zA τ2 8 (upd (τ2.2.2.1 8) N (pp j))) 10 (nI (j + 1))).2.2.1 9) N (nI S))).2.2.1 11) N (nI (aRl kk j)))).2.2.1 11 N = nI (aRl kk j) := by
        rw [zAe, upd_at]
      generalize zA (zA (zI (zA τ2 8 (upd (τ2.2.2.1 8) N (pp j))) 10 (nI (j + 1))) 9 (upd ((zI (zA τ2 8 (upd (τ2.2.2.1 8) N (pp j))) 10 (nI (j + 1))).2.2.1 9) N (nI S))) 11 (upd ((zA (zI (zA τ2 8 (upd (τ2.2.2.1 8) N (pp j))) 10 (nI (j + 1))) 9 (upd ((zI (zA τ2 8 (upd (τ2.2.2.1 8) N (pp j))) 10 (nI (j + 1))).2.2.1 9) N (nI S))).2.2.1 11) N (nI (aRl kk j))) = τ3 at k3 k4 v0 v1 v2 v3 v5 ⊢
      obtain ⟨τ4, P2, p1, p2, p3, p4, p5, p6⟩ := q_sum (h0 := h0) (qs := qs) (ks := ks) (m := m) hf hT k3 (show S + 1 < 2100 by omega) (show P1 ≤ j + 1 by omega) (by omega)
      rw [p1]
      simp only []
      have eC : aCm kk T i = (aSm kk T (j + 1)).on fun s' j' => .inr (tN 25 i j (aRl kk j) t s' tZ tZ, j') := by
        unfold aCm
        rw [es]
        show (if aRl kk j < 6 then _ else _) = _
        rw [if_pos c]
      have eT : aTo (.inr i) (aCm kk T) = aTo (.inr (j + 1)) (aSm kk T) := by
        rw [aTo_ok, aTo_ok, eC]
        cases aSm kk T (j + 1) <;> rfl
      have hpo := p2.po
      refine ⟨_, _, rfl, N + 1, S + 2, P2, N, ?_⟩
      rw [eT]
      have p5' : P2 + (j + 1) ≤ P1 + aPo cnt (aTo (.inr (j + 1)) (aSm kk T)) := p5
      have hpp : j + 1 ≤ aPo cnt (aTo (.inr (j + 1)) (aSm kk T)) := by
        cases eq : aSm kk T (j + 1) with
        | inl q => rw [aTo_ok, eq]; show j + 1 ≤ cnt; omega
        | inr q =>
          obtain ⟨t2, j2⟩ := q
          rw [aTo_ok, eq]
          have := (aSm_w eq).2.1
          show j + 1 ≤ j2; omega
      have p3' : rAg (N + 1) (S + 1) P1 A C τ3 (zA τ4 10 (upd (τ4.2.2.1 10) N (nI (S + 1)))) → True := fun _ => trivial
      refine ⟨p2.a _ (by omega), ?_, ⟨by omega, by omega, by omega⟩, ⟨?_, ?_, ?_⟩, fun j e => (by cases e), ⟨rfl, by omega⟩, fun i' t' j' e e' => ?_⟩
      · exact (((f3.tr g3 (Nat.le_refl _) (Nat.le_succ _) f4 (Nat.le_refl _) (Nat.le_refl _)).tr k4 (Nat.le_refl _) (Nat.le_succ _) f4 (Nat.le_refl _) (Nat.le_refl _)).tr p3 (Nat.le_succ _) (Nat.le_succ _) f4 (Nat.le_refl _) (Nat.le_refl _)).a (rFz.n6 (by omega) (by omega) (Nat.le_refl N))
      · show N + 1 + i ≤ _; omega
      · show S + 2 + i ≤ _
        cases eq : aSm kk T (j + 1) with
        | inl q =>
          rw [aTo_ok, eq]
          show S + 2 + i ≤ S + cnt + 2; omega
        | inr q =>
          obtain ⟨t2, j2⟩ := q
          rw [aTo_ok, eq]
          have := (aSm_w eq).2.1
          show S + 2 + i ≤ S + j2 + 0; omega
      · show P2 + i ≤ _; omega
      · cases e
        rw [eC] at e'
        cases eq : aSm kk T (j + 1) with
        | inl q => rw [eq] at e'; cases e'
        | inr q =>
          obtain ⟨t2, j2⟩ := q
          rw [eq] at e'
          cases e'
          obtain ⟨r1, r2, r3⟩ := p6 (j + 1) t2 _ rfl eq
          have w : nV τ4 N = nV τ3 N := (p3.at 0).1 N (by omega) (by omega)
          have w' : ∀ q, q % 7 ≠ 4 → nV (zA τ4 10 (upd (τ4.2.2.1 10) N (nI (S + 1)))) N q = nV τ3 N q := fun q hq => by
            rw [← w]
            show (zA τ4 10 (upd (τ4.2.2.1 10) N (nI (S + 1)))).2.2.1 (6 + q % 7) N = τ4.2.2.1 (6 + q % 7) N
            rw [zAn _ _ (by omega)]
          have W : rAt 0 N (S + 1 + 1) P2 A τ4 (zA τ4 10 (upd (τ4.2.2.1 10) N (nI (S + 1)))) := rAt_zA τ4 _ (by omega) (by omega) (Or.inr (Nat.le_refl _))
          refine ⟨by omega, ⟨(Nat.le_refl _), by omega⟩, ⟨⟨(Nat.le_refl _), by omega⟩, ?_, ?_⟩, ⟨?_, ?_⟩, S, S + 1, ⟨?_, ?_⟩, ?_, ?_⟩
          · rw [w' 0 (by decide)]; exact v0
          · rw [w' 1 (by decide)]; exact v1
          · rw [w' 2 (by decide)]; exact v2
          · rw [w' 5 (by decide)]; exact v5
          · rw [w' 3 (by decide)]; exact v3
          · show (zA τ4 10 (upd (τ4.2.2.1 10) N (nI (S + 1)))).2.2.1 10 N = nI (S + 1)
            rw [zAe, upd_at]
          · have a1 : rSm pp τ3 (S + 1) P1 S t := (l3.ag g3 (Nat.le_refl _) (Nat.le_refl _)).ag k4 (Nat.le_refl _) (Nat.le_refl _)
            have a2 : rSm pp τ4 (S + 1 + 1) P2 S t := a1.ag p3 (Nat.le_succ _) p4
            exact W.sm a2 (Nat.le_refl _) (Nat.le_refl _)
          · exact W.sm r3 (Nat.le_refl _) (Nat.le_refl _)
    · have hv : aRv kk (.inr j) = -1 := if_neg c
      rw [hv, if_neg (show ¬ (0 : Int32) ≤ -1 by decide), if_pos f2.2.2.1]
      have eC : aCm kk T i = if t.2 = [(1, false, i)] then .inr (tN 24 i 0 0 s0 s0 tZ tZ, j) else .inl j := by
        unfold aCm
        rw [es]
        show (if aRl kk j < 6 then _ else _) = _
        rw [if_neg c]
      obtain ⟨b1, b2, b3, p, ps, b4, b5, b6⟩ := aSm_w es
      obtain ⟨u1, u2, a, u3, u4, u5, u6⟩ := l3
      have u5' : a + t.2.length ≤ P1 := u5
      have hlen : t.2.length = ps.length + 1 := by rw [b4]; rfl
      have hFF : ¬ t.2 = [(1, false, i)] → ∃ v τ', j_single_330 T (zF h0 qs ks T m) h0 qs ks τ1 = some (some (.int v), τ') ∧ rPc T len cnt kk pp ee f d A C τ N S P (.inr i) (aCm kk T) (1 + z) v τ' := fun hne => F τ1 (.inr j) P1 f2 f3 f4 f5 (by rw [eC, if_neg hne]; rfl) hj
      simp only [zgd, zin_n (show S < 2100 by omega) (show 2100 < 2 ^ 31 by decide), if_true, nI_clamp (show S < 2 ^ 31 by omega), u3, u4, nI_sub, zin_n (show a < 2100 by omega) (show 2100 < 2 ^ 31 by decide), nI_clamp (show a < 2 ^ 31 by omega)]
      by_cases c1 : t.2.length = 1
      · rw [if_pos ((nI_eq1 (by omega)).mpr c1)]
        have hps : ps = [] := List.length_eq_zero_iff.mp (by omega)
        subst hps
        obtain ⟨y1, y2, y3⟩ := u6 0 p (by rw [b4]; rfl)
        obtain ⟨z1, z2, z3⟩ := b3 p (by rw [b4]; exact List.mem_singleton.mpr rfl)
        rw [Nat.add_zero] at y1 y2 y3
        rw [y1, y2, y3]
        by_cases c2 : p.1 = 1
        · rw [if_pos ((nI_eq1 (by omega)).mpr c2)]
          by_cases c3 : p.2.1 = false
          · rw [if_pos (sg_1.mpr c3)]
            have c4 := b6 c2 c3
            have hp : p = (1, false, i) := Prod.ext c2 (Prod.ext c3 c4)
            rw [c4]
            simp only [zin_n (show i < 2010 by omega) (show 2010 < 2 ^ 31 by decide), if_true, nI_clamp (show i < 2 ^ 31 by omega), f2.1.pl hi]
            obtain ⟨τ2, g1, g2, g3, g4, g5, g6⟩ := q_node (h0 := h0) (qs := qs) (ks := ks) (m := m) f2 (show N < 2100 by omega) (by omega) 24 (pp i)
            rw [g1]
            have x13 : τ2.2.2.1 13 S = nI a := by rw [g3.sm (by omega) (by omega) (Nat.lt_succ_self S)]; exact u3
            have x18 : τ2.2.2.1 18 a = nI i := by rw [g3.pt (by omega) (by omega) (by omega), y3, c4]
            simp only [x13, x18, zlet, zin_n (show N < 2100 by omega) (show 2100 < 2 ^ 31 by decide), zin_n (show a < 2100 by omega) (show 2100 < 2 ^ 31 by decide), if_true, nI_clamp (show N < 2 ^ 31 by omega), nI_clamp (show a < 2 ^ 31 by omega)]
            have et : t.2 = [(1, false, i)] := by rw [b4, hp]
            have eT : aTo (.inr i) (aCm kk T) = .inr j := by rw [aTo_ok, eC, if_pos et]; rfl
            refine ⟨_, _, rfl, N + 1, S + 1, P1, N, ?_⟩
            rw [eT]
            refine ⟨g2.a _ (by omega), (f3.tr g3 (Nat.le_refl _) (Nat.le_succ _) f4 (Nat.le_refl _) (Nat.le_refl _)).a (rFz.n6 (by omega) (by omega) (Nat.le_refl N)), ⟨by omega, by omega, f4⟩, ⟨?_, ?_, f5⟩, fun j e => (by cases e), ⟨rfl, by omega⟩, fun i' t' j' e e' => ?_⟩
            · show N + 1 + i ≤ N + j + 0; omega
            · show S + 1 + i ≤ S + j + 0; omega
            · cases e
              rw [eC, if_pos et] at e'
              cases e'
              refine ⟨by omega, ⟨(Nat.le_refl _), by omega⟩, ⟨⟨(Nat.le_refl _), by omega⟩, ?_, ?_⟩, ?_⟩
              · show (zA τ2 9 (upd (τ2.2.2.1 9) N (nI i))).2.2.1 6 N = 24
                rw [zAn _ _ (by decide)]; exact g4
              · show (zA τ2 9 (upd (τ2.2.2.1 9) N (nI i))).2.2.1 7 N = pp i
                rw [zAn _ _ (by decide)]; exact g5
              · show (zA τ2 9 (upd (τ2.2.2.1 9) N (nI i))).2.2.1 9 N = nI i
                rw [zAe, upd_at]
          · rw [if_neg (fun e => c3 (sg_1.mp e))]
            exact hFF (fun e => c3 (by rw [b4] at e; cases e; rfl))
        · rw [if_neg (fun e => c2 ((nI_eq1 (by omega)).mp e))]
          exact hFF (fun e => c2 (by rw [b4] at e; cases e; rfl))
      · rw [if_neg (fun e => c1 ((nI_eq1 (by omega)).mp e))]
        exact hFF (fun e => c1 (by rw [e]; rfl))
end RSK
