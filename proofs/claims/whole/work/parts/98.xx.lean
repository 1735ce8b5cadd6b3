/-! the reference: sum -/
theorem rAg.wk {N S P A C N' S' P' A' C' : Nat} {τ τ' : zSt} (h : rAg N S P A C τ τ') (hN : N' ≤ N) (hS : S' ≤ S) (hP : P' ≤ P) (hA : A' ≤ A) (hC : C' ≤ C) : rAg N' S' P' A' C' τ τ' := (rAg.rf τ).tr h hN hS hP hA hC
section RSV
variable {κ : oKv} {ks : Nat → Nat} {qs : List Nat} {T m h0 len cnt sz d N S P A C : Nat} {τ : zSt} {s : Sum Nat Nat} {kk pp ee f : Nat → Int32} {p : Nat × String × Nat}
theorem rR.po (h : rR T len cnt kk pp ee f d τ N S P A C s) : aPo cnt s ≤ cnt := by
  cases s with
  | inl j => exact Nat.le_refl _
  | inr i => exact h.2.2.2.2
theorem rPs_cons {τ : zSt} {a : Nat} {p : tP} {ps : List tP} (h1 : τ.2.2.1 16 a = nI p.1 ∧ τ.2.2.1 17 a = sg p.2.1 ∧ τ.2.2.1 18 a = nI p.2.2) (h2 : rPs τ (a + 1) ps) : rPs τ a (p :: ps) := fun q r e => by
  cases q with
  | zero => cases e; exact h1
  | succ q =>
    have := h2 q r e
    rw [show a + (q + 1) = a + 1 + q by omega]
    exact this
/-- the PARTS behind the first -/
theorem q_sumL (hf : lFacts κ ks sz) (hT : 2010 ≤ T) (hm : 4 ≤ m) (S0 : Nat) (hS : S0 < 2100) (hS0 : S0 < S) : ∀ (t : Nat) (s : Sum Nat Nat) (τ : zSt) (P : Nat), 0 < t → (∀ i, s = .inr i → cnt < i + t) → rR T len cnt kk pp ee f d τ N S P A C s → P ≤ aPo cnt s → ∃ τ' P', l_sum_61 T (zF h0 qs ks T m) h0 qs ks t (nI S0) τ = some (some (.int (nI S0)), τ') ∧ rR T len cnt kk pp ee f d τ' N S P' A C (aTo s (aSL kk t)) ∧ rAg N S0 P A C τ τ' ∧ τ'.2.2.1 14 S0 = nI P' ∧ (τ'.2.2.1 13 S0 = τ.2.2.1 13 S0 ∧ τ'.2.2.1 15 S0 = τ.2.2.1 15 S0) ∧ P ≤ P' ∧ P' + aPo cnt s ≤ P + aPo cnt (aTo s (aSL kk t)) ∧ (∀ i ps j, s = .inr i → aSL kk t i = .inr (ps, j) → i ≤ j ∧ P' = P + ps.length ∧ rPs τ' P ps)
  | 0, _, _, _, h, _, _, _ => absurd h (Nat.lt_irrefl 0)
  | t + 1, s, τ, P, _, ht, h, hP => by
    obtain ⟨b1, g1, q1⟩ := q_here (h0 := h0) (qs := qs) (ks := ks) (m := m) hf hT h (show (510, "+", 43) ∈ zKp by decide) (by omega)
    obtain ⟨b2, g2, q2⟩ := q_here (h0 := h0) (qs := qs) (ks := ks) (m := m) hf hT h (show (506, "-", 45) ∈ zKp by decide) (by omega)
    have hcn := h.1.cn
    have hpo := h.po
    -- one more PART
    have L : ∀ i, s = .inr i → i < cnt → (aIs kk 43 i || aIs kk 45 i) = true → b2 = aIs kk 45 i → ∃ τ' P', j_sum_81 T (zF h0 qs ks T m) h0 qs ks (l_sum_61 T (zF h0 qs ks T m) h0 qs ks t) (nI S0) τ = some (some (.int (nI S0)), τ') ∧ rR T len cnt kk pp ee f d τ' N S P' A C (aTo s (aSL kk (t + 1))) ∧ rAg N S0 P A C τ τ' ∧ τ'.2.2.1 14 S0 = nI P' ∧ (τ'.2.2.1 13 S0 = τ.2.2.1 13 S0 ∧ τ'.2.2.1 15 S0 = τ.2.2.1 15 S0) ∧ P ≤ P' ∧ P' + aPo cnt s ≤ P + aPo cnt (aTo s (aSL kk (t + 1))) ∧ (∀ i ps j, s = .inr i → aSL kk (t + 1) i = .inr (ps, j) → i ≤ j ∧ P' = P + ps.length ∧ rPs τ' P ps) := fun i es hlt hor hb => by
      subst es
      have ht' := ht i rfl
      obtain ⟨hn, ha⟩ := h.nx hlt
      unfold j_sum_81
      simp only [g2, zci]
      have e0 : (if b01 b2 = 0 then j_sum_96 T (zF h0 qs ks T m) h0 qs ks (l_sum_61 T (zF h0 qs ks T m) h0 qs ks t) (nI S0) 1 τ else j_sum_96 T (zF h0 qs ks T m) h0 qs ks (l_sum_61 T (zF h0 qs ks T m) h0 qs ks t) (nI S0) (-1) τ) = j_sum_96 T (zF h0 qs ks T m) h0 qs ks (l_sum_61 T (zF h0 qs ks T m) h0 qs ks t) (nI S0) (sg b2) τ := by cases b2 <;> rfl
      rw [e0]
      unfold j_sum_96
      simp only [zlet, h.2.2.2.1, nI_1]
      obtain ⟨τ1, P1, f1, f2, f3, f4, f5, f6⟩ := q_part (h0 := h0) (qs := qs) (ks := ks) (m := m) hf hT hn (show P ≤ i + 1 by have : P ≤ i := hP; omega) hm b2
      rw [f1]
      simp only [zcv]
      have hg : aPt kk b2 (i + 1) = aPt kk (aIs kk 45 i) (i + 1) := by rw [hb]
      simp only [aTo_ok] at f2 f5 ⊢
      have eS : aSL kk (t + 1) i = (aPt kk b2 (i + 1)).on fun p j => (aSL kk t j).on fun ps j' => .inr (p :: ps, j') := by rw [aSL, if_pos hor, hg]
      rw [eS]
      have hP' : P ≤ i := hP
      have a1 := ha.tr f3 (Nat.le_refl _) (Nat.le_refl _) (Nat.le_refl _) (Nat.le_refl _) (Nat.le_refl _)
      cases ep : aPt kk b2 (i + 1) with
      | inl j =>
        rw [ep] at f2 f5
        have f5' : P1 + (i + 1) ≤ P + cnt := f5
        obtain ⟨τ2, P2, k1, k2, k3, k4, k5, k6, k7, -⟩ := q_sumL hf hT hm S0 hS hS0 t (.inl j) τ1 P1 (by omega) (fun i e => by cases e) f2 (show P1 ≤ cnt by omega)
        refine ⟨τ2, P2, k1, k2, (a1.wk (Nat.le_refl _) (show S0 ≤ S by omega) (Nat.le_refl _) (Nat.le_refl _) (Nat.le_refl _)).tr k3 (Nat.le_refl _) (Nat.le_refl _) f4 (Nat.le_refl _) (Nat.le_refl _), k4, ⟨?_, ?_⟩, by omega, ?_, fun i' ps j' e e' => ?_⟩
        · rw [k5.1, a1.sm (by omega) (by omega) hS0]
        · rw [k5.2, a1.sm (by omega) (by omega) hS0]
        · show P2 + i ≤ P + cnt
          have : P2 + cnt ≤ P1 + cnt := k7
          omega
        · cases e
          rw [eS, ep] at e'
          cases e'
      | inr r =>
        obtain ⟨p, j⟩ := r
        rw [ep] at f2 f5
        obtain ⟨f7, f8, f9⟩ := f6 (i + 1) p j rfl ep
        have f5' : P1 + (i + 1) ≤ P + j := f5
        have hj : j ≤ cnt := f2.2.2.2.2
        obtain ⟨τ2, P2, k1, k2, k3, k4, k5, k6, k7, k8⟩ := q_sumL hf hT hm S0 hS hS0 t (.inr j) τ1 P1 (by omega) (fun i e => by cases e; omega) f2 (show P1 ≤ j by omega)
        have eO : (aR.on (Sum.inr (p, j) : aR tP) fun p j => (aSL kk t j).on fun ps j' => (Sum.inr (p :: ps, j') : aR (List tP))).st = aTo (.inr j) (aSL kk t) := by
          show ((aSL kk t j).on fun ps j' => (Sum.inr (p :: ps, j') : aR (List tP))).st = (aSL kk t j).st
          cases aSL kk t j <;> rfl
        rw [eO]
        refine ⟨τ2, P2, k1, k2, (a1.wk (Nat.le_refl _) (show S0 ≤ S by omega) (Nat.le_refl _) (Nat.le_refl _) (Nat.le_refl _)).tr k3 (Nat.le_refl _) (Nat.le_refl _) f4 (Nat.le_refl _) (Nat.le_refl _), k4, ⟨?_, ?_⟩, by omega, ?_, fun i' ps j' e e' => ?_⟩
        · rw [k5.1, a1.sm (by omega) (by omega) hS0]
        · rw [k5.2, a1.sm (by omega) (by omega) hS0]
        · have k7' : P2 + j ≤ P1 + aPo cnt (aTo (.inr j) (aSL kk t)) := k7
          show P2 + i ≤ P + aPo cnt (aTo (.inr j) (aSL kk t))
          omega
        · cases e
          rw [eS, ep] at e'
          have e'' : ((aSL kk t j).on fun ps j' => (Sum.inr (p :: ps, j') : aR (List tP))) = .inr (ps, j') := e'
          cases eL : aSL kk t j with
          | inl x => rw [eL] at e''; cases e''
          | inr y =>
            obtain ⟨ps', j2⟩ := y
            rw [eL] at e''
            cases e''
            obtain ⟨l1, l2, l3⟩ := k8 j ps' _ rfl eL
            subst f7
            refine ⟨by omega, ?_, rPs_cons ?_ l3⟩
            · rw [l2, List.length_cons]; omega
            · rw [k3.pt (by omega) (by omega) (show P < P + 1 by omega), k3.pt (by omega) (by omega) (show P < P + 1 by omega), k3.pt (by omega) (by omega) (show P < P + 1 by omega)]
              exact f9
    -- the end
    have E : (∀ i, s = .inr i → (aIs kk 43 i || aIs kk 45 i) = false) → ∃ τ' P', zgd (zin (nI S0) 2100) (zlet (zA τ 14 (upd (τ.2.2.1 14) (nI S0).toNatClampNeg (τ.1 28))) fun s10 => some (some (.int (nI S0)), s10)) = some (some (.int (nI S0)), τ') ∧ rR T len cnt kk pp ee f d τ' N S P' A C (aTo s (aSL kk (t + 1))) ∧ rAg N S0 P A C τ τ' ∧ τ'.2.2.1 14 S0 = nI P' ∧ (τ'.2.2.1 13 S0 = τ.2.2.1 13 S0 ∧ τ'.2.2.1 15 S0 = τ.2.2.1 15 S0) ∧ P ≤ P' ∧ P' + aPo cnt s ≤ P + aPo cnt (aTo s (aSL kk (t + 1))) ∧ (∀ i ps j, s = .inr i → aSL kk (t + 1) i = .inr (ps, j) → i ≤ j ∧ P' = P + ps.length ∧ rPs τ' P ps) := fun hne => by
      have eT : aTo s (aSL kk (t + 1)) = s := by
        cases s with
        | inl j => rfl
        | inr i =>
          rw [aTo_ok, aSL, if_neg (fun e => by rw [hne i rfl] at e; cases e)]
          rfl
      rw [eT]
      simp only [zgd, zlet, zin_n hS (show 2100 < 2 ^ 31 by decide), if_true, nI_clamp (show S0 < 2 ^ 31 by omega), h.2.1.2.2.2.1]
      refine ⟨_, P, rfl, h.a _ (by omega), (rAg.rf τ).a (rFz.n13 (by omega) (by omega) (Nat.le_refl S0)), ?_, ⟨?_, ?_⟩, Nat.le_refl _, Nat.le_refl _, fun i ps j e e' => ?_⟩
      · rw [zAe, upd_at]
      · rw [zAn _ _ (by decide)]
      · rw [zAn _ _ (by decide)]
      · rw [aSL, if_neg (fun e2 => by rw [hne i e] at e2; cases e2)] at e'
        cases e'
        exact ⟨Nat.le_refl _, rfl, fun q p e3 => by cases e3⟩
    rw [l_sum_61, g1]
    simp only [zci]
    cases b1 with
    | true =>
      rw [if_neg (show ¬ b01 true = 0 by decide)]
      cases s with
      | inl j => cases q1
      | inr i =>
        have c1 : aIs kk 43 i = true := q1.symm
        exact L i rfl (h.1.lt h.2.2.2.2 (by decide) c1) (by rw [c1]; rfl) q2
    | false =>
      rw [if_pos (show b01 false = 0 from rfl), g2]
      simp only [zci]
      cases b2 with
      | true =>
        rw [if_neg (show ¬ b01 true = 0 by decide)]
        cases s with
        | inl j => cases q2
        | inr i =>
          have c2 : aIs kk 45 i = true := q2.symm
          exact L i rfl (h.1.lt h.2.2.2.2 (by decide) c2) (by rw [c2, Bool.or_true]) q2
      | false =>
        rw [if_pos (show b01 false = 0 from rfl)]
        exact E (fun i e => by
          subst e
          have c1 : false = aIs kk 43 i := q1
          have c2 : false = aIs kk 45 i := q2
          rw [← c1, ← c2]
          rfl)
/-- sum(): one S more -/
theorem q_sum (hf : lFacts κ ks sz) (hT : 2010 ≤ T) (h : rR T len cnt kk pp ee f d τ N S P A C s) (hS : S < 2100) (hP : P ≤ aPo cnt s) (hm : 5 ≤ m) : ∃ τ' P', zF h0 qs ks T m 21 [.ref h0] τ = some (some (.int (nI S)), τ') ∧ rR T len cnt kk pp ee f d τ' N (S + 1) P' A C (aTo s (aSm kk T)) ∧ rAg N S P A C τ τ' ∧ P ≤ P' ∧ P' + aPo cnt s ≤ P + aPo cnt (aTo s (aSm kk T)) ∧ (∀ i t j, s = .inr i → aSm kk T i = .inr (t, j) → i < j ∧ t.1 = i ∧ rSm pp τ' (S + 1) P' S t) := by
  obtain ⟨n, rfl⟩ : ∃ n, m = n + 5 := ⟨m - 5, by omega⟩
  have hcn := h.1.cn
  obtain ⟨w, w1, w2⟩ := h.wd
  rw [zE_sum]
  unfold b_sum
  simp only [zlet, zgd, zA1, zI2, zIn _ _ (show 10 ≠ 24 by decide), zIn _ _ (show 28 ≠ 24 by decide), h.2.1.2.2.1, h.2.1.2.2.2.1, w2, zin_n hS (show 2100 < 2 ^ 31 by decide), zin_n (show w < 2010 by omega) (show 2010 < 2 ^ 31 by decide), if_true, nI_clamp (show S < 2 ^ 31 by omega), nI_clamp (show w < 2 ^ 31 by omega), nI_1]
  -- the state before the first PART
  have h1 : rR T len cnt kk pp ee f d (zI τ 24 (nI (S + 1))) N (S + 1) P A C s := by
    obtain ⟨h1, ⟨a1, a2, a3, a4, a5, a6⟩, h3⟩ := h
    refine ⟨h1, ⟨a1, a2, rfl, a4, a5, a6⟩, ?_⟩
    cases s with
    | inl j => exact h3
    | inr i => exact h3
  have h2 := (h1.a (upd (τ.2.2.1 15) S (τ.2.2.1 4 w)) (show 6 ≤ 15 by omega)).a (upd ((zA (zI τ 24 (nI (S + 1))) 15 (upd (τ.2.2.1 15) S (τ.2.2.1 4 w))).2.2.1 13) S (nI P)) (show 6 ≤ 13 by omega)
  have a2 : rAg N S P A C τ (zA (zA (zI τ 24 (nI (S + 1))) 15 (upd (τ.2.2.1 15) S (τ.2.2.1 4 w))) 13 (upd ((zA (zI τ 24 (nI (S + 1))) 15 (upd (τ.2.2.1 15) S (τ.2.2.1 4 w))).2.2.1 13) S (nI P))) := (((rAg.rf τ).i (k := 24) (by omega)).a (rFz.n13 (by omega) (by omega) (Nat.le_refl S))).a (rFz.n13 (by omega) (by omega) (Nat.le_refl S))
  have r13 : (zA (zA (zI τ 24 (nI (S + 1))) 15 (upd (τ.2.2.1 15) S (τ.2.2.1 4 w))) 13 (upd ((zA (zI τ 24 (nI (S + 1))) 15 (upd (τ.2.2.1 15) S (τ.2.2.1 4 w))).2.2.1 13) S (nI P))).2.2.1 13 S = nI P := by rw [zAe, upd_at]
  have r15 : (zA (zA (zI τ 24 (nI (S + 1))) 15 (upd (τ.2.2.1 15) S (τ.2.2.1 4 w))) 13 (upd ((zA (zI τ 24 (nI (S + 1))) 15 (upd (τ.2.2.1 15) S (τ.2.2.1 4 w))).2.2.1 13) S (nI P))).2.2.1 15 S = τ.2.2.1 4 w := by rw [zAn _ _ (by decide), zAe, upd_at]
  generalize zA (zA (zI τ 24 (nI (S + 1))) 15 (upd (τ.2.2.1 15) S (τ.2.2.1 4 w))) 13 (upd ((zA (zI τ 24 (nI (S + 1))) 15 (upd (τ.2.2.1 15) S (τ.2.2.1 4 w))).2.2.1 13) S (nI P)) = τ0 at h2 a2 r13 r15 ⊢
  obtain ⟨b, τ1, g1, q1, y1, n1⟩ := q_skip (h0 := h0) (qs := qs) (ks := ks) (m := n + 4) hf hT h2 (show (506, "-", 45) ∈ zKp by decide) (by omega)
  rw [g1]
  simp only [zci]
  have e0 : (if b01 b = 0 then j_sum_55 T (zF h0 qs ks T (n + 4)) h0 qs ks (nI S) 1 τ1 else j_sum_55 T (zF h0 qs ks T (n + 4)) h0 qs ks (nI S) (-1) τ1) = j_sum_55 T (zF h0 qs ks T (n + 4)) h0 qs ks (nI S) (sg b) τ1 := by cases b <;> rfl
  rw [e0]
  unfold j_sum_55
  -- behind the sign
  have M : ∃ s1, rR T len cnt kk pp ee f d τ1 N (S + 1) P A C s1 ∧ rAg N (S + 1) P A C τ0 τ1 ∧ aPo cnt s ≤ aPo cnt s1 ∧ (∀ j, s = .inl j → s1 = .inl j) ∧ (∀ i, s = .inr i → b = aIs kk 45 i ∧ s1 = .inr (if aIs kk 45 i = true then i + 1 else i)) := by
    cases b with
    | true =>
      obtain ⟨i, e1, e2, e3, e4, e5⟩ := n1 rfl
      subst e1
      exact ⟨.inr (i + 1), e4, e5, show i ≤ i + 1 by omega, fun j e => (by cases e), fun i' e => by cases e; have e3' : aIs kk 45 i = true := e3; rw [e3']; exact ⟨rfl, rfl⟩⟩
    | false =>
      rw [y1 rfl]
      refine ⟨s, h2, rAg.rf _, Nat.le_refl _, fun j e => e, fun i e => ?_⟩
      subst e
      have c : false = aIs kk 45 i := q1
      rw [← c]
      exact ⟨rfl, rfl⟩
  obtain ⟨s1, m1, m2, m3, m4, m5⟩ := M
  obtain ⟨τ2, P2, f1, f2, f3, f4, f5, f6⟩ := q_part (h0 := h0) (qs := qs) (ks := ks) (m := n + 4) hf hT m1 (by omega) (by omega) b
  rw [f1]
  simp only [zcv]
  have hpo2 := f2.po
  obtain ⟨τ3, P3, k1, k2, k3, k4, k5, k6, k7, k8⟩ := q_sumL (h0 := h0) (qs := qs) (ks := ks) (m := n + 4) hf hT (by omega) S hS (Nat.lt_succ_self S) T (aTo s1 (aPt kk b)) τ2 P2 (by omega) (fun i e => by omega) f2 (by omega)
  have a3 := m2.tr f3 (Nat.le_refl _) (Nat.le_refl _) (Nat.le_refl _) (Nat.le_refl _) (Nat.le_refl _)
  have eA : aTo (aTo s1 (aPt kk b)) (aSL kk T) = aTo s (aSm kk T) := by
    cases s with
    | inl j => rw [m4 j rfl]; rfl
    | inr i =>
      obtain ⟨c1, c2⟩ := m5 i rfl
      rw [c2, c1, aTo_ok, aTo_ok]
      unfold aSm
      cases aPt kk (aIs kk 45 i) (if aIs kk 45 i = true then i + 1 else i) with
      | inl j => rfl
      | inr r =>
        obtain ⟨p, j⟩ := r
        show (aSL kk T j).st = ((aSL kk T j).on fun ps j' => (Sum.inr ((i, p :: ps), j') : aR tS)).st
        cases aSL kk T j <;> rfl
  rw [eA] at k2 k7
  refine ⟨τ3, P3, k1, k2, (a2.tr a3 (Nat.le_refl _) (Nat.le_succ _) (Nat.le_refl _) (Nat.le_refl _) (Nat.le_refl _)).tr k3 (Nat.le_refl _) (Nat.le_refl _) f4 (Nat.le_refl _) (Nat.le_refl _), by omega, by omega, fun i t j e e' => ?_⟩
  subst e
  obtain ⟨c1, c2⟩ := m5 i rfl
  unfold aSm at e'
  rw [← c1] at e'
  have hw : w = i := nI_inj' (by omega) (by have := h.2.2.2.2; omega) (w2.symm.trans h.2.2.2.1)
  subst hw
  rw [c2, ← c1] at f6
  cases ep : aPt kk b (if b = true then w + 1 else w) with
  | inl x => rw [ep] at e'; cases e'
  | inr r =>
    obtain ⟨p, j1⟩ := r
    rw [ep] at e'
    obtain ⟨o1, o2, o3⟩ := f6 _ p j1 rfl ep
    have e2 : ((aSL kk T j1).on fun ps j' => (Sum.inr ((w, p :: ps), j') : aR tS)) = .inr (t, j) := e'
    cases eL : aSL kk T j1 with
    | inl x => rw [eL] at e2; cases e2
    | inr y =>
      obtain ⟨ps, j2⟩ := y
      rw [eL] at e2
      cases e2
      have e5 : aTo s1 (aPt kk b) = .inr j1 := by rw [c2, ← c1, aTo_ok, ep]; rfl
      obtain ⟨l1, l2, l3⟩ := k8 j1 ps j e5 eL
      subst o1
      refine ⟨?_, rfl, Nat.lt_succ_self S, ?_, P, ?_, ?_, ?_, ?_⟩
      · cases b
        · have : w < j1 := o2; omega
        · have : w + 1 < j1 := o2; omega
      · rw [k5.2, a3.sm (by omega) (by omega) (Nat.lt_succ_self S), r15]
        exact h.1.pl h.2.2.2.2
      · rw [k5.1, a3.sm (by omega) (by omega) (Nat.lt_succ_self S), r13]
      · rw [k4, l2, List.length_cons, show P + 1 + ps.length = P + (ps.length + 1) by omega]
      · rw [l2, List.length_cons]; omega
      · refine rPs_cons ?_ l3
        rw [k3.pt (by omega) (by omega) (show P < P + 1 by omega), k3.pt (by omega) (by omega) (show P < P + 1 by omega), k3.pt (by omega) (by omega) (show P < P + 1 by omega)]
        exact o3
end RSV
