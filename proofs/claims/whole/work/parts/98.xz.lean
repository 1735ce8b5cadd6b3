/-! the reference: both, condition -/
/-- what a fault adds -/
def bz (s : Sum Nat Nat) (z : Nat) : Nat := match s with
  | .inl _ => z
  | .inr _ => 0
/-- behind the reading F of a C from s: z nodes more at a fault -/
def rPc (T len cnt : Nat) (kk pp ee f : Nat → Int32) (d A C : Nat) (τ : zSt) (N S P : Nat) (s : Sum Nat Nat) (F : Nat → aR tT) (z : Nat) (v : Int32) (τ' : zSt) : Prop := ∃ N' S' P' x, rR T len cnt kk pp ee f d τ' N' S' P' A C (aTo s F) ∧ rAg N S P A C τ τ' ∧ (N ≤ N' ∧ S ≤ S' ∧ P ≤ P') ∧ (N' + aPo cnt s ≤ N + aPo cnt (aTo s F) + bz (aTo s F) z ∧ S' + aPo cnt s ≤ S + aPo cnt (aTo s F) + bz (aTo s F) 2 ∧ P' + aPo cnt s ≤ P + aPo cnt (aTo s F)) ∧ (∀ j, s = .inl j → N' = N ∧ S' = S ∧ P' = P) ∧ (v = nI x ∧ x < 2100) ∧ (∀ i t j, s = .inr i → F i = .inr (t, j) → i < j ∧ (N ≤ x ∧ x < N') ∧ rTr pp τ' N N' S' P' A t 0 0 x)
/-- nodes, S and PARTS so far are no more than words -/
def rEn (N S P : Nat) (s : Sum Nat Nat) : Prop := ∀ i, s = .inr i → N ≤ i ∧ S ≤ i ∧ P ≤ i
theorem rAt_zA {lo N S P A k n : Nat} (τ : zSt) (v : Int32) (h1 : 6 ≤ k) (h2 : k ≤ 12) (hn : n < lo ∨ N ≤ n) : rAt lo N S P A τ (zA τ k (upd (τ.2.2.1 k) n v)) := by
  refine ⟨fun m a b => funext fun q => ?_, fun q j a b _ => ?_, fun q j a b _ => ?_, fun m _ => funext fun q => ?_⟩
  · show (zA τ k (upd (τ.2.2.1 k) n v)).2.2.1 (6 + q % 7) m = τ.2.2.1 (6 + q % 7) m
    by_cases c : 6 + q % 7 = k
    · rw [c, zAe, upd_ne _ _ (by omega)]
    · rw [zAn _ _ c]
  · rw [zAn _ _ (by omega)]
  · rw [zAn _ _ (by omega)]
  · show (zA τ k (upd (τ.2.2.1 k) n v)).2.2.1 (19 + q % 3) m = τ.2.2.1 (19 + q % 3) m
    rw [zAn _ _ (by omega)]
theorem rAt.tr {lo N S P A : Nat} {τ τ' τ'' : zSt} (h : rAt lo N S P A τ τ') (h' : rAt lo N S P A τ' τ'') : rAt lo N S P A τ τ'' :=
  ⟨fun m a b => (h'.1 m a b).trans (h.1 m a b), fun k j a b c => (h'.2.1 k j a b c).trans (h.2.1 k j a b c), fun k j a b c => (h'.2.2.1 k j a b c).trans (h.2.2.1 k j a b c), fun m a => (h'.2.2.2 m a).trans (h.2.2.2 m a)⟩
theorem rAt.wk {lo N S P A lo' N' S' P' A' : Nat} {τ τ' : zSt} (h : rAt lo N S P A τ τ') (a1 : lo ≤ lo') (a2 : N' ≤ N) (a3 : S' ≤ S) (a4 : P' ≤ P) (a5 : A' ≤ A) : rAt lo' N' S' P' A' τ τ' :=
  ⟨fun m a b => h.1 m (by omega) (by omega), fun k j a b c => h.2.1 k j a b (by omega), fun k j a b c => h.2.2.1 k j a b (by omega), fun m a => h.2.2.2 m (by omega)⟩
/-- a reading and those behind it, each behind the sign k -/
def aLp (kk : Nat → Int32) (T k g : Nat) (G : Nat → aR tT) (i : Nat) : aR tT := (G i).on fun c j => (aCL kk k G T j).on fun cs j' => .inr (tMk g c cs, j')
section RBO
variable {κ : oKv} {ks : Nat → Nat} {qs : List Nat} {T m h0 len cnt sz d N S P A C z : Nat} {τ : zSt} {s : Sum Nat Nat} {kk pp ee f : Nat → Int32} {p : Nat × String × Nat} {G : Nat → aR tT}
/-- the loop of both -/
theorem q_bothL (hf : lFacts κ ks sz) (hT : 2010 ≤ T) (hm : 2 ≤ m) (hG : ∀ s τ N S P, rR T len cnt kk pp ee f d τ N S P A C s → rEn N S P s → ∃ v τ', zF h0 qs ks T m 24 [.ref h0] τ = some (some (.int v), τ') ∧ rPc T len cnt kk pp ee f d A C τ N S P s G z v τ') : ∀ (t : Nat) (s : Sum Nat Nat) (τ : zSt) (N S P x : Nat), 0 < t → (∀ i, s = .inr i → cnt < i + t) → rR T len cnt kk pp ee f d τ N S P A C s → rEn N S P s → x < 2100 → (∀ i, s = .inr i → x < N) → ∃ v τ', l_both_5 T (zF h0 qs ks T m) h0 qs ks t (nI x) τ = some (some (.int v), τ') ∧ ∃ N' S' P' y, rR T len cnt kk pp ee f d τ' N' S' P' A C (aTo s (aCL kk 302 G t)) ∧ rAg N S P A C τ τ' ∧ (N ≤ N' ∧ S ≤ S' ∧ P ≤ P') ∧ (N' + aPo cnt s ≤ N + aPo cnt (aTo s (aCL kk 302 G t)) + bz (aTo s (aCL kk 302 G t)) z ∧ S' + aPo cnt s ≤ S + aPo cnt (aTo s (aCL kk 302 G t)) + bz (aTo s (aCL kk 302 G t)) 2 ∧ P' + aPo cnt s ≤ P + aPo cnt (aTo s (aCL kk 302 G t))) ∧ (∀ j, s = .inl j → N' = N ∧ S' = S ∧ P' = P) ∧ (v = nI y ∧ y < 2100) ∧ (∀ i t' j, s = .inr i → aCL kk 302 G t i = .inr (t', j) → i ≤ j ∧ (x ≤ y ∧ y < N') ∧ ∀ lo, lo ≤ x → rTr pp τ' lo N' S' P' A t' 21 x y)
  | 0, _, _, _, _, _, _, h, _, _, _, _, _ => absurd h (Nat.lt_irrefl 0)
  | t + 1, s, τ, N, S, P, x, _, ht, h, hE, hx, hxN => by
    obtain ⟨b1, g1, q1⟩ := q_here (h0 := h0) (qs := qs) (ks := ks) (m := m) hf hT h (show (620, "&&", 302) ∈ zKp by decide) (by omega)
    have hcn := h.1.cn
    rw [l_both_5, g1]
    simp only [zci]
    cases b1 with
    | false =>
      rw [if_pos (show b01 false = 0 from rfl)]
      have eT : aTo s (aCL kk 302 G (t + 1)) = s := by
        cases s with
        | inl j => rfl
        | inr i =>
          have c : false = aIs kk 302 i := q1
          rw [aTo_ok, aCL, ← c]
          rfl
      rw [eT]
      refine ⟨_, τ, rfl, N, S, P, x, h, rAg.rf τ, ⟨Nat.le_refl _, Nat.le_refl _, Nat.le_refl _⟩, ⟨by omega, by omega, by omega⟩, fun _ _ => ⟨rfl, rfl, rfl⟩, ⟨rfl, hx⟩, fun i t' j e e' => ?_⟩
      subst e
      have c : false = aIs kk 302 i := q1
      rw [aCL, ← c] at e'
      cases e'
      exact ⟨Nat.le_refl _, ⟨Nat.le_refl _, hxN i rfl⟩, fun lo _ => rfl⟩
    | true =>
      rw [if_neg (show ¬ b01 true = 0 by decide)]
      cases s with
      | inl j => cases q1
      | inr i =>
        have c : aIs kk 302 i = true := q1.symm
        have hlt := h.1.lt h.2.2.2.2 (by decide) c
        obtain ⟨n1, n2, n3⟩ := hE i rfl
        have hx' := hxN i rfl
        have ht' := ht i rfl
        obtain ⟨τ1, f1, f2, f3, f4, f5, f6⟩ := q_node (h0 := h0) (qs := qs) (ks := ks) (m := m) h (show N < 2100 by omega) (by omega) 21 (τ.2.2.1 7 x)
        obtain ⟨k1, k2⟩ := f2.nx hlt
        have w10 : τ1.1 10 = nI i := f2.2.2.2.1
        simp only [zgd, zlet, zin_n hx (show 2100 < 2 ^ 31 by decide), zin_n (show N < 2100 by omega) (show 2100 < 2 ^ 31 by decide), if_true, nI_clamp (show x < 2 ^ 31 by omega), nI_clamp (show N < 2 ^ 31 by omega), f1, w10, nI_1]
        -- x1 of the new node
        have k3 := k1.a (upd ((zI τ1 10 (nI (i + 1))).2.2.1 9) N (nI x)) (show 6 ≤ 9 by omega)
        have k4 : rAg N S P A C τ (zA (zI τ1 10 (nI (i + 1))) 9 (upd ((zI τ1 10 (nI (i + 1))).2.2.1 9) N (nI x))) := (f3.tr k2 (Nat.le_succ _) (Nat.le_refl _) (Nat.le_refl _) (Nat.le_refl _) (Nat.le_refl _)).a (rFz.n6 (by omega) (by omega) (Nat.le_refl N))
        have v0 : nV (zA (zI τ1 10 (nI (i + 1))) 9 (upd ((zI τ1 10 (nI (i + 1))).2.2.1 9) N (nI x))) N 0 = nI 21 := by
          show (zA (zI τ1 10 (nI (i + 1))) 9 (upd ((zI τ1 10 (nI (i + 1))).2.2.1 9) N (nI x))).2.2.1 6 N = nI 21
          rw [zAn _ _ (by decide)]; exact f4
        have v1 : nV (zA (zI τ1 10 (nI (i + 1))) 9 (upd ((zI τ1 10 (nI (i + 1))).2.2.1 9) N (nI x))) N 1 = nV τ x 1 := by
          show (zA (zI τ1 10 (nI (i + 1))) 9 (upd ((zI τ1 10 (nI (i + 1))).2.2.1 9) N (nI x))).2.2.1 7 N = τ.2.2.1 7 x
          rw [zAn _ _ (by decide)]; exact f5
        have v3 : nV (zA (zI τ1 10 (nI (i + 1))) 9 (upd ((zI τ1 10 (nI (i + 1))).2.2.1 9) N (nI x))) N 3 = nI x := by
          show (zA (zI τ1 10 (nI (i + 1))) 9 (upd ((zI τ1 10 (nI (i + 1))).2.2.1 9) N (nI x))).2.2.1 9 N = nI x
          rw [zAe, upd_at]
        generalize zA (zI τ1 10 (nI (i + 1))) 9 (upd ((zI τ1 10 (nI (i + 1))).2.2.1 9) N (nI x)) = τ2 at k3 k4 v0 v1 v3 ⊢
        obtain ⟨v, τ3, g2, N1, S1, P1, x1, o1, o2, ⟨o3, o4, o5⟩, ⟨o6, o7, o8⟩, -, ⟨o9, o10⟩, o11⟩ := hG (.inr (i + 1)) τ2 (N + 1) S P k3 (fun i' e => by cases e; omega)
        rw [g2]
        simp only
        subst o9
        -- x2 of the new node
        have p1 := o1.a (upd (τ3.2.2.1 10) N (nI x1)) (show 6 ≤ 10 by omega)
        have p2 : rAg N S P A C τ (zA τ3 10 (upd (τ3.2.2.1 10) N (nI x1))) := (k4.tr o2 (Nat.le_succ _) (Nat.le_refl _) (Nat.le_refl _) (Nat.le_refl _) (Nat.le_refl _)).a (rFz.n6 (by omega) (by omega) (Nat.le_refl N))
        have p3 : rAt (N + 1) N1 S1 P1 A τ3 (zA τ3 10 (upd (τ3.2.2.1 10) N (nI x1))) := rAt_zA τ3 _ (by omega) (by omega) (Or.inl (by omega))
        have w0 : nV τ3 N = nV τ2 N := (o2.at 0).1 N (by omega) (by omega)
        have u0 : nV (zA τ3 10 (upd (τ3.2.2.1 10) N (nI x1))) N 0 = nI 21 := by
          rw [← v0, ← w0]
          show (zA τ3 10 (upd (τ3.2.2.1 10) N (nI x1))).2.2.1 6 N = τ3.2.2.1 6 N
          rw [zAn _ _ (by decide)]
        have u1 : nV (zA τ3 10 (upd (τ3.2.2.1 10) N (nI x1))) N 1 = nV τ x 1 := by
          rw [← v1, ← w0]
          show (zA τ3 10 (upd (τ3.2.2.1 10) N (nI x1))).2.2.1 7 N = τ3.2.2.1 7 N
          rw [zAn _ _ (by decide)]
        have u3 : nV (zA τ3 10 (upd (τ3.2.2.1 10) N (nI x1))) N 3 = nI x := by
          rw [← v3, ← w0]
          show (zA τ3 10 (upd (τ3.2.2.1 10) N (nI x1))).2.2.1 9 N = τ3.2.2.1 9 N
          rw [zAn _ _ (by decide)]
        have u4 : nV (zA τ3 10 (upd (τ3.2.2.1 10) N (nI x1))) N 4 = nI x1 := by
          show (zA τ3 10 (upd (τ3.2.2.1 10) N (nI x1))).2.2.1 10 N = nI x1
          rw [zAe, upd_at]
        generalize zA τ3 10 (upd (τ3.2.2.1 10) N (nI x1)) = τ4 at p1 p2 p3 u0 u1 u3 u4 ⊢
        have eS : aCL kk 302 G (t + 1) i = (G (i + 1)).on fun c j => (aCL kk 302 G t j).on fun cs j' => .inr (tN 30 0 0 0 s0 s0 c cs, j') := by rw [aCL, if_pos c]
        have eT : aTo (.inr i) (aCL kk 302 G (t + 1)) = aTo (aTo (.inr (i + 1)) G) (aCL kk 302 G t) := by
          rw [aTo_ok, eS, aTo_ok]
          cases G (i + 1) with
          | inl j => rfl
          | inr r =>
            obtain ⟨c, j⟩ := r
            show ((aCL kk 302 G t j).on fun cs j' => (Sum.inr (tN 30 0 0 0 s0 s0 c cs, j') : aR tT)).st = (aCL kk 302 G t j).st
            cases aCL kk 302 G t j <;> rfl
        have hpo := p1.po
        cases eg : G (i + 1) with
        | inl j =>
          have e5 : aTo (.inr (i + 1)) G = .inl j := by rw [aTo_ok, eg]; rfl
          rw [e5] at p1 o6 o7 o8 eT
          obtain ⟨v', τ5, l1, N2, S2, P2, y, l2, l3, l4, l5, l6, l7, -⟩ := q_bothL hf hT hm hG t (.inl j) τ4 N1 S1 P1 N (by omega) (fun i' e => by cases e) p1 (fun i' e => by cases e) (by omega) (fun i' e => by cases e)
          obtain ⟨rfl, rfl, rfl⟩ := l6 j rfl
          rw [eT]
          have o6' : N2 + (i + 1) ≤ N + 1 + cnt + z := o6
          have o7' : S2 + (i + 1) ≤ S + cnt + 2 := o7
          have o8' : P2 + (i + 1) ≤ P + cnt := o8
          refine ⟨v', τ5, l1, N2, S2, P2, y, l2, p2.tr l3 (by omega) o4 o5 (Nat.le_refl _) (Nat.le_refl _), ⟨by omega, o4, o5⟩, ⟨?_, ?_, ?_⟩, fun j e => (by cases e), l7, fun i' t' j' e e' => ?_⟩
          · show N2 + i ≤ N + cnt + z; omega
          · show S2 + i ≤ S + cnt + 2; omega
          · show P2 + i ≤ P + cnt; omega
          · cases e
            rw [eS, eg] at e'
            cases e'
        | inr r =>
          obtain ⟨c', j⟩ := r
          have e5 : aTo (.inr (i + 1)) G = .inr j := by rw [aTo_ok, eg]; rfl
          obtain ⟨o12, o12b, o13⟩ := o11 (i + 1) c' j rfl eg
          rw [e5] at p1 o6 o7 o8 eT hpo
          have o6' : N1 + (i + 1) ≤ N + 1 + j + 0 := o6
          have o7' : S1 + (i + 1) ≤ S + j + 0 := o7
          have o8' : P1 + (i + 1) ≤ P + j := o8
          have hj : j ≤ cnt := hpo
          obtain ⟨v', τ5, l1, N2, S2, P2, y, l2, l3, ⟨l4a, l4b, l4c⟩, ⟨l5a, l5b, l5c⟩, -, l7, l8⟩ := q_bothL hf hT hm hG t (.inr j) τ4 N1 S1 P1 N (by omega) (fun i' e => by cases e; omega) p1 (fun i' e => by cases e; omega) (by omega) (fun i' e => by omega)
          rw [eT]
          have l5a' : N2 + j ≤ N1 + aPo cnt (aTo (.inr j) (aCL kk 302 G t)) + bz (aTo (.inr j) (aCL kk 302 G t)) z := l5a
          have l5b' : S2 + j ≤ S1 + aPo cnt (aTo (.inr j) (aCL kk 302 G t)) + bz (aTo (.inr j) (aCL kk 302 G t)) 2 := l5b
          have l5c' : P2 + j ≤ P1 + aPo cnt (aTo (.inr j) (aCL kk 302 G t)) := l5c
          refine ⟨v', τ5, l1, N2, S2, P2, y, l2, p2.tr l3 (by omega) o4 o5 (Nat.le_refl _) (Nat.le_refl _), ⟨by omega, by omega, by omega⟩, ⟨?_, ?_, ?_⟩, fun j e => (by cases e), l7, fun i' t' j' e e' => ?_⟩
          · show N2 + i ≤ _; omega
          · show S2 + i ≤ _; omega
          · show P2 + i ≤ _; omega
          · cases e
            rw [eS, eg] at e'
            have e2 : ((aCL kk 302 G t j).on fun cs j' => (Sum.inr (tN 30 0 0 0 s0 s0 c' cs, j') : aR tT)) = .inr (t', j') := e'
            cases eL : aCL kk 302 G t j with
            | inl q => rw [eL] at e2; cases e2
            | inr q =>
              obtain ⟨cs, j2⟩ := q
              rw [eL] at e2
              cases e2
              obtain ⟨r1, r1b, r2⟩ := l8 j cs _ rfl eL
              refine ⟨by omega, by omega, fun lo hlo => ?_⟩
              have hN1 : nV τ5 N = nV τ4 N := (l3.at 0).1 N (by omega) (by omega)
              have hx1 : nV τ5 x = nV τ x := ((p2.at 0).1 x (by omega) hx') ▸ (l3.at 0).1 x (by omega) (by omega)
              refine ⟨N, x1, ⟨⟨by omega, by omega⟩, by omega, by omega⟩, ⟨?_, ?_, ?_, ?_⟩, ?_, r2 lo (by omega)⟩
              · rw [hN1]; exact u0
              · rw [hN1, hx1]; exact u1
              · rw [hN1]; exact u3
              · rw [hN1]; exact u4
              · exact rTr.keep (p3.tr (l3.at (N + 1))) (by omega) (by omega) (by omega) (by omega) (Nat.le_refl _) _ _ _ _ o13
/-- both(), over a reading of one -/
theorem q_both (hf : lFacts κ ks sz) (hT : 2010 ≤ T) (hm : 3 ≤ m) (hG : ∀ s τ N S P, rR T len cnt kk pp ee f d τ N S P A C s → rEn N S P s → ∃ v τ', zF h0 qs ks T (m - 1) 24 [.ref h0] τ = some (some (.int v), τ') ∧ rPc T len cnt kk pp ee f d A C τ N S P s G z v τ') (h : rR T len cnt kk pp ee f d τ N S P A C s) (hE : rEn N S P s) : ∃ v τ', zF h0 qs ks T m 22 [.ref h0] τ = some (some (.int v), τ') ∧ rPc T len cnt kk pp ee f d A C τ N S P s (aLp kk T 302 21 G) z v τ' := by
  obtain ⟨n, rfl⟩ : ∃ n, m = n + 1 := ⟨m - 1, by omega⟩
  have hcn := h.1.cn
  rw [Nat.add_sub_cancel] at hG
  obtain ⟨v, τ1, g1, N1, S1, P1, x, o1, o2, ⟨o3, o4, o5⟩, ⟨o6, o7, o8⟩, o12, ⟨rfl, o10⟩, o11⟩ := hG s τ N S P h hE
  rw [zE_both]
  unfold b_both
  rw [g1]
  simp only [zci]
  have hpo := o1.po
  cases s with
  | inl j =>
    obtain ⟨rfl, rfl, rfl⟩ := o12 j rfl
    obtain ⟨v', τ2, l1, N2, S2, P2, y, l2, l3, l4, l5, l6, l7, -⟩ := q_bothL (h0 := h0) (qs := qs) (ks := ks) (m := n) hf hT (by omega) hG T (.inl j) τ1 N1 S1 P1 x (by omega) (fun i e => by cases e) o1 (fun i e => by cases e) o10 (fun i e => by cases e)
    obtain ⟨rfl, rfl, rfl⟩ := l6 j rfl
    exact ⟨v', τ2, l1, N2, S2, P2, y, l2, o2.tr l3 (Nat.le_refl _) (Nat.le_refl _) (Nat.le_refl _) (Nat.le_refl _) (Nat.le_refl _), l4, l5, fun _ _ => ⟨rfl, rfl, rfl⟩, l7, fun i t j e => by cases e⟩
  | inr i =>
    obtain ⟨n1, n2, n3⟩ := hE i rfl
    have hi := h.2.2.2.2
    cases eg : G i with
    | inl j =>
      have e5 : aTo (.inr i) G = .inl j := by rw [aTo_ok, eg]; rfl
      have eT : aTo (.inr i) (aLp kk T 302 21 G) = .inl j := by
        rw [aTo_ok]
        unfold aLp
        rw [eg]
        rfl
      rw [e5] at o1 o6 o7 o8
      obtain ⟨v', τ2, l1, N2, S2, P2, y, l2, l3, l4, l5, l6, l7, -⟩ := q_bothL (h0 := h0) (qs := qs) (ks := ks) (m := n) hf hT (by omega) hG T (.inl j) τ1 N1 S1 P1 x (by omega) (fun i e => by cases e) o1 (fun i e => by cases e) o10 (fun i e => by cases e)
      obtain ⟨rfl, rfl, rfl⟩ := l6 j rfl
      refine ⟨v', τ2, l1, N2, S2, P2, y, ?_⟩
      rw [eT]
      refine ⟨l2, o2.tr l3 o3 o4 o5 (Nat.le_refl _) (Nat.le_refl _), ⟨o3, o4, o5⟩, ⟨o6, o7, o8⟩, fun j e => (by cases e), l7, fun i' t j' e e' => ?_⟩
      cases e
      unfold aLp at e'
      rw [eg] at e'
      cases e'
    | inr r =>
      obtain ⟨c, j⟩ := r
      have e5 : aTo (.inr i) G = .inr j := by rw [aTo_ok, eg]; rfl
      have eT : aTo (.inr i) (aLp kk T 302 21 G) = aTo (.inr j) (aCL kk 302 G T) := by
        rw [aTo_ok, aTo_ok]
        unfold aLp
        rw [eg]
        show ((aCL kk 302 G T j).on fun cs j' => (Sum.inr (tMk 21 c cs, j') : aR tT)).st = _
        cases aCL kk 302 G T j <;> rfl
      rw [e5] at o1 o6 o7 o8 hpo
      obtain ⟨o13, o13b, o14⟩ := o11 i c j rfl eg
      have o6' : N1 + i ≤ N + j + 0 := o6
      have o7' : S1 + i ≤ S + j + 0 := o7
      have o8' : P1 + i ≤ P + j := o8
      have hj : j ≤ cnt := hpo
      have hxN : x < N1 := o13b.2
      obtain ⟨v', τ2, l1, N2, S2, P2, y, l2, l3, ⟨l4a, l4b, l4c⟩, ⟨l5a, l5b, l5c⟩, -, l7, l8⟩ := q_bothL (h0 := h0) (qs := qs) (ks := ks) (m := n) hf hT (by omega) hG T (.inr j) τ1 N1 S1 P1 x (by omega) (fun i e => by cases e; omega) o1 (fun i e => by cases e; omega) o10 (fun i e => hxN)
      have l5a' : N2 + j ≤ N1 + aPo cnt (aTo (.inr j) (aCL kk 302 G T)) + bz (aTo (.inr j) (aCL kk 302 G T)) z := l5a
      have l5b' : S2 + j ≤ S1 + aPo cnt (aTo (.inr j) (aCL kk 302 G T)) + bz (aTo (.inr j) (aCL kk 302 G T)) 2 := l5b
      have l5c' : P2 + j ≤ P1 + aPo cnt (aTo (.inr j) (aCL kk 302 G T)) := l5c
      refine ⟨v', τ2, l1, N2, S2, P2, y, ?_⟩
      rw [eT]
      refine ⟨l2, o2.tr l3 o3 o4 o5 (Nat.le_refl _) (Nat.le_refl _), ⟨by omega, by omega, by omega⟩, ⟨?_, ?_, ?_⟩, fun j e => (by cases e), l7, fun i' t j' e e' => ?_⟩
      · show N2 + i ≤ _; omega
      · show S2 + i ≤ _; omega
      · show P2 + i ≤ _; omega
      · cases e
        unfold aLp at e'
        rw [eg] at e'
        have e2 : ((aCL kk 302 G T j).on fun cs j' => (Sum.inr (tMk 21 c cs, j') : aR tT)) = .inr (t, j') := e'
        cases eL : aCL kk 302 G T j with
        | inl q => rw [eL] at e2; cases e2
        | inr q =>
          obtain ⟨cs, j2⟩ := q
          rw [eL] at e2
          cases e2
          obtain ⟨r1, r1b, r2⟩ := l8 j cs _ rfl eL
          refine ⟨by omega, by omega, ?_⟩
          have k := rTr.keep (l3.at N) (Nat.le_refl _) l4a l4b l4c (Nat.le_refl _) _ _ _ _ o14
          cases cs with
          | leaf =>
            have : y = x := r2 0 (Nat.zero_le _)
            subst this
            exact k
          | inner g d' u a b => exact ⟨x, k, r2 N o13b.1⟩
/-- the loop of condition -/
theorem q_conditionL (hf : lFacts κ ks sz) (hT : 2010 ≤ T) (hm : 2 ≤ m) (hG : ∀ s τ N S P, rR T len cnt kk pp ee f d τ N S P A C s → rEn N S P s → ∃ v τ', zF h0 qs ks T m 22 [.ref h0] τ = some (some (.int v), τ') ∧ rPc T len cnt kk pp ee f d A C τ N S P s G z v τ') : ∀ (t : Nat) (s : Sum Nat Nat) (τ : zSt) (N S P x : Nat), 0 < t → (∀ i, s = .inr i → cnt < i + t) → rR T len cnt kk pp ee f d τ N S P A C s → rEn N S P s → x < 2100 → (∀ i, s = .inr i → x < N) → ∃ v τ', l_condition_5 T (zF h0 qs ks T m) h0 qs ks t (nI x) τ = some (some (.int v), τ') ∧ ∃ N' S' P' y, rR T len cnt kk pp ee f d τ' N' S' P' A C (aTo s (aCL kk 303 G t)) ∧ rAg N S P A C τ τ' ∧ (N ≤ N' ∧ S ≤ S' ∧ P ≤ P') ∧ (N' + aPo cnt s ≤ N + aPo cnt (aTo s (aCL kk 303 G t)) + bz (aTo s (aCL kk 303 G t)) z ∧ S' + aPo cnt s ≤ S + aPo cnt (aTo s (aCL kk 303 G t)) + bz (aTo s (aCL kk 303 G t)) 2 ∧ P' + aPo cnt s ≤ P + aPo cnt (aTo s (aCL kk 303 G t))) ∧ (∀ j, s = .inl j → N' = N ∧ S' = S ∧ P' = P) ∧ (v = nI y ∧ y < 2100) ∧ (∀ i t' j, s = .inr i → aCL kk 303 G t i = .inr (t', j) → i ≤ j ∧ (x ≤ y ∧ y < N') ∧ ∀ lo, lo ≤ x → rTr pp τ' lo N' S' P' A t' 20 x y)
  | 0, _, _, _, _, _, _, h, _, _, _, _, _ => absurd h (Nat.lt_irrefl 0)
  | t + 1, s, τ, N, S, P, x, _, ht, h, hE, hx, hxN => by
    obtain ⟨b1, g1, q1⟩ := q_here (h0 := h0) (qs := qs) (ks := ks) (m := m) hf hT h (show (615, "||", 303) ∈ zKp by decide) (by omega)
    have hcn := h.1.cn
    rw [l_condition_5, g1]
    simp only [zci]
    cases b1 with
    | false =>
      rw [if_pos (show b01 false = 0 from rfl)]
      have eT : aTo s (aCL kk 303 G (t + 1)) = s := by
        cases s with
        | inl j => rfl
        | inr i =>
          have c : false = aIs kk 303 i := q1
          rw [aTo_ok, aCL, ← c]
          rfl
      rw [eT]
      refine ⟨_, τ, rfl, N, S, P, x, h, rAg.rf τ, ⟨Nat.le_refl _, Nat.le_refl _, Nat.le_refl _⟩, ⟨by omega, by omega, by omega⟩, fun _ _ => ⟨rfl, rfl, rfl⟩, ⟨rfl, hx⟩, fun i t' j e e' => ?_⟩
      subst e
      have c : false = aIs kk 303 i := q1
      rw [aCL, ← c] at e'
      cases e'
      exact ⟨Nat.le_refl _, ⟨Nat.le_refl _, hxN i rfl⟩, fun lo _ => rfl⟩
    | true =>
      rw [if_neg (show ¬ b01 true = 0 by decide)]
      cases s with
      | inl j => cases q1
      | inr i =>
        have c : aIs kk 303 i = true := q1.symm
        have hlt := h.1.lt h.2.2.2.2 (by decide) c
        obtain ⟨n1, n2, n3⟩ := hE i rfl
        have hx' := hxN i rfl
        have ht' := ht i rfl
        obtain ⟨τ1, f1, f2, f3, f4, f5, f6⟩ := q_node (h0 := h0) (qs := qs) (ks := ks) (m := m) h (show N < 2100 by omega) (by omega) 20 (τ.2.2.1 7 x)
        obtain ⟨k1, k2⟩ := f2.nx hlt
        have w10 : τ1.1 10 = nI i := f2.2.2.2.1
        simp only [zgd, zlet, zin_n hx (show 2100 < 2 ^ 31 by decide), zin_n (show N < 2100 by omega) (show 2100 < 2 ^ 31 by decide), if_true, nI_clamp (show x < 2 ^ 31 by omega), nI_clamp (show N < 2 ^ 31 by omega), f1, w10, nI_1]
        -- x1 of the new node
        have k3 := k1.a (upd ((zI τ1 10 (nI (i + 1))).2.2.1 9) N (nI x)) (show 6 ≤ 9 by omega)
        have k4 : rAg N S P A C τ (zA (zI τ1 10 (nI (i + 1))) 9 (upd ((zI τ1 10 (nI (i + 1))).2.2.1 9) N (nI x))) := (f3.tr k2 (Nat.le_succ _) (Nat.le_refl _) (Nat.le_refl _) (Nat.le_refl _) (Nat.le_refl _)).a (rFz.n6 (by omega) (by omega) (Nat.le_refl N))
        have v0 : nV (zA (zI τ1 10 (nI (i + 1))) 9 (upd ((zI τ1 10 (nI (i + 1))).2.2.1 9) N (nI x))) N 0 = nI 20 := by
          show (zA (zI τ1 10 (nI (i + 1))) 9 (upd ((zI τ1 10 (nI (i + 1))).2.2.1 9) N (nI x))).2.2.1 6 N = nI 20
          rw [zAn _ _ (by decide)]; exact f4
        have v1 : nV (zA (zI τ1 10 (nI (i + 1))) 9 (upd ((zI τ1 10 (nI (i + 1))).2.2.1 9) N (nI x))) N 1 = nV τ x 1 := by
          show (zA (zI τ1 10 (nI (i + 1))) 9 (upd ((zI τ1 10 (nI (i + 1))).2.2.1 9) N (nI x))).2.2.1 7 N = τ.2.2.1 7 x
          rw [zAn _ _ (by decide)]; exact f5
        have v3 : nV (zA (zI τ1 10 (nI (i + 1))) 9 (upd ((zI τ1 10 (nI (i + 1))).2.2.1 9) N (nI x))) N 3 = nI x := by
          show (zA (zI τ1 10 (nI (i + 1))) 9 (upd ((zI τ1 10 (nI (i + 1))).2.2.1 9) N (nI x))).2.2.1 9 N = nI x
          rw [zAe, upd_at]
        generalize zA (zI τ1 10 (nI (i + 1))) 9 (upd ((zI τ1 10 (nI (i + 1))).2.2.1 9) N (nI x)) = τ2 at k3 k4 v0 v1 v3 ⊢
        obtain ⟨v, τ3, g2, N1, S1, P1, x1, o1, o2, ⟨o3, o4, o5⟩, ⟨o6, o7, o8⟩, -, ⟨o9, o10⟩, o11⟩ := hG (.inr (i + 1)) τ2 (N + 1) S P k3 (fun i' e => by cases e; omega)
        rw [g2]
        simp only
        subst o9
        -- x2 of the new node
        have p1 := o1.a (upd (τ3.2.2.1 10) N (nI x1)) (show 6 ≤ 10 by omega)
        have p2 : rAg N S P A C τ (zA τ3 10 (upd (τ3.2.2.1 10) N (nI x1))) := (k4.tr o2 (Nat.le_succ _) (Nat.le_refl _) (Nat.le_refl _) (Nat.le_refl _) (Nat.le_refl _)).a (rFz.n6 (by omega) (by omega) (Nat.le_refl N))
        have p3 : rAt (N + 1) N1 S1 P1 A τ3 (zA τ3 10 (upd (τ3.2.2.1 10) N (nI x1))) := rAt_zA τ3 _ (by omega) (by omega) (Or.inl (by omega))
        have w0 : nV τ3 N = nV τ2 N := (o2.at 0).1 N (by omega) (by omega)
        have u0 : nV (zA τ3 10 (upd (τ3.2.2.1 10) N (nI x1))) N 0 = nI 20 := by
          rw [← v0, ← w0]
          show (zA τ3 10 (upd (τ3.2.2.1 10) N (nI x1))).2.2.1 6 N = τ3.2.2.1 6 N
          rw [zAn _ _ (by decide)]
        have u1 : nV (zA τ3 10 (upd (τ3.2.2.1 10) N (nI x1))) N 1 = nV τ x 1 := by
          rw [← v1, ← w0]
          show (zA τ3 10 (upd (τ3.2.2.1 10) N (nI x1))).2.2.1 7 N = τ3.2.2.1 7 N
          rw [zAn _ _ (by decide)]
        have u3 : nV (zA τ3 10 (upd (τ3.2.2.1 10) N (nI x1))) N 3 = nI x := by
          rw [← v3, ← w0]
          show (zA τ3 10 (upd (τ3.2.2.1 10) N (nI x1))).2.2.1 9 N = τ3.2.2.1 9 N
          rw [zAn _ _ (by decide)]
        have u4 : nV (zA τ3 10 (upd (τ3.2.2.1 10) N (nI x1))) N 4 = nI x1 := by
          show (zA τ3 10 (upd (τ3.2.2.1 10) N (nI x1))).2.2.1 10 N = nI x1
          rw [zAe, upd_at]
        generalize zA τ3 10 (upd (τ3.2.2.1 10) N (nI x1)) = τ4 at p1 p2 p3 u0 u1 u3 u4 ⊢
        have eS : aCL kk 303 G (t + 1) i = (G (i + 1)).on fun c j => (aCL kk 303 G t j).on fun cs j' => .inr (tN 30 0 0 0 s0 s0 c cs, j') := by rw [aCL, if_pos c]
        have eT : aTo (.inr i) (aCL kk 303 G (t + 1)) = aTo (aTo (.inr (i + 1)) G) (aCL kk 303 G t) := by
          rw [aTo_ok, eS, aTo_ok]
          cases G (i + 1) with
          | inl j => rfl
          | inr r =>
            obtain ⟨c, j⟩ := r
            show ((aCL kk 303 G t j).on fun cs j' => (Sum.inr (tN 30 0 0 0 s0 s0 c cs, j') : aR tT)).st = (aCL kk 303 G t j).st
            cases aCL kk 303 G t j <;> rfl
        have hpo := p1.po
        cases eg : G (i + 1) with
        | inl j =>
          have e5 : aTo (.inr (i + 1)) G = .inl j := by rw [aTo_ok, eg]; rfl
          rw [e5] at p1 o6 o7 o8 eT
          obtain ⟨v', τ5, l1, N2, S2, P2, y, l2, l3, l4, l5, l6, l7, -⟩ := q_conditionL hf hT hm hG t (.inl j) τ4 N1 S1 P1 N (by omega) (fun i' e => by cases e) p1 (fun i' e => by cases e) (by omega) (fun i' e => by cases e)
          obtain ⟨rfl, rfl, rfl⟩ := l6 j rfl
          rw [eT]
          have o6' : N2 + (i + 1) ≤ N + 1 + cnt + z := o6
          have o7' : S2 + (i + 1) ≤ S + cnt + 2 := o7
          have o8' : P2 + (i + 1) ≤ P + cnt := o8
          refine ⟨v', τ5, l1, N2, S2, P2, y, l2, p2.tr l3 (by omega) o4 o5 (Nat.le_refl _) (Nat.le_refl _), ⟨by omega, o4, o5⟩, ⟨?_, ?_, ?_⟩, fun j e => (by cases e), l7, fun i' t' j' e e' => ?_⟩
          · show N2 + i ≤ N + cnt + z; omega
          · show S2 + i ≤ S + cnt + 2; omega
          · show P2 + i ≤ P + cnt; omega
          · cases e
            rw [eS, eg] at e'
            cases e'
        | inr r =>
          obtain ⟨c', j⟩ := r
          have e5 : aTo (.inr (i + 1)) G = .inr j := by rw [aTo_ok, eg]; rfl
          obtain ⟨o12, o12b, o13⟩ := o11 (i + 1) c' j rfl eg
          rw [e5] at p1 o6 o7 o8 eT hpo
          have o6' : N1 + (i + 1) ≤ N + 1 + j + 0 := o6
          have o7' : S1 + (i + 1) ≤ S + j + 0 := o7
          have o8' : P1 + (i + 1) ≤ P + j := o8
          have hj : j ≤ cnt := hpo
          obtain ⟨v', τ5, l1, N2, S2, P2, y, l2, l3, ⟨l4a, l4b, l4c⟩, ⟨l5a, l5b, l5c⟩, -, l7, l8⟩ := q_conditionL hf hT hm hG t (.inr j) τ4 N1 S1 P1 N (by omega) (fun i' e => by cases e; omega) p1 (fun i' e => by cases e; omega) (by omega) (fun i' e => by omega)
          rw [eT]
          have l5a' : N2 + j ≤ N1 + aPo cnt (aTo (.inr j) (aCL kk 303 G t)) + bz (aTo (.inr j) (aCL kk 303 G t)) z := l5a
          have l5b' : S2 + j ≤ S1 + aPo cnt (aTo (.inr j) (aCL kk 303 G t)) + bz (aTo (.inr j) (aCL kk 303 G t)) 2 := l5b
          have l5c' : P2 + j ≤ P1 + aPo cnt (aTo (.inr j) (aCL kk 303 G t)) := l5c
          refine ⟨v', τ5, l1, N2, S2, P2, y, l2, p2.tr l3 (by omega) o4 o5 (Nat.le_refl _) (Nat.le_refl _), ⟨by omega, by omega, by omega⟩, ⟨?_, ?_, ?_⟩, fun j e => (by cases e), l7, fun i' t' j' e e' => ?_⟩
          · show N2 + i ≤ _; omega
          · show S2 + i ≤ _; omega
          · show P2 + i ≤ _; omega
          · cases e
            rw [eS, eg] at e'
            have e2 : ((aCL kk 303 G t j).on fun cs j' => (Sum.inr (tN 30 0 0 0 s0 s0 c' cs, j') : aR tT)) = .inr (t', j') := e'
            cases eL : aCL kk 303 G t j with
            | inl q => rw [eL] at e2; cases e2
            | inr q =>
              obtain ⟨cs, j2⟩ := q
              rw [eL] at e2
              cases e2
              obtain ⟨r1, r1b, r2⟩ := l8 j cs _ rfl eL
              refine ⟨by omega, by omega, fun lo hlo => ?_⟩
              have hN1 : nV τ5 N = nV τ4 N := (l3.at 0).1 N (by omega) (by omega)
              have hx1 : nV τ5 x = nV τ x := ((p2.at 0).1 x (by omega) hx') ▸ (l3.at 0).1 x (by omega) (by omega)
              refine ⟨N, x1, ⟨⟨by omega, by omega⟩, by omega, by omega⟩, ⟨?_, ?_, ?_, ?_⟩, ?_, r2 lo (by omega)⟩
              · rw [hN1]; exact u0
              · rw [hN1, hx1]; exact u1
              · rw [hN1]; exact u3
              · rw [hN1]; exact u4
              · exact rTr.keep (p3.tr (l3.at (N + 1))) (by omega) (by omega) (by omega) (by omega) (Nat.le_refl _) _ _ _ _ o13
/-- condition(), over a reading of one -/
theorem q_condition (hf : lFacts κ ks sz) (hT : 2010 ≤ T) (hm : 3 ≤ m) (hG : ∀ s τ N S P, rR T len cnt kk pp ee f d τ N S P A C s → rEn N S P s → ∃ v τ', zF h0 qs ks T (m - 1) 22 [.ref h0] τ = some (some (.int v), τ') ∧ rPc T len cnt kk pp ee f d A C τ N S P s G z v τ') (h : rR T len cnt kk pp ee f d τ N S P A C s) (hE : rEn N S P s) : ∃ v τ', zF h0 qs ks T m 23 [.ref h0] τ = some (some (.int v), τ') ∧ rPc T len cnt kk pp ee f d A C τ N S P s (aLp kk T 303 20 G) z v τ' := by
  obtain ⟨n, rfl⟩ : ∃ n, m = n + 1 := ⟨m - 1, by omega⟩
  have hcn := h.1.cn
  rw [Nat.add_sub_cancel] at hG
  obtain ⟨v, τ1, g1, N1, S1, P1, x, o1, o2, ⟨o3, o4, o5⟩, ⟨o6, o7, o8⟩, o12, ⟨rfl, o10⟩, o11⟩ := hG s τ N S P h hE
  rw [zE_condition]
  unfold b_condition
  rw [g1]
  simp only [zci]
  have hpo := o1.po
  cases s with
  | inl j =>
    obtain ⟨rfl, rfl, rfl⟩ := o12 j rfl
    obtain ⟨v', τ2, l1, N2, S2, P2, y, l2, l3, l4, l5, l6, l7, -⟩ := q_conditionL (h0 := h0) (qs := qs) (ks := ks) (m := n) hf hT (by omega) hG T (.inl j) τ1 N1 S1 P1 x (by omega) (fun i e => by cases e) o1 (fun i e => by cases e) o10 (fun i e => by cases e)
    obtain ⟨rfl, rfl, rfl⟩ := l6 j rfl
    exact ⟨v', τ2, l1, N2, S2, P2, y, l2, o2.tr l3 (Nat.le_refl _) (Nat.le_refl _) (Nat.le_refl _) (Nat.le_refl _) (Nat.le_refl _), l4, l5, fun _ _ => ⟨rfl, rfl, rfl⟩, l7, fun i t j e => by cases e⟩
  | inr i =>
    obtain ⟨n1, n2, n3⟩ := hE i rfl
    have hi := h.2.2.2.2
    cases eg : G i with
    | inl j =>
      have e5 : aTo (.inr i) G = .inl j := by rw [aTo_ok, eg]; rfl
      have eT : aTo (.inr i) (aLp kk T 303 20 G) = .inl j := by
        rw [aTo_ok]
        unfold aLp
        rw [eg]
        rfl
      rw [e5] at o1 o6 o7 o8
      obtain ⟨v', τ2, l1, N2, S2, P2, y, l2, l3, l4, l5, l6, l7, -⟩ := q_conditionL (h0 := h0) (qs := qs) (ks := ks) (m := n) hf hT (by omega) hG T (.inl j) τ1 N1 S1 P1 x (by omega) (fun i e => by cases e) o1 (fun i e => by cases e) o10 (fun i e => by cases e)
      obtain ⟨rfl, rfl, rfl⟩ := l6 j rfl
      refine ⟨v', τ2, l1, N2, S2, P2, y, ?_⟩
      rw [eT]
      refine ⟨l2, o2.tr l3 o3 o4 o5 (Nat.le_refl _) (Nat.le_refl _), ⟨o3, o4, o5⟩, ⟨o6, o7, o8⟩, fun j e => (by cases e), l7, fun i' t j' e e' => ?_⟩
      cases e
      unfold aLp at e'
      rw [eg] at e'
      cases e'
    | inr r =>
      obtain ⟨c, j⟩ := r
      have e5 : aTo (.inr i) G = .inr j := by rw [aTo_ok, eg]; rfl
      have eT : aTo (.inr i) (aLp kk T 303 20 G) = aTo (.inr j) (aCL kk 303 G T) := by
        rw [aTo_ok, aTo_ok]
        unfold aLp
        rw [eg]
        show ((aCL kk 303 G T j).on fun cs j' => (Sum.inr (tMk 20 c cs, j') : aR tT)).st = _
        cases aCL kk 303 G T j <;> rfl
      rw [e5] at o1 o6 o7 o8 hpo
      obtain ⟨o13, o13b, o14⟩ := o11 i c j rfl eg
      have o6' : N1 + i ≤ N + j + 0 := o6
      have o7' : S1 + i ≤ S + j + 0 := o7
      have o8' : P1 + i ≤ P + j := o8
      have hj : j ≤ cnt := hpo
      have hxN : x < N1 := o13b.2
      obtain ⟨v', τ2, l1, N2, S2, P2, y, l2, l3, ⟨l4a, l4b, l4c⟩, ⟨l5a, l5b, l5c⟩, -, l7, l8⟩ := q_conditionL (h0 := h0) (qs := qs) (ks := ks) (m := n) hf hT (by omega) hG T (.inr j) τ1 N1 S1 P1 x (by omega) (fun i e => by cases e; omega) o1 (fun i e => by cases e; omega) o10 (fun i e => hxN)
      have l5a' : N2 + j ≤ N1 + aPo cnt (aTo (.inr j) (aCL kk 303 G T)) + bz (aTo (.inr j) (aCL kk 303 G T)) z := l5a
      have l5b' : S2 + j ≤ S1 + aPo cnt (aTo (.inr j) (aCL kk 303 G T)) + bz (aTo (.inr j) (aCL kk 303 G T)) 2 := l5b
      have l5c' : P2 + j ≤ P1 + aPo cnt (aTo (.inr j) (aCL kk 303 G T)) := l5c
      refine ⟨v', τ2, l1, N2, S2, P2, y, ?_⟩
      rw [eT]
      refine ⟨l2, o2.tr l3 o3 o4 o5 (Nat.le_refl _) (Nat.le_refl _), ⟨by omega, by omega, by omega⟩, ⟨?_, ?_, ?_⟩, fun j e => (by cases e), l7, fun i' t j' e e' => ?_⟩
      · show N2 + i ≤ _; omega
      · show S2 + i ≤ _; omega
      · show P2 + i ≤ _; omega
      · cases e
        unfold aLp at e'
        rw [eg] at e'
        have e2 : ((aCL kk 303 G T j).on fun cs j' => (Sum.inr (tMk 20 c cs, j') : aR tT)) = .inr (t, j') := e'
        cases eL : aCL kk 303 G T j with
        | inl q => rw [eL] at e2; cases e2
        | inr q =>
          obtain ⟨cs, j2⟩ := q
          rw [eL] at e2
          cases e2
          obtain ⟨r1, r1b, r2⟩ := l8 j cs _ rfl eL
          refine ⟨by omega, by omega, ?_⟩
          have k := rTr.keep (l3.at N) (Nat.le_refl _) l4a l4b l4c (Nat.le_refl _) _ _ _ _ o14
          cases cs with
          | leaf =>
            have : y = x := r2 0 (Nat.zero_le _)
            subst this
            exact k
          | inner g d' u a b => exact ⟨x, k, r2 N o13b.1⟩
end RBO
