/-! the reference: single by levels -/
theorem bz_to {α : Type} (s : Sum Nat Nat) (F : Nat → aR α) (z : Nat) : bz s z ≤ bz (aTo s F) z := by
  cases s with
  | inl j => exact Nat.le_refl _
  | inr i => exact Nat.zero_le _
theorem bz_mo (s : Sum Nat Nat) {z z' : Nat} (h : z ≤ z') : bz s z ≤ bz s z' := by
  cases s with
  | inl j => exact h
  | inr i => exact Nat.le_refl _
theorem bz_le (s : Sum Nat Nat) (z : Nat) : bz s z ≤ z := by
  cases s with
  | inl j => exact Nat.le_refl _
  | inr i => exact Nat.zero_le _
/-- a must goes on -/
theorem aMs_po {T len cnt d N S P A C k : Nat} {kk pp ee f : Nat → Int32} {τ : zSt} {s : Sum Nat Nat} (h : rR T len cnt kk pp ee f d τ N S P A C (aTo s (aMs kk k))) : aPo cnt s ≤ aPo cnt (aTo s (aMs kk k)) := by
  cases s with
  | inl j => exact Nat.le_refl _
  | inr i =>
    rw [aTo_ok] at h ⊢
    unfold aMs at h ⊢
    by_cases c : aIs kk k i = true
    · rw [if_pos c]; show i ≤ i + 1; omega
    · rw [if_neg c] at h ⊢
      show i ≤ cnt
      exact h.2.2.2.2.1
section RSJ
variable {κ : oKv} {ks : Nat → Nat} {qs : List Nat} {T m h0 len cnt sz d N S P A C z : Nat} {τ : zSt} {s : Sum Nat Nat} {kk pp ee f : Nat → Int32}
/-- true or false here -/
theorem q_s171 (hf : lFacts κ ks sz) (hT : 2010 ≤ T) {i : Nat} (hm : 2 ≤ m) (h : rR T len cnt kk pp ee f d τ N S P A C (.inr i)) (hE : rEn N S P (.inr i)) (c : aIs kk 223 i = true ∨ (aIs kk 223 i = false ∧ aIs kk 205 i = true)) : ∃ v τ', j_single_171 T (zF h0 qs ks T m) h0 qs ks (pp i) τ = some (some (.int v), τ') ∧ rPc T len cnt kk pp ee f d A C τ N S P (.inr i) (fun i => .inr (tN 23 i (if aIs kk 223 i = true then 1 else 0) 0 s0 s0 tZ tZ, i + 1)) z v τ' := by
  have hcn := h.1.cn
  have hi := h.2.2.2.2
  obtain ⟨n1, n2, n3⟩ := hE i rfl
  have hlt : i < cnt := by
    cases c with
    | inl c => exact h.1.lt hi (by decide) c
    | inr c => exact h.1.lt hi (by decide) c.2
  obtain ⟨τ1, f1, f2, f3, f4, f5, f6⟩ := q_node (h0 := h0) (qs := qs) (ks := ks) (m := m) h (show N < 2100 by omega) (by omega) 23 (pp i)
  obtain ⟨b1, g1, q1⟩ := q_here (h0 := h0) (qs := qs) (ks := ks) (m := m) hf hT f2 (show (578, "true", 223) ∈ zKp by decide) (by omega)
  unfold j_single_171
  simp only [f1, g1, zci]
  have e0 : (if b01 b1 = 0 then j_single_199 T (zF h0 qs ks T m) h0 qs ks (nI N) (nI N) 0 τ1 else j_single_199 T (zF h0 qs ks T m) h0 qs ks (nI N) (nI N) 1 τ1) = j_single_199 T (zF h0 qs ks T m) h0 qs ks (nI N) (nI N) (nI (if aIs kk 223 i = true then 1 else 0)) τ1 := by
    have q1' : b1 = aIs kk 223 i := q1
    rw [q1']
    by_cases c1 : aIs kk 223 i = true
    · rw [c1]; rfl
    · rw [eq_false_of_ne_true c1]; rfl
  rw [e0]
  unfold j_single_199
  have w10 : τ1.1 10 = nI i := f2.2.2.2.1
  simp only [zgd, zlet, zin_n (show N < 2100 by omega) (show 2100 < 2 ^ 31 by decide), if_true, nI_clamp (show N < 2 ^ 31 by omega), zA1, w10, nI_1]
  generalize htv : (if aIs kk 223 i = true then 1 else 0) = tv
  obtain ⟨k1, k2⟩ := (f2.a (upd (τ1.2.2.1 9) N (nI tv)) (show 6 ≤ 9 by omega)).nx hlt
  refine ⟨_, _, rfl, N + 1, S, P, N, k1, ?_, ⟨by omega, by omega, by omega⟩, ⟨?_, ?_, ?_⟩, fun j e => (by cases e), ⟨rfl, by omega⟩, fun i' t j e e' => ?_⟩
  · exact (f3.a (rFz.n6 (by omega) (by omega) (Nat.le_refl N))).tr k2 (by omega) (Nat.le_refl _) (Nat.le_refl _) (Nat.le_refl _) (Nat.le_refl _)
  · show N + 1 + i ≤ N + (i + 1) + 0; omega
  · show S + i ≤ S + (i + 1) + 0; omega
  · show P + i ≤ P + (i + 1); omega
  · cases e
    cases e'
    refine ⟨by omega, ⟨Nat.le_refl _, by omega⟩, ⟨⟨Nat.le_refl _, by omega⟩, ?_, ?_⟩, ?_⟩
    · show (zA τ1 9 (upd (τ1.2.2.1 9) N (nI tv))).2.2.1 6 N = 23
      rw [zAn _ _ (by decide)]; exact f4
    · show (zA τ1 9 (upd (τ1.2.2.1 9) N (nI tv))).2.2.1 7 N = pp i
      rw [zAn _ _ (by decide)]; exact f5
    · show (zA τ1 9 (upd (τ1.2.2.1 9) N (nI tv))).2.2.1 9 N = nI (if aIs kk 223 i = true then 1 else 0)
      rw [htv, zAe, upd_at]
/-- behind not or ( -/
theorem q_s39 (hf : lFacts κ ks sz) (hT : 2010 ≤ T) {i k : Nat} (hm : 8 + 3 * k ≤ m) (hd : d + k = 30) (h : rR T len cnt kk pp ee f d τ N S P A C (.inr i)) (hE : rEn N S P (.inr i)) (c : aIs kk 217 i = true ∨ (aIs kk 217 i = false ∧ aIs kk 40 i = true))
    (IH : ∀ k', k = k' + 1 → ∀ (s : Sum Nat Nat) (τ : zSt) (N S P m : Nat), 9 + 3 * k' ≤ m → rR T len cnt kk pp ee f (d + 1) τ N S P A C s → rEn N S P s → ∃ v τ', zF h0 qs ks T m 24 [.ref h0] τ = some (some (.int v), τ') ∧ rPc T len cnt kk pp ee f (d + 1) A C τ N S P s (aSi kk T (k' + 1)) (1 + k') v τ') :
    ∃ v τ', j_single_39 T (zF h0 qs ks T m) h0 qs ks (pp i) τ = some (some (.int v), τ') ∧ rPc T len cnt kk pp ee f d A C τ N S P (.inr i) (fun i => if aIs kk 217 i = true then (aSi kk T k (i + 1)).on fun c j => .inr (tN 22 i 0 0 s0 s0 c tZ, j) else (aEi kk T (aSi kk T k) (i + 1)).on fun c j => (aMs kk 41 j).on fun _ j' => .inr (c, j')) (1 + k) v τ' := by
  have hcn := h.1.cn
  have hi := h.2.2.2.2
  obtain ⟨n1, n2, n3⟩ := hE i rfl
  have hlt : i < cnt := by
    cases c with
    | inl c => exact h.1.lt hi (by decide) c
    | inr c => exact h.1.lt hi (by decide) c.2
  obtain ⟨b1, g1, q1⟩ := q_here (h0 := h0) (qs := qs) (ks := ks) (m := m) hf hT h (show (622, "not", 217) ∈ zKp by decide) (by omega)
  have q1' : b1 = aIs kk 217 i := q1
  unfold j_single_39
  simp only [g1, zci, zlet]
  obtain ⟨τ1, s1, d1, d2, d3, d4, d5⟩ := q_deep (h0 := h0) (qs := qs) (ks := ks) (m := m) (k := k) h hlt hd (by omega) (j_single_80 T (zF h0 qs ks T m) h0 qs ks (pp i) (b01 b1))
  rw [d1]
  have hE1 : rEn N S P s1 := fun i' e => by
    by_cases c0 : k = 0
    · rw [d4 c0] at e; cases e
    · rw [d5 (by omega)] at e; cases e; omega
  have hpo1 : aPo cnt s1 = i + 1 ∨ aPo cnt s1 = cnt := by
    by_cases c0 : k = 0
    · rw [d4 c0]; exact Or.inr rfl
    · rw [d5 (by omega)]; exact Or.inl rfl
  -- what is read one level deeper
  have M : ∀ (num : Nat) (F : Nat → aR tT), (num = 24 ∧ F = aSi kk T k ∨ num = 23 ∧ F = aEi kk T (aSi kk T k)) → ∃ v τ', zF h0 qs ks T m num [.ref h0] τ1 = some (some (.int v), τ') ∧ rPc T len cnt kk pp ee f (d + 1) A C τ1 N S P s1 F k v τ' ∧ aTo s1 F = aTo (.inr (i + 1)) F := fun num F hF => by
    by_cases c0 : k = 0
    · have es := d4 c0
      subst es
      have B22 : ∀ m, 3 ≤ m → zF h0 qs ks T m 22 [.ref h0] τ1 = some (some (.int 0), τ1) := fun m hm => by
        obtain ⟨n, rfl⟩ : ∃ n, m = n + 1 := ⟨m - 1, by omega⟩
        obtain ⟨b, e1, e2⟩ := q_here (h0 := h0) (qs := qs) (ks := ks) (m := n) hf hT d2 (show (620, "&&", 302) ∈ zKp by decide) (by omega)
        obtain ⟨T', hT'⟩ : ∃ T', T = T' + 1 := ⟨T - 1, by omega⟩
        rw [zE_both]
        unfold b_both
        rw [q_singleB (h0 := h0) (qs := qs) (ks := ks) d2 (by omega)]
        simp only [zci]
        rw [show l_both_5 T (zF h0 qs ks T n) h0 qs ks T 0 τ1 = l_both_5 T (zF h0 qs ks T n) h0 qs ks (T' + 1) 0 τ1 by rw [← hT'], l_both_5, e1]
        subst e2
        rfl
      have B23 : ∀ m, 4 ≤ m → zF h0 qs ks T m 23 [.ref h0] τ1 = some (some (.int 0), τ1) := fun m hm => by
        obtain ⟨n, rfl⟩ : ∃ n, m = n + 1 := ⟨m - 1, by omega⟩
        obtain ⟨b, e1, e2⟩ := q_here (h0 := h0) (qs := qs) (ks := ks) (m := n) hf hT d2 (show (615, "||", 303) ∈ zKp by decide) (by omega)
        obtain ⟨T', hT'⟩ : ∃ T', T = T' + 1 := ⟨T - 1, by omega⟩
        rw [zE_condition]
        unfold b_condition
        rw [B22 n (by omega)]
        simp only [zci]
        rw [show l_condition_5 T (zF h0 qs ks T n) h0 qs ks T 0 τ1 = l_condition_5 T (zF h0 qs ks T n) h0 qs ks (T' + 1) 0 τ1 by rw [← hT'], l_condition_5, e1]
        subst e2
        rfl
      subst c0
      rcases hF with ⟨rfl, rfl⟩ | ⟨rfl, rfl⟩
      · exact ⟨0, τ1, q_singleB (h0 := h0) (qs := qs) (ks := ks) d2 (by omega), rPc.b d2, rfl⟩
      · exact ⟨0, τ1, B23 m (by omega), rPc.b d2, rfl⟩
    · obtain ⟨k', rfl⟩ : ∃ k', k = k' + 1 := ⟨k - 1, by omega⟩
      have es := d5 (by omega)
      subst es
      rcases hF with ⟨rfl, rfl⟩ | ⟨rfl, rfl⟩
      · obtain ⟨v, τ', e1, e2⟩ := IH k' rfl (.inr (i + 1)) τ1 N S P m (by omega) d2 hE1
        exact ⟨v, τ', e1, e2.mo (by omega), rfl⟩
      · obtain ⟨v, τ', e1, e2⟩ := q_condition (h0 := h0) (qs := qs) (ks := ks) (m := m) (G := aLp kk T 302 21 (aSi kk T (k' + 1))) (z := 1 + k') hf hT (by omega) (fun s τ N S P a b => by
          obtain ⟨v, τ', e1, e2⟩ := q_both (h0 := h0) (qs := qs) (ks := ks) (m := m - 1) (G := aSi kk T (k' + 1)) (z := 1 + k') hf hT (by omega) (fun s τ N S P a b => IH k' rfl s τ N S P (m - 1 - 1) (by omega) a b) a b
          exact ⟨v, τ', e1, e2⟩) d2 hE1
        exact ⟨v, τ', e1, rPc.mo e2 (by omega), rfl⟩
  have hb : b01 b1 = 0 ↔ aIs kk 217 i = false := by rw [q1']; exact b01_0
  unfold j_single_80
  cases hb1 : aIs kk 217 i with
  | false =>
    rw [hb1] at q1'
    subst q1'
    rw [if_pos (show b01 false = 0 from rfl)]
    obtain ⟨v, τ2, e1, ⟨N2, S2, P2, x, o1, o2, ⟨o3, o4, o5⟩, ⟨o6, o7, o8⟩, -, ⟨rfl, o10⟩, o11⟩, eF⟩ := M 23 _ (Or.inr ⟨rfl, rfl⟩)
    rw [e1]
    simp only [zci]
    unfold j_single_95
    have w33 : τ2.1 33 = nI (d + 1) := o1.2.1.1
    simp only [zlet, w33]
    rw [nI_pred, if_pos (show b01 false = 0 from rfl)]
    have p1 := o1.dp d
    have p2 : rAg N2 S2 P2 A C τ2 (zI τ2 33 (nI d)) := (rAg.rf τ2).i (by omega)
    obtain ⟨τ3, f1, f2, f3⟩ := q_must (h0 := h0) (qs := qs) (ks := ks) (m := m) hf hT p1 (show (584, ")", 41) ∈ zKp by decide) (by omega)
    rw [f1]
    simp only [zcv, zgd, zlet, zin_n o10 (show 2100 < 2 ^ 31 by decide), if_true, nI_clamp (show x < 2 ^ 31 by omega), zA_sf]
    have ee : aTo (.inr i) (fun i => if aIs kk 217 i = true then (aSi kk T k (i + 1)).on fun c j => (Sum.inr (tN 22 i 0 0 s0 s0 c tZ, j) : aR tT) else (aEi kk T (aSi kk T k) (i + 1)).on fun c j => (aMs kk 41 j).on fun _ j' => (Sum.inr (c, j') : aR tT)) = aTo (aTo s1 (aEi kk T (aSi kk T k))) (aMs kk 41) := by
      rw [eF, aTo_ok, aTo_ok, hb1, if_neg (by decide)]
      cases aEi kk T (aSi kk T k) (i + 1) with
      | inl j => rfl
      | inr r =>
        obtain ⟨c', j⟩ := r
        show ((aMs kk 41 j).on fun _ j' => (Sum.inr (c', j') : aR tT)).st = (aMs kk 41 j).st
        cases aMs kk 41 j <;> rfl
    have a23 := (d3.tr o2 (Nat.le_refl _) (Nat.le_refl _) (Nat.le_refl _) (Nat.le_refl _) (Nat.le_refl _)).tr (p2.tr f3 (Nat.le_refl _) (Nat.le_refl _) (Nat.le_refl _) (Nat.le_refl _) (Nat.le_refl _)) o3 o4 o5 (Nat.le_refl _) (Nat.le_refl _)
    have hm2 : aPo cnt (aTo s1 (aEi kk T (aSi kk T k))) ≤ aPo cnt (aTo (aTo s1 (aEi kk T (aSi kk T k))) (aMs kk 41)) := aMs_po f2
    have hb2 : bz (aTo s1 (aEi kk T (aSi kk T k))) k ≤ bz (aTo (aTo s1 (aEi kk T (aSi kk T k))) (aMs kk 41)) k := bz_to _ _ _
    have hb3 : bz (aTo s1 (aEi kk T (aSi kk T k))) 2 ≤ bz (aTo (aTo s1 (aEi kk T (aSi kk T k))) (aMs kk 41)) 2 := bz_to _ _ _
    have hb4 : bz (aTo (aTo s1 (aEi kk T (aSi kk T k))) (aMs kk 41)) k ≤ bz (aTo (aTo s1 (aEi kk T (aSi kk T k))) (aMs kk 41)) (1 + k) := bz_mo _ (by omega)
    refine ⟨_, τ3, rfl, N2, S2, P2, x, ?_⟩
    rw [ee]
    refine ⟨f2, a23, ⟨o3, o4, o5⟩, ⟨?_, ?_, ?_⟩, fun j e => (by cases e), ⟨rfl, o10⟩, fun i' t j e e' => ?_⟩
    · show N2 + i ≤ _; omega
    · show S2 + i ≤ _; omega
    · show P2 + i ≤ _; omega
    · cases e
      simp only [hb1] at e'
      rw [if_neg (by decide)] at e'
      cases eg : aEi kk T (aSi kk T k) (i + 1) with
      | inl q => rw [eg] at e'; cases e'
      | inr r =>
        obtain ⟨c', j1⟩ := r
        rw [eg] at e'
        have e2 : ((aMs kk 41 j1).on fun _ j' => (Sum.inr (c', j') : aR tT)) = .inr (t, j) := e'
        have hk : k ≠ 0 := fun e => by subst e; cases eg
        obtain ⟨l1, l2, l3⟩ := o11 (i + 1) c' j1 (d5 (by omega)) eg
        unfold aMs at e2
        by_cases c5 : aIs kk 41 j1 = true
        · rw [if_pos c5] at e2
          cases e2
          exact ⟨by omega, l2, rTr.keep ((p2.tr f3 (Nat.le_refl _) (Nat.le_refl _) (Nat.le_refl _) (Nat.le_refl _) (Nat.le_refl _)).at N) (Nat.le_refl _) (Nat.le_refl _) (Nat.le_refl _) (Nat.le_refl _) (Nat.le_refl _) _ _ _ _ l3⟩
        · rw [if_neg c5] at e2; cases e2
  | true =>
    rw [hb1] at q1'
    subst q1'
    rw [if_neg (show ¬ b01 true = 0 by decide)]
    obtain ⟨v, τ2, e1, ⟨N2, S2, P2, x, o1, o2, ⟨o3, o4, o5⟩, ⟨o6, o7, o8⟩, -, ⟨rfl, o10⟩, o11⟩, eF⟩ := M 24 _ (Or.inl ⟨rfl, rfl⟩)
    rw [e1]
    simp only [zci]
    unfold j_single_95
    have w33 : τ2.1 33 = nI (d + 1) := o1.2.1.1
    simp only [zlet, w33]
    rw [nI_pred, if_neg (show ¬ b01 true = 0 by decide)]
    have p1 := o1.dp d
    have p2 : rAg N2 S2 P2 A C τ2 (zI τ2 33 (nI d)) := (rAg.rf τ2).i (by omega)
    have hpo2 := o1.po
    have hz : bz (aTo s1 (aSi kk T k)) k ≤ k := bz_le _ _
    have hN2 : N2 < 2100 := by omega
    obtain ⟨τ3, f1, f2, f3, f4, f5, f6⟩ := q_node (h0 := h0) (qs := qs) (ks := ks) (m := m) p1 hN2 (by omega) 22 (pp i)
    rw [f1]
    simp only [zci, zgd, zlet, zin_n hN2 (show 2100 < 2 ^ 31 by decide), if_true, nI_clamp (show N2 < 2 ^ 31 by omega)]
    have ee : aTo (.inr i) (fun i => if aIs kk 217 i = true then (aSi kk T k (i + 1)).on fun c j => (Sum.inr (tN 22 i 0 0 s0 s0 c tZ, j) : aR tT) else (aEi kk T (aSi kk T k) (i + 1)).on fun c j => (aMs kk 41 j).on fun _ j' => (Sum.inr (c, j') : aR tT)) = aTo s1 (aSi kk T k) := by
      rw [eF, aTo_ok, aTo_ok, hb1, if_pos rfl]
      cases aSi kk T k (i + 1) <;> rfl
    have a23 := (d3.tr o2 (Nat.le_refl _) (Nat.le_refl _) (Nat.le_refl _) (Nat.le_refl _) (Nat.le_refl _)).tr (p2.tr f3 (Nat.le_refl _) (Nat.le_refl _) (Nat.le_refl _) (Nat.le_refl _) (Nat.le_refl _)) o3 o4 o5 (Nat.le_refl _) (Nat.le_refl _)
    refine ⟨_, _, rfl, N2 + 1, S2, P2, N2, ?_⟩
    rw [ee]
    refine ⟨f2.a _ (by omega), a23.a (rFz.n6 (by omega) (by omega) o3), ⟨by omega, o4, o5⟩, ⟨?_, ?_, ?_⟩, fun j e => (by cases e), ⟨rfl, hN2⟩, fun i' t j e e' => ?_⟩
    · show N2 + 1 + i ≤ _
      cases eg : aTo s1 (aSi kk T k) with
      | inl j =>
        rw [eg] at o6
        have o6' : N2 + aPo cnt s1 ≤ N + cnt + k := o6
        show N2 + 1 + i ≤ N + cnt + (1 + k)
        omega
      | inr j =>
        rw [eg] at o6
        have o6' : N2 + aPo cnt s1 ≤ N + j + 0 := o6
        have hs : aPo cnt s1 = i + 1 := by
          have hk : k ≠ 0 := fun e => by rw [d4 e] at eg; cases eg
          rw [d5 (by omega)]; rfl
        show N2 + 1 + i ≤ N + j + 0
        omega
    · show S2 + i ≤ _; omega
    · show P2 + i ≤ _; omega
    · cases e
      simp only [hb1] at e'
      rw [if_pos trivial] at e'
      cases eg : aSi kk T k (i + 1) with
      | inl q => rw [eg] at e'; cases e'
      | inr r =>
        obtain ⟨c', j1⟩ := r
        rw [eg] at e'
        cases e'
        have hk : k ≠ 0 := fun e => by subst e; cases eg
        obtain ⟨l1, l2, l3⟩ := o11 (i + 1) c' _ (d5 (by omega)) eg
        refine ⟨by omega, ⟨o3, by omega⟩, ⟨⟨o3, by omega⟩, ?_, ?_⟩, x, ?_, ?_⟩
        · show (zA τ3 9 (upd (τ3.2.2.1 9) N2 (nI x))).2.2.1 6 N2 = 22
          rw [zAn _ _ (by decide)]; exact f4
        · show (zA τ3 9 (upd (τ3.2.2.1 9) N2 (nI x))).2.2.1 7 N2 = pp i
          rw [zAn _ _ (by decide)]; exact f5
        · show (zA τ3 9 (upd (τ3.2.2.1 9) N2 (nI x))).2.2.1 9 N2 = nI x
          rw [zAe, upd_at]
        · exact rTr.keep (((p2.tr f3 (Nat.le_refl _) (Nat.le_refl _) (Nat.le_refl _) (Nat.le_refl _) (Nat.le_refl _)).at N).tr (rAt_zA τ3 _ (by omega) (by omega) (Or.inr (Nat.le_refl _)))) (Nat.le_refl _) (by omega) (Nat.le_refl _) (Nat.le_refl _) (Nat.le_refl _) _ _ _ _ l3
end RSJ
