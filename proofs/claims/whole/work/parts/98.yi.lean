/-! the reference reads the ARGS of a call -/
section RAS
variable {κ : oKv} {ks : Nat → Nat} {qs : List Nat} {T m h0 len cnt sz d N S P A C z i k zc : Nat} {τ τ0 : zSt} {s : Sum Nat Nat} {kk pp ee f : Nat → Int32} {G H : Nat → aR tT}
/-- what an ARG that was put down is good for: with its three numbers among the ARGS it makes a list longer by one -/
def rAr (pp : Nat → Int32) (n N S P A C : Nat) (τ : zSt) (e : tT → tT) : Prop := ∀ (τ' : zSt) (N' S' P' A' m0 : Nat), rAt (n + 1) N S P A τ τ' → N ≤ N' → S ≤ S' → P ≤ P' → A ≤ A' → m0 < A' → (∀ q, q < 3 → gV τ' m0 q = τ.2.2.1 29 (C + q)) → ∀ b m, rTr pp τ' n N' S' P' A' b 0 (m0 + 1) m → rTr pp τ' n N' S' P' A' (e b) 0 m0 m
set_option maxHeartbeats 1000000 in
/-- one ARG -/
theorem q_49 (hf : lFacts κ ks sz) (hT : 2010 ≤ T) (hm : 5 ≤ m) {n c : Nat} (hE : N ≤ i ∧ S ≤ i ∧ P ≤ i ∧ A ≤ i) (hC : C + 3 ≤ 600) (hnN : n < N) (h : rR T len cnt kk pp ee f d τ N S P A C (.inr i)) (har : aAr kk i = true)
    (hW : ∀ (s : Sum Nat Nat) (τ : zSt) (N S P A : Nat), rR T len cnt kk pp ee f d τ N S P A C s → rE4 N S P A s → ∃ v τ', zF h0 qs ks T m 29 [.ref h0] τ = some (some (.int v), τ') ∧ rPe T len cnt kk pp ee f d C τ N S P A s G k v τ')
    (k32 : Int32 → Int32 → Int32 → zSt → zRs) (x2 x4 : Int32) : ∃ τ' N' S' P' A', j_call_49 T (zF h0 qs ks T m) h0 qs ks k32 x2 x4 (nI c) τ = k32 x2 x4 (nI (c + 1)) τ' ∧ rR T len cnt kk pp ee f d τ' N' S' P' A' (C + 3) (aTo (.inr i) (aA1 kk T G)) ∧ rAg N S P A C τ τ' ∧ (N ≤ N' ∧ S ≤ S' ∧ P ≤ P' ∧ A ≤ A') ∧ (N' + i ≤ N + aPo cnt (aTo (.inr i) (aA1 kk T G)) + bz (aTo (.inr i) (aA1 kk T G)) k ∧ S' + i ≤ S + aPo cnt (aTo (.inr i) (aA1 kk T G)) + bz (aTo (.inr i) (aA1 kk T G)) 5 ∧ P' + i ≤ P + aPo cnt (aTo (.inr i) (aA1 kk T G)) ∧ A' + 1 + i ≤ A + aPo cnt (aTo (.inr i) (aA1 kk T G))) ∧ (∀ e j, aA1 kk T G i = .inr (e, j) → i < j ∧ rAr pp n N' S' P' A' C τ' e) := by
  have hcn := h.1.cn
  have hi := h.2.2.2.2
  have hlt : i < cnt := by
    unfold aAr at har
    by_cases c1 : aIs kk 1 i = true
    · exact h.1.lt hi (by decide) c1
    · by_cases c2 : aIs kk 2 i = true
      · exact h.1.lt hi (by decide) c2
      · by_cases c3 : aIs kk 40 i = true
        · exact h.1.lt hi (by decide) c3
        · by_cases c4 : aIs kk 223 i = true
          · exact h.1.lt hi (by decide) c4
          · by_cases c5 : aIs kk 205 i = true
            · exact h.1.lt hi (by decide) c5
            · rw [eq_false_of_ne_true c1, eq_false_of_ne_true c2, eq_false_of_ne_true c3, eq_false_of_ne_true c4, eq_false_of_ne_true c5] at har
              cases har
  have w10 : τ.1 10 = nI i := h.2.2.2.1
  have w4 := h.1.pl hi
  obtain ⟨b1, g1, q1⟩ := q_here (h0 := h0) (qs := qs) (ks := ks) (m := m) hf hT h (show (578, "true", 223) ∈ zKp by decide) (by omega)
  obtain ⟨b2, g2, q2⟩ := q_here (h0 := h0) (qs := qs) (ks := ks) (m := m) hf hT h (show (580, "false", 205) ∈ zKp by decide) (by omega)
  obtain ⟨b3, g3, q3⟩ := q_here (h0 := h0) (qs := qs) (ks := ks) (m := m) hf hT h (show (582, "(", 40) ∈ zKp by decide) (by omega)
  have q1' : b1 = aIs kk 223 i := q1
  have q2' : b2 = aIs kk 205 i := q2
  have q3' : b3 = aIs kk 40 i := q3
  obtain ⟨n1, n2⟩ := h.nx hlt
  -- true, false
  have TR : ∀ tv : Nat, tv ≤ 1 → aA1 kk T G i = .inr (tN 35 i tv 0 s0 s0 tZ, i + 1) → ∃ τ' N' S' P' A', j_call_111 T (zF h0 qs ks T m) h0 qs ks k32 x2 x4 (nI c) (pp i) 0 (nI (3 - tv)) τ = k32 x2 x4 (nI (c + 1)) τ' ∧ rR T len cnt kk pp ee f d τ' N' S' P' A' (C + 3) (aTo (.inr i) (aA1 kk T G)) ∧ rAg N S P A C τ τ' ∧ (N ≤ N' ∧ S ≤ S' ∧ P ≤ P' ∧ A ≤ A') ∧ (N' + i ≤ N + aPo cnt (aTo (.inr i) (aA1 kk T G)) + bz (aTo (.inr i) (aA1 kk T G)) k ∧ S' + i ≤ S + aPo cnt (aTo (.inr i) (aA1 kk T G)) + bz (aTo (.inr i) (aA1 kk T G)) 5 ∧ P' + i ≤ P + aPo cnt (aTo (.inr i) (aA1 kk T G)) ∧ A' + 1 + i ≤ A + aPo cnt (aTo (.inr i) (aA1 kk T G))) ∧ (∀ e j, aA1 kk T G i = .inr (e, j) → i < j ∧ rAr pp n N' S' P' A' C τ' e) := fun tv htv ea => by
    unfold j_call_111
    rw [zlet_at, w10, show nI i + 1 = nI (i + 1) by rw [nI_1]]
    obtain ⟨τ', e1, e2, e3, ⟨e4, e5, e6⟩, e7⟩ := q_301 (h0 := h0) (qs := qs) (ks := ks) n1 hC k32 (zF h0 qs ks T m) x2 x4 c (pp i) (nI (3 - tv)) 0
    have eT : aTo (.inr i) (aA1 kk T G) = .inr (i + 1) := by rw [aTo_ok, ea]; rfl
    refine ⟨τ', N, S, P, A, e1, ?_⟩
    rw [eT]
    refine ⟨e2, n2.tr e3 (Nat.le_refl _) (Nat.le_refl _) (Nat.le_refl _) (Nat.le_refl _) (Nat.le_refl _), ⟨(Nat.le_refl _), (Nat.le_refl _), (Nat.le_refl _), (Nat.le_refl _)⟩, ⟨?_, ?_, ?_, ?_⟩, fun e j he => ?_⟩
    · show N + i ≤ N + (i + 1) + 0; omega
    · show S + i ≤ S + (i + 1) + 0; omega
    · show P + i ≤ P + (i + 1); omega
    · show A + 1 + i ≤ A + (i + 1); omega
    · rw [ea] at he
      cases he
      refine ⟨by omega, fun τ'' N' S' P' A' m0 a1 a2 a3 a4 a5 a6 a7 b m hb => ⟨⟨a6, ?_, ?_⟩, hb⟩⟩
      · rw [a7 0 (by omega)]; exact e4
      · rw [a7 2 (by omega)]; exact e6
  unfold j_call_49
  rw [if_pos h.2.2.1, w10, zgd_at (zin_n (show i < 2010 by omega) (show 2010 < 2 ^ 31 by decide)), nI_clamp (show i < 2 ^ 31 by omega), w4, g1, zci_at]
  have J96 : ∀ b1, b1 = aIs kk 223 i → (zci (zF h0 qs ks T m 11 [.ref h0, .ref (ks 578)] τ) fun r3 s1 => if r3 = 0 then j_call_111 T (zF h0 qs ks T m) h0 qs ks k32 x2 x4 (nI c) (pp i) 0 3 s1 else j_call_111 T (zF h0 qs ks T m) h0 qs ks k32 x2 x4 (nI c) (pp i) 0 2 s1) = j_call_111 T (zF h0 qs ks T m) h0 qs ks k32 x2 x4 (nI c) (pp i) 0 (nI (3 - (if aIs kk 223 i = true then 1 else 0))) τ := fun b1' _ => by
    rw [g1, zci_at]
    rw [q1']
    by_cases c1 : aIs kk 223 i = true
    · rw [c1]; rfl
    · rw [eq_false_of_ne_true c1]; rfl
  cases b1 with
  | true =>
    rw [if_neg (show ¬ b01 true = 0 by decide)]
    unfold j_call_96
    rw [J96 true q1', if_pos q1'.symm]
    exact TR 1 (by omega) (by unfold aA1; rw [if_pos q1'.symm])
  | false =>
    have c1 : ¬ aIs kk 223 i = true := fun e => by rw [← q1'] at e; cases e
    rw [if_pos (show b01 false = 0 from rfl), g2, zci_at]
    cases b2 with
    | true =>
      rw [if_neg (show ¬ b01 true = 0 by decide)]
      unfold j_call_96
      rw [J96 false q1', if_neg c1]
      exact TR 0 (by omega) (by unfold aA1; rw [if_neg c1, if_pos q2'.symm])
    | false =>
      have c2 : ¬ aIs kk 205 i = true := fun e => by rw [← q2'] at e; cases e
      rw [if_pos (show b01 false = 0 from rfl), g3, zci_at]
      cases b3 with
      | true =>
        have c3 : aIs kk 40 i = true := q3'.symm
        rw [if_neg (show ¬ b01 true = 0 by decide), zlet_at, w10, show nI i + 1 = nI (i + 1) by rw [nI_1]]
        obtain ⟨b4, g4, q4⟩ := q_here (h0 := h0) (qs := qs) (ks := ks) (m := m) hf hT n1 (show (543, "fun", 206) ∈ zKp by decide) (by omega)
        have q4' : b4 = aIs kk 206 (i + 1) := q4
        rw [g4, zci_at]
        cases b4 with
        | true =>
          rw [if_neg (show ¬ b01 true = 0 by decide)]
          have ea : aA1 kk T G i = (G (i + 1)).on fun e j => (aMs kk 41 j).on fun _ j' => .inr (tN 34 i 0 0 s0 s0 e, j') := by
            unfold aA1; rw [if_neg c1, if_neg c2, if_pos c3, if_pos q4'.symm]
          obtain ⟨v, τ2, f1, N2, S2, P2, A2, x, o1, o2, o3, -, ⟨rfl, o5⟩, o6⟩ := hW (.inr (i + 1)) _ N S P A n1 (fun i' e => by cases e; omega)
          obtain ⟨⟨o3a, o3b⟩, ⟨o3c, o3d⟩, ⟨o3e, o3f⟩, o3g, o3h⟩ := o3 _ rfl
          rw [f1, zci_at]
          unfold j_call_174
          obtain ⟨τ3, p1, p2, p3⟩ := q_must (h0 := h0) (qs := qs) (ks := ks) (m := m) hf hT o1 (show (584, ")", 41) ∈ zKp by decide) (by omega)
          rw [p1, zcv_at]
          obtain ⟨τ4, e1, e2, e3, ⟨e4, e5, e6⟩, e7⟩ := q_301 (h0 := h0) (qs := qs) (ks := ks) p2 hC k32 (zF h0 qs ks T m) x2 x4 c (pp i) 1 (nI x)
          have eT : aTo (.inr i) (aA1 kk T G) = aTo (aTo (.inr (i + 1)) G) (aMs kk 41) := by
            rw [aTo_ok, ea]
            exact on_st (H := fun s => aTo s (aMs kk 41)) (fun _ => rfl) (fun _ _ => on_st (H := fun s => s) (fun _ => rfl) (fun _ _ => rfl))
          refine ⟨τ4, N2, S2, P2, A2, e1, ?_⟩
          have y1 := aMs_po p2
          have y2 := bz_to (aTo (.inr (i + 1)) G) (aMs kk 41) k
          have y3 := bz_to (aTo (.inr (i + 1)) G) (aMs kk 41) 5
          rw [bz0] at o3f o3h
          rw [eT]
          have y1' : aPo cnt (aTo (.inr (i + 1)) G) ≤ aPo cnt (aTo (aTo (.inr (i + 1)) G) (aMs kk 41)) := y1
          refine ⟨e2, ((n2.tr o2 (Nat.le_refl _) (Nat.le_refl _) (Nat.le_refl _) (Nat.le_refl _) (Nat.le_refl _)).tr p3 o3a o3c o3e o3g (Nat.le_refl _)).tr e3 o3a o3c o3e o3g (Nat.le_refl _), ⟨o3a, o3c, o3e, o3g⟩, ⟨by omega, by omega, by omega, by omega⟩, fun e j he => ?_⟩
          rw [ea] at he
          obtain ⟨a, j1, l1, he⟩ := on_ok he
          obtain ⟨u, j2, l2, he⟩ := on_ok he
          obtain ⟨u1, rfl⟩ := aMs_ok l2
          cases he
          obtain ⟨r1, r2, r3⟩ := o6 _ _ _ rfl l1
          refine ⟨by omega, fun τ'' N' S' P' A' m0 a1 a2 a3 a4 a5 a6 a7 b m hb => ⟨⟨a6, ?_, ?_, x, ?_, ?_⟩, hb⟩⟩
          · rw [a7 0 (by omega)]; exact e4
          · rw [a7 2 (by omega)]; exact e6
          · rw [a7 1 (by omega)]; exact e5
          · exact rTr.keep (((p3.at N).tr (e7.wk (Nat.zero_le _) (Nat.le_refl _) (Nat.le_refl _) (Nat.le_refl _) (Nat.le_refl _))).tr (a1.wk (by omega) (Nat.le_refl _) (Nat.le_refl _) (Nat.le_refl _) (Nat.le_refl _))) (by omega) a2 a3 a4 a5 _ _ _ _ r3
        | false =>
          have c4 : ¬ aIs kk 206 (i + 1) = true := fun e => by rw [← q4'] at e; cases e
          rw [if_pos (show b01 false = 0 from rfl)]
          have ea : aA1 kk T G i = (aSm kk T (i + 1)).on fun s j => (aMs kk 41 j).on fun _ j' => .inr (tN 33 i 1 0 s s0 tZ, j') := by
            unfold aA1; rw [if_neg c1, if_neg c2, if_pos c3, if_neg c4]
          obtain ⟨τ2, P2, f1, o1, o2, o3, o4, o6⟩ := q_sum (h0 := h0) (qs := qs) (ks := ks) (m := m) hf hT n1 (show S < 2100 by omega) (show P ≤ i + 1 by omega) (by omega)
          rw [f1, zci_at]
          unfold j_call_174
          obtain ⟨τ3, p1, p2, p3⟩ := q_must (h0 := h0) (qs := qs) (ks := ks) (m := m) hf hT o1 (show (584, ")", 41) ∈ zKp by decide) (by omega)
          rw [p1, zcv_at]
          obtain ⟨τ4, e1, e2, e3, ⟨e4, e5, e6⟩, e7⟩ := q_301 (h0 := h0) (qs := qs) (ks := ks) p2 hC k32 (zF h0 qs ks T m) x2 x4 c (pp i) 0 (nI S)
          have eT : aTo (.inr i) (aA1 kk T G) = aTo (aTo (.inr (i + 1)) (aSm kk T)) (aMs kk 41) := by
            rw [aTo_ok, ea]
            exact on_st (H := fun s => aTo s (aMs kk 41)) (fun _ => rfl) (fun _ _ => on_st (H := fun s => s) (fun _ => rfl) (fun _ _ => rfl))
          refine ⟨τ4, N, S + 1, P2, A, e1, ?_⟩
          have y1 := aMs_po p2
          have y1' : aPo cnt (aTo (.inr (i + 1)) (aSm kk T)) ≤ aPo cnt (aTo (aTo (.inr (i + 1)) (aSm kk T)) (aMs kk 41)) := y1
          have y4 : i + 1 ≤ aPo cnt (aTo (.inr (i + 1)) (aSm kk T)) := by
            have : P2 + (i + 1) ≤ P + aPo cnt (aTo (.inr (i + 1)) (aSm kk T)) := o4
            omega
          have o4' : P2 + (i + 1) ≤ P + aPo cnt (aTo (.inr (i + 1)) (aSm kk T)) := o4
          rw [eT]
          refine ⟨e2, ((n2.tr o2 (Nat.le_refl _) (Nat.le_refl _) (Nat.le_refl _) (Nat.le_refl _) (Nat.le_refl _)).tr p3 (Nat.le_refl _) (Nat.le_succ _) o3 (Nat.le_refl _) (Nat.le_refl _)).tr e3 (Nat.le_refl _) (Nat.le_succ _) o3 (Nat.le_refl _) (Nat.le_refl _), ⟨(Nat.le_refl _), Nat.le_succ _, o3, (Nat.le_refl _)⟩, ⟨by omega, by omega, by omega, by omega⟩, fun e j he => ?_⟩
          rw [ea] at he
          obtain ⟨a, j1, l1, he⟩ := on_ok he
          obtain ⟨u, j2, l2, he⟩ := on_ok he
          obtain ⟨u1, rfl⟩ := aMs_ok l2
          cases he
          obtain ⟨r1, r2, r3⟩ := o6 _ _ _ rfl l1
          refine ⟨by omega, fun τ'' N' S' P' A' m0 a1 a2 a3 a4 a5 a6 a7 b m hb => ⟨⟨a6, ?_, ?_, S, ?_, ?_⟩, hb⟩⟩
          · rw [a7 0 (by omega)]; exact e4
          · rw [a7 2 (by omega)]; exact e6
          · rw [a7 1 (by omega)]; exact e5
          · exact (((p3.at (n + 1)).tr (e7.wk (Nat.zero_le _) (Nat.le_refl _) (Nat.le_refl _) (Nat.le_refl _) (Nat.le_refl _))).tr a1).sm r3 a3 a4
      | false =>
        have c3 : ¬ aIs kk 40 i = true := fun e => by rw [← q3'] at e; cases e
        have ea : aA1 kk T G i = .inr (tN 33 i 0 0 (i, [(if aIs kk 2 i = true then 0 else 1, false, i)]) s0 tZ, i + 1) := by
          unfold aA1; rw [if_neg c1, if_neg c2, if_neg c3]
        have w24 : τ.1 24 = nI S := h.2.1.2.2.1
        have w28 : τ.1 28 = nI P := h.2.1.2.2.2.1
        have k2 := h.1.k2 hi
        have c12 : aIs kk 2 i = false → aIs kk 1 i = true := fun e => by
          unfold aAr at har
          rw [e, eq_false_of_ne_true c3, eq_false_of_ne_true c1, eq_false_of_ne_true c2] at har
          simpa using har
        have r3k : τ.2.2.1 3 i = if aIs kk 2 i = true then 2 else 1 := by
          by_cases c5 : aIs kk 2 i = true
          · rw [if_pos c5]; exact k2.mpr c5
          · rw [if_neg c5]; exact (h.1.k1 hi).mpr (c12 (eq_false_of_ne_true c5))
        rw [if_pos (show b01 false = 0 from rfl)]
        simp only [zlet, zA1, w24, zIn _ _ (show 28 ≠ 24 by decide), zIn _ _ (show 10 ≠ 24 by decide), w28, w10, zgd_at (zin_n (show S < 2100 by omega) (show 2100 < 2 ^ 31 by decide)), zgd_at (zin_n (show i < 2010 by omega) (show 2010 < 2 ^ 31 by decide)), nI_clamp (show S < 2 ^ 31 by omega), nI_clamp (show i < 2 ^ 31 by omega), zI2, zAn _ _ (show 3 ≠ 13 by decide), zAn _ _ (show 3 ≠ 15 by decide), zAn _ _ (show 13 ≠ 15 by decide), r3k, show nI S + 1 = nI (S + 1) by rw [nI_1]]
        generalize hpk : (if aIs kk 2 i = true then 0 else 1) = pk at ea
        have e0 : ∀ Y : zSt, (if (if aIs kk 2 i = true then (2 : Int32) else 1) = 2 then j_call_246 T (zF h0 qs ks T m) h0 qs ks k32 x2 x4 (nI c) (pp i) 0 (nI S) (nI P) 0 Y else j_call_246 T (zF h0 qs ks T m) h0 qs ks k32 x2 x4 (nI c) (pp i) 0 (nI S) (nI P) 1 Y) = j_call_246 T (zF h0 qs ks T m) h0 qs ks k32 x2 x4 (nI c) (pp i) 0 (nI S) (nI P) (nI pk) Y := fun Y => by
          rw [← hpk]
          by_cases c5 : aIs kk 2 i = true
          · rw [if_pos c5, if_pos c5, if_pos rfl]; rfl
          · rw [if_neg c5, if_neg c5, if_neg (by decide)]; rfl
        rw [e0]
        unfold j_call_246
        simp only [zlet, zA1, zIn _ _ (show 28 ≠ 24 by decide), zIn _ _ (show 10 ≠ 24 by decide), zIn _ _ (show 10 ≠ 28 by decide), zIe, w28, w10, zgd_at (zin_n (show S < 2100 by omega) (show 2100 < 2 ^ 31 by decide)), zgd_at (zin_n (show P < 2100 by omega) (show 2100 < 2 ^ 31 by decide)), nI_clamp (show S < 2 ^ 31 by omega), nI_clamp (show P < 2 ^ 31 by omega), show nI P + 1 = nI (P + 1) by rw [nI_1], show nI i + 1 = nI (i + 1) by rw [nI_1]]
        simp only [zI2, zAn _ _ (show 16 ≠ 13 by decide), zAn _ _ (show 16 ≠ 15 by decide), zAn _ _ (show 17 ≠ 16 by decide), zAn _ _ (show 17 ≠ 13 by decide), zAn _ _ (show 17 ≠ 15 by decide), zAn _ _ (show 18 ≠ 17 by decide), zAn _ _ (show 18 ≠ 16 by decide), zAn _ _ (show 18 ≠ 13 by decide), zAn _ _ (show 18 ≠ 15 by decide), zAn _ _ (show 14 ≠ 18 by decide), zAn _ _ (show 14 ≠ 17 by decide), zAn _ _ (show 14 ≠ 16 by decide), zAn _ _ (show 14 ≠ 13 by decide), zAn _ _ (show 14 ≠ 15 by decide)]
        have hX : rR T len cnt kk pp ee f d (zI (zA (zI (zA (zA (zA (zA (zA (zI τ 24 (nI (S + 1))) 15 (upd (τ.2.2.1 15) S (pp i))) 13 (upd (τ.2.2.1 13) S (nI P))) 16 (upd (τ.2.2.1 16) P (nI pk))) 17 (upd (τ.2.2.1 17) P 1)) 18 (upd (τ.2.2.1 18) P (nI i))) 28 (nI (P + 1))) 14 (upd (τ.2.2.1 14) S (nI (P + 1)))) 10 (nI (i + 1))) N (S + 1) (P + 1) A C (.inr (i + 1)) := by
          obtain ⟨h1, ⟨a1, a2, a3, a4, a5, a6⟩, h3⟩ := h
          exact ⟨h1.keep rfl rfl rfl rfl, ⟨a1, a2, rfl, rfl, a5, a6⟩, h3.1, rfl, by omega⟩
        have gX : rAg N S P A C τ (zI (zA (zI (zA (zA (zA (zA (zA (zI τ 24 (nI (S + 1))) 15 (upd (τ.2.2.1 15) S (pp i))) 13 (upd (τ.2.2.1 13) S (nI P))) 16 (upd (τ.2.2.1 16) P (nI pk))) 17 (upd (τ.2.2.1 17) P 1)) 18 (upd (τ.2.2.1 18) P (nI i))) 28 (nI (P + 1))) 14 (upd (τ.2.2.1 14) S (nI (P + 1)))) 10 (nI (i + 1))) := ((((((((rAg.rf τ).i (k := 24) (v := nI (S + 1)) (by omega)).a (k := 15) (x := S) (v := pp i) (rFz.n13 (by omega) (by omega) (Nat.le_refl _))).a (k := 13) (x := S) (v := nI P) (rFz.n13 (by omega) (by omega) (Nat.le_refl _))).a (k := 16) (x := P) (v := nI pk) (rFz.n16 (by omega) (by omega) (Nat.le_refl _))).a (k := 17) (x := P) (v := 1) (rFz.n16 (by omega) (by omega) (Nat.le_refl _))).a (k := 18) (x := P) (v := nI i) (rFz.n16 (by omega) (by omega) (Nat.le_refl _))).i (k := 28) (v := nI (P + 1)) (by omega)).a (k := 14) (x := S) (v := nI (P + 1)) (rFz.n13 (by omega) (by omega) (Nat.le_refl _)) |>.i (k := 10) (v := nI (i + 1)) (by omega)
        have x15 : (zI (zA (zI (zA (zA (zA (zA (zA (zI τ 24 (nI (S + 1))) 15 (upd (τ.2.2.1 15) S (pp i))) 13 (upd (τ.2.2.1 13) S (nI P))) 16 (upd (τ.2.2.1 16) P (nI pk))) 17 (upd (τ.2.2.1 17) P 1)) 18 (upd (τ.2.2.1 18) P (nI i))) 28 (nI (P + 1))) 14 (upd (τ.2.2.1 14) S (nI (P + 1)))) 10 (nI (i + 1))).2.2.1 15 S = pp i := by show upd (τ.2.2.1 15) S (pp i) S = pp i; exact upd_at _ _ _
        have x13 : (zI (zA (zI (zA (zA (zA (zA (zA (zI τ 24 (nI (S + 1))) 15 (upd (τ.2.2.1 15) S (pp i))) 13 (upd (τ.2.2.1 13) S (nI P))) 16 (upd (τ.2.2.1 16) P (nI pk))) 17 (upd (τ.2.2.1 17) P 1)) 18 (upd (τ.2.2.1 18) P (nI i))) 28 (nI (P + 1))) 14 (upd (τ.2.2.1 14) S (nI (P + 1)))) 10 (nI (i + 1))).2.2.1 13 S = nI P := by show upd (τ.2.2.1 13) S (nI P) S = nI P; exact upd_at _ _ _
        have x14 : (zI (zA (zI (zA (zA (zA (zA (zA (zI τ 24 (nI (S + 1))) 15 (upd (τ.2.2.1 15) S (pp i))) 13 (upd (τ.2.2.1 13) S (nI P))) 16 (upd (τ.2.2.1 16) P (nI pk))) 17 (upd (τ.2.2.1 17) P 1)) 18 (upd (τ.2.2.1 18) P (nI i))) 28 (nI (P + 1))) 14 (upd (τ.2.2.1 14) S (nI (P + 1)))) 10 (nI (i + 1))).2.2.1 14 S = nI (P + 1) := by show upd (τ.2.2.1 14) S (nI (P + 1)) S = nI (P + 1); exact upd_at _ _ _
        have x16 : (zI (zA (zI (zA (zA (zA (zA (zA (zI τ 24 (nI (S + 1))) 15 (upd (τ.2.2.1 15) S (pp i))) 13 (upd (τ.2.2.1 13) S (nI P))) 16 (upd (τ.2.2.1 16) P (nI pk))) 17 (upd (τ.2.2.1 17) P 1)) 18 (upd (τ.2.2.1 18) P (nI i))) 28 (nI (P + 1))) 14 (upd (τ.2.2.1 14) S (nI (P + 1)))) 10 (nI (i + 1))).2.2.1 16 P = nI pk := by show upd (τ.2.2.1 16) P (nI pk) P = nI pk; exact upd_at _ _ _
        have x17 : (zI (zA (zI (zA (zA (zA (zA (zA (zI τ 24 (nI (S + 1))) 15 (upd (τ.2.2.1 15) S (pp i))) 13 (upd (τ.2.2.1 13) S (nI P))) 16 (upd (τ.2.2.1 16) P (nI pk))) 17 (upd (τ.2.2.1 17) P 1)) 18 (upd (τ.2.2.1 18) P (nI i))) 28 (nI (P + 1))) 14 (upd (τ.2.2.1 14) S (nI (P + 1)))) 10 (nI (i + 1))).2.2.1 17 P = 1 := by show upd (τ.2.2.1 17) P 1 P = 1; exact upd_at _ _ _
        have x18 : (zI (zA (zI (zA (zA (zA (zA (zA (zI τ 24 (nI (S + 1))) 15 (upd (τ.2.2.1 15) S (pp i))) 13 (upd (τ.2.2.1 13) S (nI P))) 16 (upd (τ.2.2.1 16) P (nI pk))) 17 (upd (τ.2.2.1 17) P 1)) 18 (upd (τ.2.2.1 18) P (nI i))) 28 (nI (P + 1))) 14 (upd (τ.2.2.1 14) S (nI (P + 1)))) 10 (nI (i + 1))).2.2.1 18 P = nI i := by show upd (τ.2.2.1 18) P (nI i) P = nI i; exact upd_at _ _ _
        generalize (zI (zA (zI (zA (zA (zA (zA (zA (zI τ 24 (nI (S + 1))) 15 (upd (τ.2.2.1 15) S (pp i))) 13 (upd (τ.2.2.1 13) S (nI P))) 16 (upd (τ.2.2.1 16) P (nI pk))) 17 (upd (τ.2.2.1 17) P 1)) 18 (upd (τ.2.2.1 18) P (nI i))) 28 (nI (P + 1))) 14 (upd (τ.2.2.1 14) S (nI (P + 1)))) 10 (nI (i + 1))) = τ1 at hX gX x15 x13 x14 x16 x17 x18 ⊢
        obtain ⟨τ4, e1, e2, e3, ⟨e4, e5, e6⟩, e7⟩ := q_301 (h0 := h0) (qs := qs) (ks := ks) hX hC k32 (zF h0 qs ks T m) x2 x4 c (pp i) 0 (nI S)
        have eT : aTo (.inr i) (aA1 kk T G) = .inr (i + 1) := by rw [aTo_ok, ea]; rfl
        refine ⟨τ4, N, S + 1, P + 1, A, e1, ?_⟩
        rw [eT]
        refine ⟨e2, gX.tr e3 (Nat.le_refl _) (Nat.le_succ _) (Nat.le_succ _) (Nat.le_refl _) (Nat.le_refl _), ⟨(Nat.le_refl _), Nat.le_succ _, Nat.le_succ _, (Nat.le_refl _)⟩, ⟨?_, ?_, ?_, ?_⟩, fun e j he => ?_⟩
        · show N + i ≤ N + (i + 1) + 0; omega
        · show S + 1 + i ≤ S + (i + 1) + 0; omega
        · show P + 1 + i ≤ P + (i + 1); omega
        · show A + 1 + i ≤ A + (i + 1); omega
        · rw [ea] at he
          cases he
          have r3 : rSm pp τ1 (S + 1) (P + 1) S (i, [(pk, false, i)]) := by
            refine ⟨Nat.lt_succ_self S, x15, P, x13, x14, (Nat.le_refl _), fun q p e => ?_⟩
            cases q with
            | zero => cases e; exact ⟨x16, x17, x18⟩
            | succ q => cases e
          refine ⟨by omega, fun τ'' N' S' P' A' m0 a1 a2 a3 a4 a5 a6 a7 b m hb => ⟨⟨a6, ?_, ?_, S, ?_, ?_⟩, hb⟩⟩
          · rw [a7 0 (by omega)]; exact e4
          · rw [a7 2 (by omega)]; exact e6
          · rw [a7 1 (by omega)]; exact e5
          · exact ((e7.wk (Nat.zero_le _) (Nat.le_refl _) (Nat.le_refl _) (Nat.le_refl _) (Nat.le_refl _)).tr a1).sm r3 a3 a4
end RAS
