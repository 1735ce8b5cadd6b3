/-! the reference reads a call -/
section RCA
variable {κ : oKv} {ks : Nat → Nat} {qs : List Nat} {T m h0 len cnt sz d N S P A C z i k zc n : Nat} {τ τ0 : zSt} {s : Sum Nat Nat} {kk pp ee f : Nat → Int32} {G H : Nat → aR tT}
theorem q_345 {N1 S1 P1 A1 c : Nat} (call : zCl) (hT : 2010 ≤ T) (h : rR T len cnt kk pp ee f d τ N1 S1 P1 A1 (C + 3 * c) s) (hn : n < N1) (hN : N1 ≤ 2100) (hA : A1 + c ≤ 2100) (hC : C + 3 * c ≤ 600) : ∃ τ', j_call_345 T call h0 qs ks (nI n) (nI C) (nI c) τ = some (some (.int (nI n)), τ') ∧ rR T len cnt kk pp ee f d τ' N1 S1 P1 (A1 + c) C s ∧ rAg n S1 P1 A1 C τ τ' ∧ rAt (n + 1) N1 S1 P1 A1 τ τ' ∧ (∀ r, r % 7 ≠ 4 → r % 7 ≠ 5 → nV τ' n r = nV τ n r) ∧ (nV τ' n 4 = nI A1 ∧ nV τ' n 5 = nI c) ∧ (∀ a q, a < c → q < 3 → gV τ' (A1 + a) q = τ.2.2.1 29 (C + 3 * a + q)) := by
  have w32 : τ.1 32 = nI A1 := h.2.1.2.2.2.2.1
  unfold j_call_345
  simp only [zlet, w32, zgd_at (zin_n (show n < 2100 by omega) (show 2100 < 2 ^ 31 by decide)), nI_clamp (show n < 2 ^ 31 by omega)]
  have k1 := (h.a (upd (τ.2.2.1 10) n (nI A1)) (show 6 ≤ 10 by omega)).a (upd ((zA τ 10 (upd (τ.2.2.1 10) n (nI A1))).2.2.1 11) n (nI c)) (show 6 ≤ 11 by omega)
  have g1 : rAg n S1 P1 A1 C τ (zA (zA τ 10 (upd (τ.2.2.1 10) n (nI A1))) 11 (upd ((zA τ 10 (upd (τ.2.2.1 10) n (nI A1))).2.2.1 11) n (nI c))) := ((rAg.rf τ).a (rFz.n6 (by omega) (by omega) (Nat.le_refl n))).a (rFz.n6 (by omega) (by omega) (Nat.le_refl n))
  have t1 : rAt (n + 1) N1 S1 P1 A1 τ (zA (zA τ 10 (upd (τ.2.2.1 10) n (nI A1))) 11 (upd ((zA τ 10 (upd (τ.2.2.1 10) n (nI A1))).2.2.1 11) n (nI c))) := (rAt_zA τ _ (by omega) (by omega) (Or.inl (by omega))).tr (rAt_zA _ _ (by omega) (by omega) (Or.inl (by omega)))
  have v0 : ∀ r, r % 7 ≠ 4 → r % 7 ≠ 5 → nV (zA (zA τ 10 (upd (τ.2.2.1 10) n (nI A1))) 11 (upd ((zA τ 10 (upd (τ.2.2.1 10) n (nI A1))).2.2.1 11) n (nI c))) n r = nV τ n r := fun r h1 h2 => by rw [nV_wn _ n _ (c := 5) rfl h2, nV_wn _ n _ (c := 4) rfl h1]
  have v4 : nV (zA (zA τ 10 (upd (τ.2.2.1 10) n (nI A1))) 11 (upd ((zA τ 10 (upd (τ.2.2.1 10) n (nI A1))).2.2.1 11) n (nI c))) n 4 = nI A1 := by rw [nV_wn _ n _ (c := 5) rfl (by decide), nV_we _ n _ (k := 10) (q := 4) rfl]
  have v5 : nV (zA (zA τ 10 (upd (τ.2.2.1 10) n (nI A1))) 11 (upd ((zA τ 10 (upd (τ.2.2.1 10) n (nI A1))).2.2.1 11) n (nI c))) n 5 = nI c := nV_we _ n _ (k := 11) (q := 5) rfl
  have r29 : (zA (zA τ 10 (upd (τ.2.2.1 10) n (nI A1))) 11 (upd ((zA τ 10 (upd (τ.2.2.1 10) n (nI A1))).2.2.1 11) n (nI c))).2.2.1 29 = τ.2.2.1 29 := by rw [zAn _ _ (by decide), zAn _ _ (by decide)]
  generalize zA (zA τ 10 (upd (τ.2.2.1 10) n (nI A1))) 11 (upd ((zA τ 10 (upd (τ.2.2.1 10) n (nI A1))).2.2.1 11) n (nI c)) = τ1 at k1 g1 t1 v0 v4 v5 r29 ⊢
  obtain ⟨τ', l1, l2, l3, l4, l5⟩ := q_366 (h0 := h0) (qs := qs) (ks := ks) (nI n) c call T 0 τ1 A1 (Nat.zero_le _) (by omega) (by omega) hC k1
  have en : nV τ' n = nV τ1 n := l4.1 n (Nat.zero_le _) hn
  refine ⟨τ', l1, ?_, g1.tr l3 (by omega) (Nat.le_refl _) (Nat.le_refl _) (Nat.le_refl _) (Nat.le_refl _), t1.tr (l4.wk (Nat.zero_le _) (Nat.le_refl _) (Nat.le_refl _) (Nat.le_refl _) (Nat.le_refl _)), fun r h1 h2 => ?_, ⟨?_, ?_⟩, fun a q h1 h2 => ?_⟩
  · rw [Nat.sub_zero] at l2; exact l2
  · rw [en]; exact v0 r h1 h2
  · rw [en]; exact v4
  · rw [en]; exact v5
  · have := l5 a q (Nat.zero_le _) h1 h2
    rw [Nat.sub_zero, r29] at this
    exact this
set_option maxHeartbeats 1000000 in
/-- the loop over the ARGS -/
theorem q_32 (hf : lFacts κ ks sz) (hT : 2010 ≤ T) (hm : 5 ≤ m) (hE : N ≤ i ∧ S ≤ i ∧ P ≤ i ∧ A ≤ i) (hz1 : z ≤ 31) (hCd : C ≤ 12 * d) (hd : d ≤ 30) (hW : ∀ (C' : Nat), C' ≤ 12 * (d + 1) → ∀ (s : Sum Nat Nat) (τ : zSt) (N S P A : Nat), rR T len cnt kk pp ee f d τ N S P A C' s → rE4 N S P A s → ∃ v τ', zF h0 qs ks T m 29 [.ref h0] τ = some (some (.int v), τ') ∧ rPe T len cnt kk pp ee f d C' τ N S P A s G k v τ') (hz : k ≤ z) : ∀ (q t c : Nat) (s : Sum Nat Nat) (τ : zSt) (N1 S1 P1 A1 : Nat), c + q = 4 → q < t → rR T len cnt kk pp ee f d τ N1 S1 P1 A1 (C + 3 * c) s → n < N1 → aA4 cnt z 5 N S P A i N1 S1 P1 (A1 + c) s → ∃ τ', l_call_32 T (zF h0 qs ks T m) h0 qs ks t (nI n) (nI C) (nI c) τ = some (some (.int (nI n)), τ') ∧ ∃ N' S' P' A' a0 b, rR T len cnt kk pp ee f d τ' N' S' P' A' C (aTo s (aAs kk T G q)) ∧ rAg n S1 P1 A1 C τ τ' ∧ rAt (n + 1) N1 S1 P1 A1 τ τ' ∧ (N1 ≤ N' ∧ S1 ≤ S' ∧ P1 ≤ P' ∧ A1 ≤ A') ∧ aA4 cnt z 5 N S P A i N' S' P' A' (aTo s (aAs kk T G q)) ∧ (∀ r, r % 7 ≠ 4 → r % 7 ≠ 5 → nV τ' n r = nV τ n r) ∧ (nV τ' n 4 = nI a0 ∧ nV τ' n 5 = nI b ∧ c ≤ b ∧ a0 + b ≤ A') ∧ (∀ a q, a < c → q < 3 → gV τ' (a0 + a) q = τ.2.2.1 29 (C + 3 * a + q)) ∧ (∀ i' as j, s = .inr i' → aAs kk T G q i' = .inr (as, j) → i' ≤ j ∧ rTr pp τ' n N' S' P' A' as 0 (a0 + c) (a0 + b)) := by
  intro q
  induction q with
  | zero =>
    intro t c s τ N1 S1 P1 A1 hc ht h hn hA
    have hcn := h.1.cn
    have hbd := hA.bd hE h.po
    have hpo := h.po
    obtain ⟨t', rfl⟩ : ∃ t', t = t' + 1 := ⟨t - 1, by omega⟩
    obtain rfl : c = 4 := by omega
    -- the end, from a state that stands where the reading stands
    have EN : ∀ τ1 s1, rR T len cnt kk pp ee f d τ1 N1 S1 P1 A1 (C + 3 * 4) s1 → rAg N1 S1 P1 A1 (C + 3 * 4) τ τ1 → aA4 cnt z 5 N S P A i N1 S1 P1 (A1 + 4) s1 → aTo s (aAs kk T G 0) = s1 → (∀ i' as j, s = .inr i' → aAs kk T G 0 i' = .inr (as, j) → i' ≤ j ∧ as = tZ) → ∃ τ', j_call_345 T (zF h0 qs ks T m) h0 qs ks (nI n) (nI C) (nI 4) τ1 = some (some (.int (nI n)), τ') ∧ ∃ N' S' P' A' a0 b, rR T len cnt kk pp ee f d τ' N' S' P' A' C (aTo s (aAs kk T G 0)) ∧ rAg n S1 P1 A1 C τ τ' ∧ rAt (n + 1) N1 S1 P1 A1 τ τ' ∧ (N1 ≤ N' ∧ S1 ≤ S' ∧ P1 ≤ P' ∧ A1 ≤ A') ∧ aA4 cnt z 5 N S P A i N' S' P' A' (aTo s (aAs kk T G 0)) ∧ (∀ r, r % 7 ≠ 4 → r % 7 ≠ 5 → nV τ' n r = nV τ n r) ∧ (nV τ' n 4 = nI a0 ∧ nV τ' n 5 = nI b ∧ 4 ≤ b ∧ a0 + b ≤ A') ∧ (∀ a q, a < 4 → q < 3 → gV τ' (a0 + a) q = τ.2.2.1 29 (C + 3 * a + q)) ∧ (∀ i' as j, s = .inr i' → aAs kk T G 0 i' = .inr (as, j) → i' ≤ j ∧ rTr pp τ' n N' S' P' A' as 0 (a0 + 4) (a0 + b)) := fun τ1 s1 k1 k2 k3 k4 k5 => by
      obtain ⟨τ', e1, e2, e3, e4, e5, ⟨e6, e7⟩, e8⟩ := q_345 (h0 := h0) (qs := qs) (ks := ks) (zF h0 qs ks T m) hT k1 hn (by omega) (by omega) (by omega)
      refine ⟨τ', e1, N1, S1, P1, A1 + 4, A1, 4, ?_⟩
      rw [k4]
      refine ⟨e2, (k2.wk (by omega) (Nat.le_refl _) (Nat.le_refl _) (Nat.le_refl _) (by omega)).tr e3 (Nat.le_refl _) (Nat.le_refl _) (Nat.le_refl _) (Nat.le_refl _) (Nat.le_refl _), (k2.at (n + 1)).tr e4, ⟨(Nat.le_refl _), (Nat.le_refl _), (Nat.le_refl _), by omega⟩, k3, fun r h1 h2 => ?_, ⟨e6, e7, (Nat.le_refl _), (Nat.le_refl _)⟩, fun a q h1 h2 => ?_, fun i' as j e e' => ?_⟩
      · rw [e5 r h1 h2]; exact congrFun ((k2.at 0).1 n (Nat.zero_le _) hn) r
      · rw [e8 a q h1 h2]; exact k2.cw (by omega)
      · obtain ⟨l1, l2⟩ := k5 i' as j e e'
        subst l2
        exact ⟨l1, rfl⟩
    obtain ⟨b1, g1, q1⟩ := q_arg (h0 := h0) (qs := qs) (ks := ks) (m := m) hf hT h (by omega)
    rw [l_call_32, g1, zci_at]
    cases b1 with
    | false =>
      rw [if_pos (show b01 false = 0 from rfl)]
      cases s with
      | inl j => exact EN τ (.inl j) h (rAg.rf τ) hA rfl (fun i' as j e => by cases e)
      | inr i' =>
        have q1' : false = aAr kk i' := q1
        have ea : aAs kk T G 0 i' = .inr (tZ, i') := by rw [aAs, ← q1']; rfl
        refine EN τ (.inr i') h (rAg.rf τ) hA (by rw [aTo_ok, ea]; rfl) (fun i2 as j e e' => ?_)
        cases e
        rw [ea] at e'
        cases e'
        exact ⟨(Nat.le_refl _), rfl⟩
    | true =>
      rw [if_neg (show ¬ b01 true = 0 by decide), if_pos (show nI 4 = 4 from rfl)]
      cases s with
      | inl j => cases q1
      | inr i' =>
        have q1' : true = aAr kk i' := q1
        have ea : aAs kk T G 0 i' = .inl i' := by rw [aAs, ← q1']; rfl
        obtain ⟨τ1, f1, f2, f3⟩ := q_form (h0 := h0) (qs := qs) (ks := ks) (m := m) h (by omega)
        rw [f1, zcv_at]
        unfold j_call_49
        rw [if_neg (show ¬ τ1.1 11 = 0 by rw [f2.2.2.1]; decide)]
        refine EN τ1 (.inl i') f2 f3 (hA.st hpo (fun z => Nat.zero_le _)) (by rw [aTo_ok, ea]; rfl) (fun i2 as j e e' => ?_)
        cases e
        rw [ea] at e'
        cases e'
  | succ q IH =>
    intro t c s τ N1 S1 P1 A1 hc ht h hn hA
    have hcn := h.1.cn
    have hbd := hA.bd hE h.po
    have hpo := h.po
    obtain ⟨t', rfl⟩ : ∃ t', t = t' + 1 := ⟨t - 1, by omega⟩
    obtain ⟨b1, g1, q1⟩ := q_arg (h0 := h0) (qs := qs) (ks := ks) (m := m) hf hT h (by omega)
    rw [l_call_32, g1, zci_at]
    cases b1 with
    | false =>
      rw [if_pos (show b01 false = 0 from rfl)]
      have eT : aTo s (aAs kk T G (q + 1)) = s := by
        cases s with
        | inl j => rfl
        | inr i' =>
          have q1' : false = aAr kk i' := q1
          rw [aTo_ok, aAs, ← q1']
          rfl
      obtain ⟨τ', e1, e2, e3, e4, e5, ⟨e6, e7⟩, e8⟩ := q_345 (h0 := h0) (qs := qs) (ks := ks) (zF h0 qs ks T m) hT h hn (by omega) (by omega) (by omega)
      refine ⟨τ', e1, N1, S1, P1, A1 + c, A1, c, ?_⟩
      rw [eT]
      refine ⟨e2, e3, e4, ⟨(Nat.le_refl _), (Nat.le_refl _), (Nat.le_refl _), by omega⟩, hA, e5, ⟨e6, e7, (Nat.le_refl _), (Nat.le_refl _)⟩, e8, fun i' as j e e' => ?_⟩
      subst e
      have q1' : false = aAr kk i' := q1
      rw [aAs, ← q1'] at e'
      cases e'
      exact ⟨(Nat.le_refl _), rfl⟩
    | true =>
      cases s with
      | inl j => cases q1
      | inr i' =>
        have q1' : aAr kk i' = true := (show true = aAr kk i' from q1).symm
        have hen := hA.en hE i' rfl
        rw [if_neg (show ¬ b01 true = 0 by decide), if_neg (show ¬ nI c = 4 from fun e => by have := nI_inj' (by omega) (by decide) (e.trans (show (4 : Int32) = nI 4 from rfl)); omega)]
        obtain ⟨τ1, N2, S2, P2, A2, f1, f2, f3, ⟨f4, f5, f6, f7⟩, ⟨f8, f9, f10, f11⟩, f12⟩ := q_49 (h0 := h0) (qs := qs) (ks := ks) (m := m) (n := n) (c := c) hf hT hm (show N1 ≤ i' ∧ S1 ≤ i' ∧ P1 ≤ i' ∧ A1 ≤ i' by omega) (by omega) hn h q1' (hW (C + 3 * c) (by omega)) (l_call_32 T (zF h0 qs ks T m) h0 qs ks t') (nI n) (nI C)
        rw [f1]
        have hA1 : aA4 cnt z 5 N S P A i N2 S2 P2 (A2 + (c + 1)) (aTo (.inr i') (aA1 kk T G)) := by
          obtain ⟨⟨a1, a2⟩, ⟨b1, b2⟩, ⟨c1, c2⟩, d1, d2⟩ := hA
          have a2' : N1 + i ≤ N + i' + 0 := a2
          have b2' : S1 + i ≤ S + i' + 0 := b2
          have c2' : P1 + i ≤ P + i' + 0 := c2
          have d2' : A1 + c + i ≤ A + i' + 0 := d2
          have := bz_mo (aTo (.inr i') (aA1 kk T G)) hz
          have y0 := bz0 (aTo (.inr i') (aA1 kk T G))
          exact ⟨⟨by omega, by omega⟩, ⟨by omega, by omega⟩, ⟨by omega, by omega⟩, by omega, by omega⟩
        obtain ⟨τ', l1, N', S', P', A', a0, b, l2, l3, l4, ⟨l5a, l5b, l5c, l5d⟩, l6, l7, ⟨l8, l9, l10, l11⟩, l12, l13⟩ := IH t' (c + 1) (aTo (.inr i') (aA1 kk T G)) τ1 N2 S2 P2 A2 (by omega) (by omega) f2 (by omega) hA1
        have eS : aAs kk T G (q + 1) i' = (aA1 kk T G i').on fun a j => (aAs kk T G q j).on fun as j' => .inr (a as, j') := by rw [aAs, if_pos q1']
        have eT : aTo (.inr i') (aAs kk T G (q + 1)) = aTo (aTo (.inr i') (aA1 kk T G)) (aAs kk T G q) := by
          rw [aTo_ok, eS]
          exact on_st (H := fun s => aTo s (aAs kk T G q)) (fun _ => rfl) (fun _ _ => on_st (H := fun s => s) (fun _ => rfl) (fun _ _ => rfl))
        refine ⟨τ', l1, N', S', P', A', a0, b, ?_⟩
        rw [eT]
        refine ⟨l2, (f3.wk (by omega) (Nat.le_refl _) (Nat.le_refl _) (Nat.le_refl _) (by omega)).tr l3 (Nat.le_refl _) f5 f6 f7 (Nat.le_refl _), (f3.at (n + 1)).tr (l4.wk (Nat.le_refl _) f4 f5 f6 f7), ⟨by omega, by omega, by omega, by omega⟩, l6, fun r h1 h2 => ?_, ⟨l8, l9, by omega, l11⟩, fun a q h1 h2 => ?_, fun i2 as j e e' => ?_⟩
        · rw [l7 r h1 h2]; exact congrFun ((f3.at 0).1 n (Nat.zero_le _) hn) r
        · rw [l12 a q (by omega) h2]; exact f3.cw (by omega)
        · cases e
          rw [eS] at e'
          obtain ⟨ar, j1, y1, e'⟩ := on_ok e'
          obtain ⟨as', j2, y2, e'⟩ := on_ok e'
          cases e'
          obtain ⟨r1, r2⟩ := f12 ar j1 y1
          obtain ⟨r3, r4⟩ := l13 j1 as' _ (by rw [aTo_ok, y1]; rfl) y2
          refine ⟨by omega, r2 τ' N' S' P' A' (a0 + c) l4 l5a l5b l5c l5d (by omega) (fun q hq => l12 c q (by omega) hq) as' (a0 + b) r4⟩
set_option maxHeartbeats 1000000 in
/-- call() at a NAME behind which an ARG begins -/
theorem q_call (hf : lFacts κ ks sz) (hT : 2010 ≤ T) (hm : 5 ≤ m) (hE : N ≤ i ∧ S ≤ i ∧ P ≤ i ∧ A ≤ i) (hz1 : z ≤ 31) (hCd : C ≤ 12 * d) (hd : d ≤ 30) (hW : ∀ (C' : Nat), C' ≤ 12 * (d + 1) → ∀ (s : Sum Nat Nat) (τ : zSt) (N S P A : Nat), rR T len cnt kk pp ee f d τ N S P A C' s → rE4 N S P A s → ∃ v τ', zF h0 qs ks T m 29 [.ref h0] τ = some (some (.int v), τ') ∧ rPe T len cnt kk pp ee f d C' τ N S P A s G k v τ') (hz : k ≤ z) (h : rR T len cnt kk pp ee f d τ N S P A C (.inr i)) (c1 : aIs kk 1 i = true) : ∃ v τ', zF h0 qs ks T (m + 1) 25 [.ref h0, .int (pp i)] τ = some (some (.int v), τ') ∧ rPe T len cnt kk pp ee f d C τ N S P A (.inr i) (fun i => (aAs kk T G 4 (i + 1)).on fun as j => .inr (tN 15 i 0 0 s0 s0 as tZ, j)) z v τ' := by
  have hcn := h.1.cn
  have hi := h.2.2.2.2
  have hlt := h.1.lt hi (by decide) c1
  have hN : N < 2100 := by omega
  rw [zE_call]
  unfold b_call
  obtain ⟨τ1, f1, f2, f3, f4, f5, f6⟩ := q_node (h0 := h0) (qs := qs) (ks := ks) (m := m) h hN (by omega) 15 (pp i)
  rw [f1, zci_at]
  obtain ⟨x1, τ2, p1, p2, p3, p4⟩ := q_name (h0 := h0) (qs := qs) (ks := ks) (m := m) f2 (by omega)
  have es : aTo (Sum.inr i) (aMs kk 1) = .inr (i + 1) := by rw [aTo_ok]; unfold aMs; rw [if_pos c1]; rfl
  rw [es] at p2
  have x1e := p4 i rfl c1
  subst x1e
  rw [p1, zci_at, zgd_at (zin_n hN (show 2100 < 2 ^ 31 by decide)), zlet_at, nI_clamp (show N < 2 ^ 31 by omega)]
  have eN : nV τ2 N = nV τ1 N := (p3.at 0).1 N (Nat.zero_le _) (Nat.lt_succ_self N)
  have h3 := p2.a (upd (τ2.2.2.1 9) N (nI i)) (show 6 ≤ 9 by omega)
  have g3 := (f3.tr p3 (Nat.le_succ _) (Nat.le_refl _) (Nat.le_refl _) (Nat.le_refl _) (Nat.le_refl _)).a (k := 9) (x := N) (v := nI i) (rFz.n6 (by omega) (by omega) (Nat.le_refl N))
  have v0 : nV (zA τ2 9 (upd (τ2.2.2.1 9) N (nI i))) N 0 = nI 15 := by rw [nV_wn _ N _ (c := 3) rfl (by decide), eN]; exact f4
  have v1 : nV (zA τ2 9 (upd (τ2.2.2.1 9) N (nI i))) N 1 = pp i := by rw [nV_wn _ N _ (c := 3) rfl (by decide), eN]; exact f5
  have v3 : nV (zA τ2 9 (upd (τ2.2.2.1 9) N (nI i))) N 3 = nI i := nV_we _ N _ (k := 9) (q := 3) rfl
  generalize zA τ2 9 (upd (τ2.2.2.1 9) N (nI i)) = τ3 at h3 g3 v0 v1 v3 ⊢
  have w45 : τ3.1 45 = nI C := h3.2.1.2.2.2.2.2
  rw [w45]
  obtain ⟨τ', l1, N', S', P', A', a0, b, l2, l3, l4, ⟨l5a, l5b, l5c, l5d⟩, l6, l7, ⟨l8, l9, l10, l11⟩, l12, l13⟩ := q_32 (h0 := h0) (qs := qs) (ks := ks) (m := m) (n := N) hf hT hm hE hz1 hCd hd hW hz 4 T 0 (.inr (i + 1)) τ3 (N + 1) S P A (by omega) (by omega) h3 (Nat.lt_succ_self N) aA4.nd
  have eT : aTo (.inr i) (fun i => (aAs kk T G 4 (i + 1)).on fun as j => (Sum.inr (tN 15 i 0 0 s0 s0 as tZ, j) : aR tT)) = aTo (.inr (i + 1)) (aAs kk T G 4) := on_st (H := fun s => s) (fun _ => rfl) (fun _ _ => rfl)
  refine ⟨_, τ', l1, N', S', P', A', N, ?_⟩
  rw [eT]
  refine ⟨l2, g3.tr l3 (Nat.le_refl _) (Nat.le_refl _) (Nat.le_refl _) (Nat.le_refl _) (Nat.le_refl _), fun i' e => (by cases e; exact l6), fun j e => (by cases e), ⟨rfl, hN⟩, fun i' t j e e' => ?_⟩
  cases e
  obtain ⟨as, j1, y1, e'⟩ := on_ok e'
  cases e'
  obtain ⟨r1, r2⟩ := l13 _ _ _ rfl y1
  refine ⟨by omega, ⟨(Nat.le_refl _), by omega⟩, ⟨⟨(Nat.le_refl _), by omega⟩, ?_, ?_⟩, ?_, a0, b, ⟨l8, l9⟩, r2⟩
  · rw [l7 0 (by decide) (by decide)]; exact v0
  · rw [l7 1 (by decide) (by decide)]; exact v1
  · rw [l7 3 (by decide) (by decide)]; exact v3
end RCA
