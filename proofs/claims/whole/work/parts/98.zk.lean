/-! the class's parser: an S, whole and of one PART -/
section CPY
variable {κ : oKv} {sz T n m len cnt : Nat} {kk pp ee f : Nat → Int32} {A : Nat → Nat} {nq ni : Int32} {rt : Value} {σ σ' : oSt} {D : cDt} {at' cd : Nat} {cn am bd nf ff : Int32} {s : Sum Nat Nat} {nm ns : Nat → Option Nat} {ν : nSt}
theorem cFr.mk' (h : cV κ sz len cnt kk pp ee f A nq ni rt σ D at' cd cn am bd nf ff) (h1 : σ.2.1 ≤ σ'.2.1) (h2 : ∀ a, a < σ.2.1 → ¬ cMu A D a → σ'.1 a = σ.1 a) : cFr A σ D σ' D := ⟨h1, h2, Or.inl rfl, Or.inl rfl⟩
theorem aSg_to {F : Nat → aR tP} (s : Sum Nat Nat) (F' : Bool → Nat → aR tP) : aTo (aSg kk s) (F' (aNg kk s)) = aTo s (fun i => F' (aIs kk 45 i) (if aIs kk 45 i = true then i + 1 else i)) := by
  cases s with
  | inl j => rfl
  | inr i => rfl
set_option maxHeartbeats 1000000 in
/-- an S's first PART -/
theorem c_s2 {t : Nat} {x1 : Int32} (hx1 : ¬ x1 ≤ 0) (h : cV κ sz len cnt kk pp ee f A nq ni rt σ D at' cd cn am bd nf ff) (ho : cO pp cnt at' bd s) (hn : ∀ i, s = .inr i → cNm pp ee f σ D nm ν cd nf) (hm : 8 ≤ m) (hT : 2010 ≤ T) (hT' : T = t + 1) (hwl : ∀ j, j < cnt → wL pp ee j ≤ 10) : ∃ σ', oF κ T (m + 1) 120 [va_rf (some (A 0)), .int x1] σ = oj_X7_sum__237 T (oF κ T m) κ (ol_X7_sum__43 T (oF κ T m) κ t) (some (A 0)) x1 (some σ.2.1) 0 σ' ∧ ∃ (at2 : Nat) (bd2 nf2 : Int32) (ns' : Nat → Option Nat) (p' : tP) (na' ta' cap' pc' : Nat), cV κ sz len cnt kk pp ee f A nq ni rt σ' D at2 cd cn am bd2 nf2 ff ∧ cO pp cnt at2 bd2 (aTo s (fun i => aPt kk (aIs kk 45 i) (if aIs kk 45 i = true then i + 1 else i))) ∧ (σ.2.1 ≤ σ'.2.1 ∧ ∀ a, a < σ.2.1 → ¬ cMu A D a → σ'.1 a = σ.1 a) ∧ cSp κ T pp ee f A D σ.2.1 σ' σ.2.1 at' cd ns' [p'] (if aNg kk s = true then 0 else cK kk s) (σ.2.1 + 4) (σ.2.1 + 1) na' ta' cap' pc' ∧ (σ'.2.2.1 ≤ σ.2.2.1 + 11 ∧ σ'.2.2.2 + 8 ≤ σ.2.2.2 + 77 + (4 * pc' - 30) + 4 * cap') ∧ at' ≤ at2 ∧ (∀ i p j, s = .inr i → aPt kk (aIs kk 45 i) (if aIs kk 45 i = true then i + 1 else i) = .inr (p, j) → p' = p ∧ cNm pp ee f σ' D nm (nPt f pp ee p ν) cd nf2 ∧ (0 < p.1 → ns' p.2.2 = nRes f pp ee nm ν p.2.2)) := by
  obtain ⟨σ1, a1, a2, a3, a4, a5, a6⟩ := c_s0 (κ := κ) (T := T) (m := m) (x1 := x1) (ns := fun _ => none) h ho hm
  have hA := h.lo
  have N1 : ∀ i, s = .inr i → cNm pp ee f σ1 D nm ν cd nf := fun i hi => (hn i hi).ex h.1.1.1 a2
  rw [a1]
  obtain ⟨σ2, at1, b1, b2, b3, b4, b5, b6, b7, b8⟩ := c_s1 (κ := κ) (T := T) (m := m) (t := t) (nm := nm) (ν := ν) hx1 a3 ho a5 hm
  rw [← hT'] at b1
  rw [b1]
  obtain ⟨σ3, g1, at3, bd3, nf3, ns3, ps3, na3, ta3, cap3, pc3, g2, g3, ⟨g4, g4b⟩, g5, ⟨g6, g6b⟩, ⟨g7, g7b, g7c⟩, g8⟩ := c_92 (ν := ν) (nm := nm) (neg := aNg kk s) b2 b3 (fun i hi => by
    cases s with
    | inl j => cases hi
    | inr i0 => exact b8 (N1 i0 rfl)) b4 hA (fun p hp => absurd hp List.not_mem_nil) (Nat.zero_le _) hm hT hwl (ol_X7_sum__43 T (oF κ T m) κ t) x1 0
  obtain ⟨p', rfl⟩ : ∃ p', ps3 = [p'] := List.length_eq_one_iff.mp g7c
  refine ⟨σ3, g1, at3, bd3, nf3, ns3, p', na3, ta3, cap3, pc3, g2, ?_, ⟨?_, fun a ha hmu => ?_⟩, g5, ⟨?_, ?_⟩, by omega, fun i p j hi hp => ?_⟩
  · rw [← aSg_to (F := aPt kk true) s (aPt kk)]; exact g3
  · rw [b5, a6] at g4; exact Nat.le_trans (Nat.le_add_right _ _) g4
  · rw [g4b a ha hmu, b6 a ha hmu, a2 a ha]
  · rw [b5, a6] at g6
    have g6' : σ3.2.2.1 ≤ σ.2.2.1 + 5 + 6 := g6
    omega
  · rw [b5, a6] at g6b
    have g6' : σ3.2.2.2 + (4 * 0 - 30) + 4 * 2 ≤ σ.2.2.2 + 32 + 45 + (4 * pc3 - 30) + 4 * cap3 := g6b
    omega
  · cases hi
    obtain ⟨z1, z2, z3⟩ := g8 _ p j rfl hp
    refine ⟨?_, z2, z3⟩
    have z1' : [p'] = [p] := z1
    injection z1'
set_option maxHeartbeats 1000000 in
/-- sum(1) -/
theorem c_sum1 (h : cV κ sz len cnt kk pp ee f A nq ni rt σ D at' cd cn am bd nf ff) (ho : cO pp cnt at' bd s) (hn : ∀ i, s = .inr i → cNm pp ee f σ D nm ν cd nf) (hm : 8 ≤ m) (hT : 2010 ≤ T) (hwl : ∀ j, j < cnt → wL pp ee j ≤ 10) : ∃ σ', oF κ T (m + 1) 120 [va_rf (some (A 0)), .int 1] σ = some (some (va_rf (some σ.2.1)), σ') ∧ ∃ at2 bd2 nf2 ns' ps' al' pa su na ta cap pc, cSo κ sz T len cnt kk pp ee f A nq ni rt D cd cn am ff nm ν σ at' s (aS1 kk) σ' at2 bd2 nf2 ns' ps' al' pa su na ta cap pc := by
  obtain ⟨t, hT'⟩ : ∃ t, T = t + 1 := ⟨T - 1, by omega⟩
  obtain ⟨σ', a1, at2, bd2, nf2, ns', p', na', ta', cap', pc', a2, a3, ⟨a4, a4b⟩, a5, ⟨a6, a6b⟩, a7, a8⟩ := c_s2 (κ := κ) (T := T) (m := m) (x1 := 1) (by decide) h ho hn hm hT hT' hwl
  have cp := a5.cp
  have l1 : [p'].length = 1 := rfl
  rw [l1] at cp
  have K : ∀ v, oj_X7_sum__260 T (oF κ T m) κ (ol_X7_sum__43 T (oF κ T m) κ t) (some (A 0)) 1 (some σ.2.1) 0 v σ' = some (some (va_rf (some σ.2.1)), σ') := fun v => by
    obtain ⟨t', rfl⟩ : ∃ t', t = t' + 1 := ⟨t - 1, by omega⟩
    unfold oj_X7_sum__260
    rw [ol_X7_sum__43, if_pos (by decide)]
  refine ⟨σ', ?_, at2, bd2, nf2, ns', [p'], _, _, _, na', ta', cap', pc', a2, ?_, cFr.mk' h a4 a4b, a5, ⟨by rw [l1]; omega, by rw [l1]; omega⟩, ⟨a7, by rw [l1]; omega, by rw [l1]; omega⟩, fun i t j hi ht => ?_⟩
  · rw [a1]
    unfold oj_X7_sum__237 oj_X7_sum__255
    rw [oob_at a2.2.1, obn_at, c_kind (n := m) a2 a3 (by omega), oin_at, oob_at a2.2.1, obn_at, c_kind (n := m) a2 a3 (by omega), oin_at, K, K]
    split
    · rfl
    · split <;> rfl
  · cases s with
    | inl j => exact a3
    | inr i =>
      rw [aTo_ok] at a3 ⊢
      unfold aS1
      cases ep : aPt kk (aIs kk 45 i) (if aIs kk 45 i = true then i + 1 else i) with
      | inl j => rw [ep] at a3; exact a3
      | inr r => rw [ep] at a3; exact a3
  · subst hi
    unfold aS1 at ht
    obtain ⟨p, j1, ep, ht⟩ := on_ok ht
    cases ht
    obtain ⟨z1, z2, z3⟩ := a8 i p j rfl ep
    refine ⟨rfl, by rw [z1], z2, fun q hq hg => ?_, ?_⟩
    · rw [List.mem_singleton.mp hq] at hg ⊢; exact z3 hg
    · unfold tAl
      rw [if_pos (show [p].length = 1 from rfl)]
      rfl
set_option maxHeartbeats 1000000 in
/-- sum() -/
theorem c_sum (h : cV κ sz len cnt kk pp ee f A nq ni rt σ D at' cd cn am bd nf ff) (ho : cO pp cnt at' bd s) (hn : ∀ i, s = .inr i → cNm pp ee f σ D nm ν cd nf) (hm : 8 ≤ m) (hT : 2010 ≤ T) (hwl : ∀ j, j < cnt → wL pp ee j ≤ 10) : ∃ σ', oF κ T (m + 2) 121 [va_rf (some (A 0))] σ = some (some (va_rf (some σ.2.1)), σ') ∧ ∃ at2 bd2 nf2 ns' ps' al' pa su na ta cap pc, cSo κ sz T len cnt kk pp ee f A nq ni rt D cd cn am ff nm ν σ at' s (aSm kk T) σ' at2 bd2 nf2 ns' ps' al' pa su na ta cap pc := by
  obtain ⟨t, hT'⟩ : ∃ t, T = t + 1 := ⟨T - 1, by omega⟩
  have hcn : cnt ≤ 2000 := by have := h.1.2.1.2.2.2.2.2; have := h.1.2.1.2.2.2.2.1; omega
  obtain ⟨σ1, a1, at2, bd2, nf2, ns', p', na', ta', cap', pc', a2, a3, ⟨a4, a4b⟩, a5, ⟨a6, a6b⟩, a7, a8⟩ := c_s2 (κ := κ) (T := T) (m := m) (x1 := 1000000) (by decide) h ho hn hm hT hT' hwl
  have l1 : [p'].length = 1 := rfl
  have hx1 : ∀ j, j ≤ 2001 → ¬ (1000000 : Int32) ≤ nI j := fun j hj => by
    have e : (1000000 : Int32) = nI 1000000 := by decide
    rw [e]
    exact nI_ge (by omega) (by omega)
  have o0 : (0 : Int32) = nI 0 := rfl
  obtain ⟨σ', k1, at4, bd4, nf4, ns4, ps4, al4, na4, ta4, cap4, pc4, k2, k3, ⟨k4, k4b⟩, k5, ⟨k6, k6b⟩, ⟨k7, k7b, k7c, k7d⟩, k8⟩ := c_237 (nm := nm) (cd := cd) h.lo hm hT hwl hx1 t 0 σ1 at2 bd2 nf2 _ (match s with | .inl _ => ν | .inr i => match aPt kk (aIs kk 45 i) (if aIs kk 45 i = true then i + 1 else i) with | .inr r => nPt f pp ee r.1 ν | .inl _ => ν) ns' [p'] _ na' ta' cap' pc' a2 a3 (fun i' hi' => by
    cases s with
    | inl j => cases hi'
    | inr i =>
      rw [aTo_ok] at hi'
      show cNm pp ee f σ1 D nm (match aPt kk (aIs kk 45 i) (if aIs kk 45 i = true then i + 1 else i) with | .inr r => nPt f pp ee r.1 ν | .inl _ => ν) cd nf2
      cases ep : aPt kk (aIs kk 45 i) (if aIs kk 45 i = true then i + 1 else i) with
      | inl j => rw [ep] at hi'; cases hi'
      | inr r => exact (a8 i r.1 r.2 rfl ep).2.1) a5 (fun i' hi' => by
    cases s with
    | inl j => cases hi'
    | inr i =>
      rw [aTo_ok] at hi'
      cases ep : aPt kk (aIs kk 45 i) (if aIs kk 45 i = true then i + 1 else i) with
      | inl j => rw [ep] at hi'; cases hi'
      | inr r =>
        rw [ep] at hi'
        have hi2 : r.2 = i' := by
          have : (Sum.inr r.2 : Sum Nat Nat) = .inr i' := hi'
          exact Sum.inr.inj this
        obtain ⟨e1, -⟩ := a8 i r.1 r.2 rfl ep
        have wp := (aPt_w ep).2.2.2
        refine ⟨fun q hq => ?_, by rw [l1]; omega, by omega⟩
        rw [List.mem_singleton.mp hq, e1]; omega) (by omega) (Nat.zero_le _)
  have cp := k5.cp
  rw [← o0] at k1
  rw [l1] at k6 k6b k7c k7d
  refine ⟨σ', ?_, at4, bd4, nf4, ns4, ps4, al4, _, _, na4, ta4, cap4, pc4, k2, ?_, cFr.mk' h (by omega) (fun a ha hmu => by rw [k4b a ha hmu, a4b a ha hmu]), k5, ⟨by omega, by omega⟩, ⟨by omega, ?_, by omega⟩, fun i t' j hi ht => ?_⟩
  · rw [oE_X7_sum]
    unfold ob_X7_sum
    rw [oob_at h.2.1, obn_at, a1, k1, orn_at]
  · cases s with
    | inl j => exact k3
    | inr i =>
      rw [aTo_ok] at k3 ⊢
      unfold aSm
      cases ep : aPt kk (aIs kk 45 i) (if aIs kk 45 i = true then i + 1 else i) with
      | inl j => rw [ep] at k3; exact k3
      | inr r =>
        rw [ep] at k3
        have k3' : cO pp cnt at4 bd4 (aSL kk t r.2).st := k3
        rw [aTo_ok, ep] at a3
        have wp := (aPt_w ep).2.2.2
        rw [aSL_fu h.1.2.2.2.2.2.1 t T r.2 a3.2.2 (by omega) (by omega)] at k3'
        show cO pp cnt at4 bd4 ((aSL kk T r.2).on fun ps j' => (.inr ((i, r.1 :: ps), j') : aR tS)).st
        cases eq : aSL kk T r.2 with
        | inl j2 => rw [eq] at k3'; exact k3'
        | inr r2 => rw [eq] at k3'; exact k3'
  · omega
  · subst hi
    unfold aSm at ht
    obtain ⟨p, j1, ep, ht⟩ := on_ok ht
    obtain ⟨q, j2, eq, ht⟩ := on_ok ht
    cases ht
    obtain ⟨z1, z2, z3⟩ := a8 i p j1 rfl ep
    rw [aTo_ok, ep] at a3
    have wp := (aPt_w ep).2.2.2
    have at2e : at2 = j1 := a3.2.1
    rw [← aSL_fu h.1.2.2.2.2.2.1 t T j1 a3.2.2 (by omega) (by omega)] at eq
    obtain ⟨u1, u2, u3, u4⟩ := k8 j1 q j (by rw [aTo_ok, ep]; rfl) eq
    have eν : (match aPt kk (aIs kk 45 i) (if aIs kk 45 i = true then i + 1 else i) with | .inr r => nPt f pp ee r.1 ν | .inl _ => ν) = nPt f pp ee p ν := by rw [ep]
    refine ⟨rfl, by rw [u1, z1]; rfl, ?_, fun p2 hp2 hg => ?_, ?_⟩
    · have u2' : cNm pp ee f σ' D nm (q.foldl (fun ν p => nPt f pp ee p ν) (match aPt kk (aIs kk 45 i) (if aIs kk 45 i = true then i + 1 else i) with | .inr r => nPt f pp ee r.1 ν | .inl _ => ν)) cd nf4 := u2
      rw [eν] at u2'
      exact u2'
    · rcases List.mem_cons.mp hp2 with z | z
      · rw [z] at hg ⊢
        rw [k7 p.2.2 (by omega)]
        exact z3 hg
      · have w : ns4 p2.2.2 = nRes f pp ee nm (match aPt kk (aIs kk 45 i) (if aIs kk 45 i = true then i + 1 else i) with | .inr r => nPt f pp ee r.1 ν | .inl _ => ν) p2.2.2 := u3 p2 z hg
        rw [eν, nRes_pt] at w
        exact w
    · rw [u4]
      unfold tAl
      show (if q = [] then (if aIs kk 45 i = true then 0 else kk i) else 0) = if aIs kk 45 i = true then 0 else if (p :: q).length = 1 then kk i else 0
      cases q with
      | nil => rfl
      | cons q0 q1 =>
        rw [if_neg (by simp)]
        split
        · rfl
        · rw [if_neg (by simp)]
end CPY
