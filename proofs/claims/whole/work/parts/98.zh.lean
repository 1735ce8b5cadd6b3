/-! the class's parser: the PARTS behind the first -/
theorem nUse_1 (f pp ee : Nat → Int32) (w : Nat) (ν : nSt) : (nUse f pp ee w ν).1 = ν.1 := by
  unfold nUse nBad
  split
  · split <;> rfl
  · rfl
theorem nPt_1 (f pp ee : Nat → Int32) (p : tP) (ν : nSt) : (nPt f pp ee p ν).1 = ν.1 := by
  unfold nPt
  split
  · rfl
  · exact nUse_1 ..
theorem nRes_pt (f pp ee : Nat → Int32) (nm : Nat → Option Nat) (p : tP) (ν : nSt) (w : Nat) : nRes f pp ee nm (nPt f pp ee p ν) w = nRes f pp ee nm ν w := by
  unfold nRes
  rw [nPt_1]
section CPT
variable {κ : oKv} {sz T n m len cnt : Nat} {kk pp ee f : Nat → Int32} {A : Nat → Nat} {nq ni : Int32} {rt : Value} {D : cDt} {cd : Nat} {cn am ff : Int32} {nm : Nat → Option Nat} {lo e i pa su : Nat}
set_option maxHeartbeats 4000000 in
theorem c_237 (hA : ∀ k, 1 ≤ k → k ≤ 6 → A k < lo) (hm : 8 ≤ m) (hT : 2010 ≤ T) (hwl : ∀ j, j < cnt → wL pp ee j ≤ 10) {x1 : Int32} (hx1 : ∀ j, j ≤ 2001 → ¬ x1 ≤ nI j) : ∀ (t : Nat) (x4 : Nat) (σ : oSt) (at' : Nat) (bd nf : Int32) (s : Sum Nat Nat) (ν : nSt) (ns : Nat → Option Nat) (ps : List tP) (al : Int32) (na ta cap pc : Nat), cV κ sz len cnt kk pp ee f A nq ni rt σ D at' cd cn am bd nf ff → cO pp cnt at' bd s → (∀ i, s = .inr i → cNm pp ee f σ D nm ν cd nf) → cSp κ T pp ee f A D lo σ e i cd ns ps al pa su na ta cap pc → (∀ i, s = .inr i → (∀ p ∈ ps, p.2.2 < i) ∧ 2 * ps.length ≤ i + 1 ∧ cnt < i + t) → 1 ≤ t → x4 ≤ at' → ∃ σ', oj_X7_sum__237 T (oF κ T m) κ (ol_X7_sum__43 T (oF κ T m) κ t) (some (A 0)) x1 (some e) (nI x4) σ = some (some (va_rf (some e)), σ') ∧ cSz κ sz T len cnt kk pp ee f A nq ni rt D cd cn am ff nm ns ν lo e i pa su cap pc ps al σ at' s (aSL kk t) σ' := by
  intro t
  induction t with
  | zero => intro x4 σ at' bd nf s ν ns ps al na ta cap pc h ho hn hS hp ht hx; omega
  | succ t IH =>
    intro x4 σ at' bd nf s ν ns ps al na ta cap pc h ho hn hS hp ht hx
    have hcn : cnt ≤ 2000 := by have := h.1.2.1.2.2.2.2.2; omega
    have hx2 : x4 ≤ 2000 := by have := h.2.2.1; omega
    have hx3 : nI x4 + 1 = nI (x4 + 1) := nI_1 _
    have hlt : ¬ x1 ≤ nI (x4 + 1) := hx1 (x4 + 1) (by omega)
    -- it ends here
    have STOP : oj_X7_sum__260 T (oF κ T m) κ (ol_X7_sum__43 T (oF κ T m) κ (t + 1)) (some (A 0)) x1 (some e) (nI x4) 0 σ = some (some (va_rf (some e)), σ) := by
      unfold oj_X7_sum__260
      rw [hx3, ol_X7_sum__43, if_neg hlt, if_pos rfl]
    unfold oj_X7_sum__237
    rw [oob_at h.2.1, obn_at, c_kind (n := m) h ho (by omega), oin_at]
    cases s with
    | inl j =>
      have c0 : cK kk (.inl j) = 0 := rfl
      rw [c0, if_neg (by decide), oob_at h.2.1, obn_at, c_kind (n := m) h ho (by omega), oin_at, c0, if_neg (by decide), STOP]
      exact ⟨σ, rfl, at', bd, nf, ns, ps, al, na, ta, cap, pc, h, ho, ⟨Nat.le_refl _, fun _ _ _ => rfl⟩, hS, ⟨Nat.le_refl _, Nat.le_refl _⟩, ⟨fun _ _ => rfl, Nat.le_refl _, Nat.le_refl _, Nat.le_refl _⟩, fun _ _ _ e => by cases e⟩
    | inr i0 =>
      have ho' := ho
      obtain ⟨o1, o2, o3⟩ := ho
      subst o2
      obtain ⟨p1, p2, p3⟩ := hp at' rfl
      have ck : cK kk (.inr at') = kk at' := rfl
      rw [ck]
      by_cases hs : (aIs kk 43 at' || aIs kk 45 at') = true
      · -- a sign
        have hs' : kk at' = nI 43 ∨ kk at' = nI 45 := by
          rcases Bool.or_eq_true_iff.mp hs with z | z
          · exact Or.inl (of_decide_eq_true z)
          · exact Or.inr (of_decide_eq_true z)
        have hlt' : at' < cnt := by
          by_cases q : at' < cnt
          · exact q
          · exfalso
            rw [show at' = cnt by omega, h.1.2.2.2.2.2.1] at hs'
            rcases hs' with z | z
            · exact absurd z (by decide)
            · exact absurd z (by decide)
        obtain ⟨t', rfl⟩ : ∃ t', t = t' + 1 := ⟨t - 1, by omega⟩
        -- once more
        have GO : oj_X7_sum__255 T (oF κ T m) κ (ol_X7_sum__43 T (oF κ T m) κ (t' + 1 + 1)) (some (A 0)) x1 (some e) (nI x4) σ = oj_X7_sum__83 T (oF κ T m) κ (ol_X7_sum__43 T (oF κ T m) κ (t' + 1)) (some (A 0)) x1 (some e) (nI (x4 + 1)) (sg (aIs kk 45 at')) σ := by
          unfold oj_X7_sum__255 oj_X7_sum__260
          rw [hx3, ol_X7_sum__43, if_neg hlt, if_neg (by decide), oob_at h.2.1, obn_at, c_kind (n := m) h ho' (by omega), oin_at, ck]
          have h67 : ∀ v, oj_X7_sum__67 T (oF κ T m) κ (ol_X7_sum__43 T (oF κ T m) κ (t' + 1)) (some (A 0)) x1 (some e) (nI (x4 + 1)) v σ = oj_X7_sum__83 T (oF κ T m) κ (ol_X7_sum__43 T (oF κ T m) κ (t' + 1)) (some (A 0)) x1 (some e) (nI (x4 + 1)) v σ := fun v => by
            unfold oj_X7_sum__67
            rw [oob_at h.2.1, obn_at, c_kind (n := m) h ho' (by omega), oin_at, ck]
            split
            · rfl
            · rw [if_neg (show ¬ nI (x4 + 1) ≤ 0 from nI_ge (Nat.succ_pos x4) (by omega))]
          rcases hs' with z | z
          · have f45 : aIs kk 45 at' = false := decide_eq_false (by rw [z]; decide)
            rw [if_neg (by rw [z]; decide), h67, f45]
            rfl
          · have f45 : aIs kk 45 at' = true := decide_eq_true z
            rw [if_pos (show kk at' = 45 from z), h67, f45]
            rfl
        have GO2 : (if kk at' = 43 then oj_X7_sum__255 T (oF κ T m) κ (ol_X7_sum__43 T (oF κ T m) κ (t' + 1 + 1)) (some (A 0)) x1 (some e) (nI x4) σ
            else obn (oob σ (some (A 0)) 9) fun a7 => oin (oF κ T m 104 [va_rf (some (A 0))] σ) fun r11 s9 => if r11 = 45 then oj_X7_sum__255 T (oF κ T m) κ (ol_X7_sum__43 T (oF κ T m) κ (t' + 1 + 1)) (some (A 0)) x1 (some e) (nI x4) s9 else oj_X7_sum__260 T (oF κ T m) κ (ol_X7_sum__43 T (oF κ T m) κ (t' + 1 + 1)) (some (A 0)) x1 (some e) (nI x4) 0 s9) = oj_X7_sum__255 T (oF κ T m) κ (ol_X7_sum__43 T (oF κ T m) κ (t' + 1 + 1)) (some (A 0)) x1 (some e) (nI x4) σ := by
          rcases hs' with z | z
          · rw [if_pos (show kk at' = 43 from z)]
          · rw [if_neg (by rw [z]; decide), oob_at h.2.1, obn_at, c_kind (n := m) h ho' (by omega), oin_at, ck, if_pos (show kk at' = 45 from z)]
        rw [GO2, GO]
        -- the sign is read
        unfold oj_X7_sum__83
        obtain ⟨w1, w2⟩ := hS.al0
        obtain ⟨y1, -⟩ := hS
        rw [w1, obn_at]
        have v1 := h.fl (fs' := cSf (pp i) (nI cd) 0 (sLn ns ps) pa su) y1 (by omega)
        have hk1 : ∀ a, a ≠ e → (oput σ e (.inr (7, cSf (pp i) (nI cd) 0 (sLn ns ps) pa su))).1 a = σ.1 a := fun a ha => oput_ne ha
        have hs1 : (oput σ e (.inr (7, cSf (pp i) (nI cd) 0 (sLn ns ps) pa su))).2 = σ.2 := rfl
        generalize oput σ e (.inr (7, cSf (pp i) (nI cd) 0 (sLn ns ps) pa su)) = σ1 at w2 v1 hk1 hs1 ⊢
        obtain ⟨q1, q2, q3, q4⟩ := c_next (κ := κ) (T := T) (n := m) v1 ho' hlt' (by omega)
        rw [oob_at v1.2.1, obn_at, q1, ocv_at]
        have S2 := w2.to (ns' := ns) v1 q3 (q2.1.1.2.1 _ h.1.1.2.2.2) (fun _ _ => rfl)
        have N2 : cNm pp ee f (oput σ1 (A 0) (.inr (9, cPs A nq ni rt (at' + 1) cd cn am bd nf ff))) D nm ν cd nf := (hn at' rfl).gn (fun a c ea hc => by
          rw [oput_ne (fun z => by rw [z, h.2.1] at ea; cases ea; exact hc.n9), hk1 a (fun z => by rw [z, y1] at ea; cases ea; rcases hc with ⟨x, y⟩ | ⟨x, y⟩ | ⟨x, y⟩ <;> cases y)]
          exact ea)
        have hk2 : ∀ a, a < lo → ¬ cMu A D a → (oput σ1 (A 0) (.inr (9, cPs A nq ni rt (at' + 1) cd cn am bd nf ff))).1 a = σ.1 a := fun a ha hmu => by
          rw [oput_ne (fun z => hmu (Or.inl z)), hk1 a (by have := w2.2.2.2.1.1; omega)]
        have hs2 : (oput σ1 (A 0) (.inr (9, cPs A nq ni rt (at' + 1) cd cn am bd nf ff))).2 = σ.2 := hs1
        generalize oput σ1 (A 0) (.inr (9, cPs A nq ni rt (at' + 1) cd cn am bd nf ff)) = σ2 at q2 S2 N2 q4 hk2 hs2 ⊢
        -- the PART
        obtain ⟨σ3, g1, at3, bd3, nf3, ns3, ps3, na3, ta3, cap3, pc3, g2, g3, ⟨g4, g4b⟩, g5, ⟨g6, g6b⟩, ⟨g7, g7b, g7c⟩, g8⟩ := c_92 (neg := aIs kk 45 at') q2 q4 (fun _ _ => N2) S2 hA (fun p hpp => by have := p1 p hpp; omega) (by omega) hm hT hwl (ol_X7_sum__43 T (oF κ T m) κ (t' + 1)) x1 (nI (x4 + 1))
        rw [g1]
        rw [aTo_ok] at g3
        -- and the rest
        obtain ⟨σ4, k1, at4, bd4, nf4, ns4, ps4, al4, na4, ta4, cap4, pc4, k2, k3, ⟨k4, k4b⟩, k5, ⟨k6, k6b⟩, ⟨k7, k7b, k7c, k7d⟩, k8⟩ := IH (x4 + 1) σ3 at3 bd3 nf3 (aPt kk (aIs kk 45 at') (at' + 1)).st (match aPt kk (aIs kk 45 at') (at' + 1) with | .inr r => nPt f pp ee r.1 ν | .inl _ => ν) ns3 ps3 0 na3 ta3 cap3 pc3 g2 g3 (fun i' hi' => by
            cases ep : aPt kk (aIs kk 45 at') (at' + 1) with
            | inl j => rw [ep] at hi'; cases hi'
            | inr r => exact (g8 _ r.1 r.2 rfl ep).2.1) g5 (fun i' hi' => by
            cases ep : aPt kk (aIs kk 45 at') (at' + 1) with
            | inl j => rw [ep] at hi'; cases hi'
            | inr r =>
              rw [ep] at hi'
              have hi2 : r.2 = i' := by
                have : (Sum.inr r.2 : Sum Nat Nat) = .inr i' := hi'
                exact Sum.inr.inj this
              obtain ⟨e1, -⟩ := g8 _ r.1 r.2 rfl ep
              have wp := (aPt_w ep).2.2.2
              refine ⟨fun p' hp' => ?_, ?_, ?_⟩
              · rw [e1] at hp'
                rcases List.mem_append.mp hp' with z | z
                · have := p1 p' z; omega
                · rw [List.mem_singleton.mp z]; omega
              · omega
              · omega) (by omega) (by omega)
        rw [k1]
        have eS : ∀ j, aSL kk (t' + 1 + 1) j = if (aIs kk 43 j || aIs kk 45 j) = true then (aPt kk (aIs kk 45 j) (j + 1)).on fun p j => (aSL kk (t' + 1) j).on fun ps j' => .inr (p :: ps, j') else .inr ([], j) := fun j => rfl
        refine ⟨σ4, rfl, at4, bd4, nf4, ns4, ps4, al4, na4, ta4, cap4, pc4, k2, ?_, ⟨?_, fun a ha hmu => ?_⟩, k5, ⟨?_, ?_⟩, ⟨fun w hw => ?_, by omega, by omega, by omega⟩, fun i' q j hi' hq => ?_⟩
        · rw [aTo_ok, eS, if_pos hs]
          cases ep : aPt kk (aIs kk 45 at') (at' + 1) with
          | inl j => rw [ep] at k3; exact k3
          | inr r =>
            obtain ⟨p, j⟩ := r
            rw [ep] at k3
            have k3' : cO pp cnt at4 bd4 (aSL kk (t' + 1) j).st := k3
            show cO pp cnt at4 bd4 ((aSL kk (t' + 1) j).on fun ps j' => .inr (p :: ps, j')).st
            cases eq : aSL kk (t' + 1) j with
            | inl j2 => rw [eq] at k3'; exact k3'
            | inr r2 => rw [eq] at k3'; exact k3'
        · rw [hs2] at g4; omega
        · rw [k4b a ha hmu, g4b a ha hmu, hk2 a ha hmu]
        · rw [hs2] at g6; omega
        · rw [hs2] at g6b; omega
        · rw [k7 w (by omega), g7 w (by omega)]
        · cases hi'
          rw [eS, if_pos hs] at hq
          obtain ⟨p, j1, ep, hq⟩ := on_ok hq
          obtain ⟨q', j2, eq, hq⟩ := on_ok hq
          cases hq
          rw [ep] at k8
          obtain ⟨z1, z2, z3⟩ := g8 _ p j1 rfl ep
          obtain ⟨u1, u2, u3, u4⟩ := k8 j1 q' j rfl eq
          have wp := (aPt_w ep).2.2.2
          have at3e : at3 = j1 := by rw [ep] at g3; exact g3.2.1
          refine ⟨by rw [u1, z1, List.append_assoc]; rfl, u2, fun p' hp' hg => ?_, by rw [u4]; simp⟩
          rcases List.mem_cons.mp hp' with z | z
          · rw [z] at hg ⊢
            rw [k7 p.2.2 (by omega)]
            exact z3 hg
          · have := u3 p' z hg
            rw [this]
            exact nRes_pt ..
      · -- no sign
        have n43 : ¬ kk at' = 43 := fun z => hs (by rw [show aIs kk 43 at' = true from decide_eq_true z]; rfl)
        have n45 : ¬ kk at' = 45 := fun z => hs (by rw [show aIs kk 45 at' = true from decide_eq_true z]; exact Bool.or_true _)
        rw [if_neg n43, oob_at h.2.1, obn_at, c_kind (n := m) h ho' (by omega), oin_at, ck, if_neg n45, STOP]
        have eS : aSL kk (t + 1) at' = .inr ([], at') := if_neg hs
        refine ⟨σ, rfl, at', bd, nf, ns, ps, al, na, ta, cap, pc, h, by rw [aTo_ok, eS]; exact ho', ⟨Nat.le_refl _, fun _ _ _ => rfl⟩, hS, ⟨Nat.le_refl _, Nat.le_refl _⟩, ⟨fun _ _ => rfl, Nat.le_refl _, Nat.le_refl _, Nat.le_refl _⟩, fun i' q j hi' hq => ?_⟩
        cases hi'
        rw [eS] at hq
        cases hq
        exact ⟨(List.append_nil _).symm, hn at' rfl, fun p hp _ => absurd hp (List.not_mem_nil), rfl⟩
end CPT
