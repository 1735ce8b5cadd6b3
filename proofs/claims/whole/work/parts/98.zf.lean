/-! the class's parser: a PART -/
/-- NAMES over a PART -/
def nPt (f pp ee : Nat → Int32) (p : tP) (ν : nSt) : nSt := if p.1 = 0 then ν else nUse f pp ee p.2.2 ν
theorem ovl_lg (a : Int64) : ovl (some (.long a)) = some a := rfl
theorem ovi_in (a : Int32) : ovi (some (.int a)) = some a := rfl
section CPR
variable {κ : oKv} {sz T n m len cnt : Nat} {kk pp ee f : Nat → Int32} {A : Nat → Nat} {nq ni : Int32} {rt : Value} {σ σ' : oSt} {D : cDt} {at' cd : Nat} {cn am bd nf ff : Int32} {s : Sum Nat Nat} {nm ns : Nat → Option Nat} {ν : nSt} {lo e i pa su na ta cap pc : Nat} {ps : List tP} {al : Int32}
/-- what a PART's reading gives -/
def cPz (κ : oKv) (sz T len cnt : Nat) (kk pp ee f : Nat → Int32) (A : Nat → Nat) (nq ni : Int32) (rt : Value) (D : cDt) (cd : Nat) (cn am ff : Int32) (nm ns : Nat → Option Nat) (ν : nSt) (lo e i pa su cap pc : Nat) (ps : List tP) (al : Int32) (σ : oSt) (at' : Nat) (s : Sum Nat Nat) (neg : Bool) (σ' : oSt) : Prop := ∃ (at2 : Nat) (bd2 nf2 : Int32) (ns' : Nat → Option Nat) (ps' : List tP) (na' ta' cap' pc' : Nat), cV κ sz len cnt kk pp ee f A nq ni rt σ' D at2 cd cn am bd2 nf2 ff ∧ cO pp cnt at2 bd2 (aTo s (aPt kk neg)) ∧ (σ.2.1 ≤ σ'.2.1 ∧ ∀ a, a < lo → ¬ cMu A D a → σ'.1 a = σ.1 a) ∧ cSp κ T pp ee f A D lo σ' e i cd ns' ps' al pa su na' ta' cap' pc' ∧ (σ'.2.2.1 ≤ σ.2.2.1 + 6 ∧ σ'.2.2.2 + (4 * pc - 30) + 4 * cap ≤ σ.2.2.2 + 45 + (4 * pc' - 30) + 4 * cap') ∧ ((∀ w, w < at' → ns' w = ns w) ∧ at' ≤ at2 ∧ ps'.length = ps.length + 1) ∧ (∀ i p j, s = .inr i → aPt kk neg i = .inr (p, j) → ps' = ps ++ [p] ∧ cNm pp ee f σ' D nm (nPt f pp ee p ν) cd nf2 ∧ (0 < p.1 → ns' p.2.2 = nRes f pp ee nm ν p.2.2))
set_option maxHeartbeats 4000000 in
theorem c_92 {neg : Bool} (h : cV κ sz len cnt kk pp ee f A nq ni rt σ D at' cd cn am bd nf ff) (ho : cO pp cnt at' bd s) (hn : ∀ i, s = .inr i → cNm pp ee f σ D nm ν cd nf) (hS : cSp κ T pp ee f A D lo σ e i cd ns ps al pa su na ta cap pc) (hA : ∀ k, 1 ≤ k → k ≤ 6 → A k < lo) (hp : ∀ p ∈ ps, p.2.2 < at') (hlen : ps.length ≤ 1000) (hm : 8 ≤ m) (hT : 2010 ≤ T) (hwl : ∀ j, j < cnt → wL pp ee j ≤ 10) (k43 : Option Nat → Int32 → Option Nat → Int32 → Int32 → oSt → oRs) (x1 x4 : Int32) : ∃ σ', oj_X7_sum__92 T (oF κ T m) κ k43 (some (A 0)) x1 (some e) x4 (sg neg) σ = oj_X7_sum__237 T (oF κ T m) κ k43 (some (A 0)) x1 (some e) x4 σ' ∧ cPz κ sz T len cnt kk pp ee f A nq ni rt D cd cn am ff nm ns ν lo e i pa su cap pc ps al σ at' s neg σ' := by
  unfold oj_X7_sum__92
  rw [oob_at h.2.1, obn_at, c_kind (n := m) h ho (by omega), oin_at]
  -- a NAME must stand, from a state one word further or here
  have NAM : ∀ (g : Nat) (σ1 : oSt) (at1 : Nat) (bd1 : Int32) (s1 : Sum Nat Nat), 0 < g → cV κ sz len cnt kk pp ee f A nq ni rt σ1 D at1 cd cn am bd1 nf ff → cO pp cnt at1 bd1 s1 → (∀ i, s1 = .inr i → cNm pp ee f σ1 D nm ν cd nf) → cSp κ T pp ee f A D lo σ1 e i cd ns ps al pa su na ta cap pc → at' ≤ at1 → σ1.2 = σ.2 → (∀ a, a < lo → ¬ cMu A D a → σ1.1 a = σ.1 a) → (∀ b nf2, aTo s1 (aMs kk 1) = aTo s (aPt kk neg) ∧ (∀ i' p j, s = .inr i' → aPt kk neg i' = .inr (p, j) → ∃ i1, s1 = .inr i1 ∧ aIs kk 1 i1 = true ∧ p = (g, neg, i1)) ∨ (b = nf2 ∧ False)) → ∃ σ', oj_X7_sum__190 T (oF κ T m) κ k43 (some (A 0)) x1 (some e) x4 (sg neg) (some (A 0)) (sCd g) σ1 = oj_X7_sum__237 T (oF κ T m) κ k43 (some (A 0)) x1 (some e) x4 σ' ∧ cPz κ sz T len cnt kk pp ee f A nq ni rt D cd cn am ff nm ns ν lo e i pa su cap pc ps al σ at' s neg σ' := fun g σ1 at1 bd1 s1 hg k1 k2 k3 k4 k5 k6 k7 k8 => by
    obtain ⟨σ', at2, bd2, nf2, r, na', ta', cap', pc', w1, w2, w3, ⟨w4, w4b⟩, w5, ⟨w6, w6b, w6c⟩, w7⟩ := c_190 (neg := neg) k1 k2 k3 k4 hA (fun p hpp => by have := hp p hpp; omega) hg hlen hm hT k43 x1 x4
    have k8' := (k8 (0 : Nat) (0 : Nat)).resolve_right (fun z => z.2)
    have hat : cK kk s1 = 1 → at2 = at1 + 1 := fun ck => by
      cases s1 with
      | inl j => exact absurd (show (0 : Int32) = 1 from ck) (by decide)
      | inr i1 =>
        have ck' : kk i1 = nI 1 := ck
        rw [aTo_ok] at w3
        unfold aMs aIs at w3
        rw [if_pos (decide_eq_true ck')] at w3
        have := w3.2.1
        have := k2.2.1
        omega
    refine ⟨σ', w1, at2, bd2, nf2, nSet ns at1 r, ps ++ [(g, neg, at1)], na', ta', cap', pc', w2, by rw [← k8'.1]; exact w3, ⟨by rw [← k6]; exact w4, fun a ha hmu => (w4b a ha hmu).trans (k7 a ha hmu)⟩, w5, ⟨by rw [← k6]; exact w6, ?_⟩, ⟨fun w hw => by unfold nSet; rw [if_neg (by omega)], by omega, by rw [List.length_append]; rfl⟩, fun i' p j hi' hp' => ?_⟩
    · rw [← k6]
      by_cases ck : cK kk s1 = 1
      · rw [if_pos ck] at w6b
        have : at1 < cnt := by
          have h1 := hat ck
          have h2 := w2.2.2.1
          omega
        have := hwl at1 this
        omega
      · rw [if_neg ck] at w6b
        omega
    · obtain ⟨i1, e1, e2, e3⟩ := k8'.2 i' p j hi' hp'
      obtain ⟨y1, y2⟩ := w7 i1 e1 e2
      have hi1 : at1 = i1 := by rw [e1] at k2; exact k2.2.1
      subst e3
      refine ⟨by rw [hi1], ?_, fun _ => ?_⟩
      · unfold nPt; rw [if_neg (by omega)]; exact y2
      · show nSet ns at1 r i1 = _
        unfold nSet
        rw [if_pos hi1.symm, y1]
  cases s with
  | inl j =>
    -- a fault: once through, without a NAME
    have c0 : cK kk (.inl j) = 0 := rfl
    rw [c0, if_neg (by decide), if_neg (by decide), if_neg (by decide)]
    unfold oj_X7_sum__158
    rw [if_neg (by decide), if_neg (by decide)]
    exact NAM 1 σ at' bd (.inl j) (by decide) h ho hn hS (Nat.le_refl _) rfl (fun _ _ _ => rfl) (fun _ _ => Or.inl ⟨rfl, fun i' p j' e => by cases e⟩)
  | inr i0 =>
    obtain ⟨o1, o2, o3⟩ := ho
    subst o2
    have ck : cK kk (.inr at') = kk at' := rfl
    have lt : ∀ k, 0 < k → k < 400 → kk at' = nI k → at' < cnt := fun k k1 k2 ek => by
      by_cases q : at' < cnt
      · exact q
      · rw [show at' = cnt by omega, h.1.2.2.2.2.2.1] at ek
        have := nI_inj' (a := 0) (by omega) (by omega) ek
        omega
    rw [ck]
    by_cases c2 : kk at' = nI 2
    · -- a NUMBER
      have hlt := lt 2 (by omega) (by omega) c2
      have a211 : aIs kk 211 at' = false := decide_eq_false (by rw [c2]; decide)
      have a221 : aIs kk 221 at' = false := decide_eq_false (by rw [c2]; decide)
      have a2 : aIs kk 2 at' = true := decide_eq_true c2
      have eP : aPt kk neg at' = .inr ((0, neg, at'), at' + 1) := by unfold aPt; rw [a211, a221, a2]; rfl
      rw [if_pos (show kk at' = 2 from c2)]
      obtain ⟨h1, hL, h8, h9, h10, h11, h12, h13⟩ := hS
      obtain ⟨g0, h0', y1, y2, y3, y4, y5⟩ := h8
      have f19 : ofd σ (some e) 7 19 = some (.ref su) := by rw [ofd_at h1]; rfl
      have f3 : ofd σ (some su) 11 3 = some (.long (sPl T (fun j => f j &&& 255) pp ee ps)) := by rw [ofd_at y1]; rfl
      have f0 : ofd σ (some (A 0)) 9 0 = some (.ref (A 1)) := by rw [ofd_at h.2.1]; rfl
      have f11 : ofd σ (some (A 0)) 9 11 = some (.int (nI at')) := by rw [ofd_at h.2.1]; rfl
      have b1 := h.1.2.1.1
      have b2 := h.1.2.1.2.1
      have b4 := h.1.2.1.2.2.2.1
      have b5 := h.1.2.1.2.2.2.2.1
      have b6 := h.1.2.1.2.2.2.2.2
      obtain ⟨w1, w2, w3, w4⟩ := h.wl hlt
      rw [f19, ovr_rf, obn_at, f3, ovl_lg, obn_at, f0, ovr_rf, obn_at, f11, ovi_in, obn_at, oob_at b1, obn_at]
      obtain ⟨m5, hm5⟩ : ∃ m5, m = m5 + 5 := ⟨m - 5, by omega⟩
      have tv := (b2.tx (by omega)).tv (κ := κ)
      have NV : oF κ T m 110 [va_rf (some (A 1)), .int (nI at')] σ = some (some (.int (nW T (fun j => f j &&& 255) pp ee at')), σ) := by
        rw [hm5, n_num (n := m5) (c := at') (cap := len + 1) b1 b4 b5 tv.tx tv.1 (by omega) (by omega) w1 w2 (by omega) (by omega) (by omega) hT]
        unfold nW
        rw [w1, w2, nI_clamp (show wA pp at' < 2 ^ 31 by omega), nI_clamp (show wA pp at' + wL pp ee at' < 2 ^ 31 by omega)]
      rw [NV, oin_at]
      have pe : opf σ (some su) 11 3 (.long (sPl T (fun j => f j &&& 255) pp ee ps + (sg neg * nW T (fun j => f j &&& 255) pp ee at').toInt64)) = some (oput σ su (.inr (11, [.ref na, .ref ta, .int (nI (sL ns ps).length), .long (sPl T (fun j => f j &&& 255) pp ee (ps ++ [(0, neg, at')]))]))) := by
        rw [opf_at y1 (show 3 < 4 by decide)]
        have : sPl T (fun j => f j &&& 255) pp ee (ps ++ [(0, neg, at')]) = sPl T (fun j => f j &&& 255) pp ee ps + (sg neg * nW T (fun j => f j &&& 255) pp ee at').toInt64 := by
          unfold sPl
          rw [List.foldl_append, List.foldl_cons, List.foldl_nil, if_pos rfl]
        rw [this]
        rfl
      rw [pe, obn_at]
      have v1 := h.fl (fs' := [.ref na, .ref ta, .int (nI (sL ns ps).length), .long (sPl T (fun j => f j &&& 255) pp ee (ps ++ [(0, neg, at')]))]) y1 (by omega)
      have hk1 : ∀ a, a ≠ su → (oput σ su (.inr (11, [.ref na, .ref ta, .int (nI (sL ns ps).length), .long (sPl T (fun j => f j &&& 255) pp ee (ps ++ [(0, neg, at')]))]))).1 a = σ.1 a := fun a ha => oput_ne ha
      have e1 : (oput σ su (.inr (11, [.ref na, .ref ta, .int (nI (sL ns ps).length), .long (sPl T (fun j => f j &&& 255) pp ee (ps ++ [(0, neg, at')]))]))).1 su = some (.inr (11, [.ref na, .ref ta, .int (nI (sL ns ps).length), .long (sPl T (fun j => f j &&& 255) pp ee (ps ++ [(0, neg, at')]))])) := oput_eq _ _ _
      have hs1 : (oput σ su (.inr (11, [.ref na, .ref ta, .int (nI (sL ns ps).length), .long (sPl T (fun j => f j &&& 255) pp ee (ps ++ [(0, neg, at')]))]))).2 = σ.2 := rfl
      generalize oput σ su (.inr (11, [.ref na, .ref ta, .int (nI (sL ns ps).length), .long (sPl T (fun j => f j &&& 255) pp ee (ps ++ [(0, neg, at')]))])) = σ1 at v1 hk1 e1 hs1 ⊢
      rw [oob_at v1.2.1, obn_at]
      obtain ⟨q1, q2, q3, q4⟩ := c_next (κ := κ) (T := T) (n := m) v1 (show cO pp cnt at' bd (.inr at') from ⟨o1, rfl, o3⟩) hlt (by omega)
      rw [q1, ocv_at]
      -- the S with the number in it
      have esu : e ≠ su := fun z => by rw [z, y1] at h1; cases h1
      have nsu : na ≠ su := fun z => by rw [z, y1] at y2; cases y2
      have tsu : ta ≠ su := fun z => by rw [z, y1] at y3; cases y3
      have eN : sNm (ps ++ [(0, neg, at')]) = sNm ps := by
        unfold sNm
        rw [List.filter_append, List.filter_cons_of_neg (by simp)]
        simp
      have eL : sL ns (ps ++ [(0, neg, at')]) = sL ns ps := by
        unfold sL
        rw [List.foldl_append, List.foldl_cons, List.foldl_nil, if_pos rfl]
      have S1 : cSp κ T pp ee f A D lo σ1 e i cd ns (ps ++ [(0, neg, at')]) al pa su na ta cap pc := by
        obtain ⟨d, mc, g, l2, l3, l4, l5⟩ := hL
        have psu : pa ≠ su := fun z => by have w := l2.1; rw [z, y1] at w; cases w
        have dsu : d ≠ su := fun z => by
          rcases l2.2.1 with ⟨-, -, -, w⟩ | ⟨w, -⟩
          · rw [z, y1] at w; cases w
          · rw [z, y1] at w; cases w
        have ok : ∀ a, cOk A D lo σ a → cOk A D lo σ1 a := fun a ha => ⟨ha.1, by rw [hs1]; exact ha.2.1, ha.2.2⟩
        refine ⟨?_, ⟨d, mc, g, ?_, fun k p ek => ?_, ?_, ?_⟩, ⟨g0, h0', ?_, ?_, ?_, ?_, fun k b c ek => ?_⟩, ok _ h9, ok _ h10, ok _ h11, ok _ h12, ok _ h13⟩
        · unfold sLn
          rw [eN, hk1 e esu]
          exact h1
        · rw [eN]
          exact l2.keep (hk1 pa psu) (hk1 d dsu) (fun a fs ea => ⟨fs, by rw [hk1 a (fun z => by rw [z, y1] at ea; cases ea)]; exact ea⟩)
        · rw [eN] at ek
          obtain ⟨a, z1, z2, z3, z4⟩ := l3 k p ek
          exact ⟨a, z1, z2, ok a z3, by rw [hk1 a (fun z => by rw [z, y1] at z4; cases z4)]; exact z4⟩
        · rcases l4 with z | ⟨z, z'⟩
          · exact Or.inl (ok _ z)
          · exact Or.inr ⟨z, by rw [hk1 d dsu]; exact z'⟩
        · rw [eN]; exact ⟨l5.1, by rw [List.length_append]; show cap ≤ 2 + 2 * (ps.length + 1 - 1); have := l5.2; omega⟩
        · rw [eL]; exact e1
        · rw [hk1 na nsu]; exact y2
        · rw [hk1 ta tsu]; exact y3
        · rw [eL]; exact y4
        · rw [eL] at ek
          obtain ⟨z1, z2, fs, z3⟩ := y5 k b c ek
          exact ⟨z1, z2, fs, by rw [hk1 b (fun z => by rw [z, y1] at z3; cases z3)]; exact z3⟩
      have S2 := S1.to (ns' := ns) v1 q3 (q2.1.1.2.1 _ h.1.1.2.2.2) (fun _ _ => rfl)
      refine ⟨_, rfl, at' + 1, bd, nf, ns, ps ++ [(0, neg, at')], na, ta, cap, pc, q2, by rw [aTo_ok, eP]; exact q4, ⟨?_, fun a ha hmu => ?_⟩, S2, ⟨?_, ?_⟩, ⟨fun _ _ => rfl, Nat.le_succ _, by rw [List.length_append]; rfl⟩, fun i' p j hi' hp' => ?_⟩
      · show σ.2.1 ≤ σ1.2.1
        rw [hs1]; exact Nat.le_refl _
      · rw [oput_ne (fun z => hmu (Or.inl z)), hk1 a (by have := h11.1; omega)]
      · show σ1.2.2.1 ≤ _
        rw [hs1]; omega
      · show σ1.2.2.2 + _ + _ ≤ _
        rw [hs1]; omega
      · cases hi'
        rw [eP] at hp'
        cases hp'
        refine ⟨rfl, ?_, fun z => absurd (show 0 < 0 from z) (by decide)⟩
        unfold nPt
        rw [if_pos rfl]
        refine (hn at' rfl).gn (fun a c ea hc => ?_)
        rw [oput_ne (fun z => by rw [z, h.2.1] at ea; cases ea; exact hc.n9), hk1 a (fun z => by rw [z, y1] at ea; cases ea; rcases hc with ⟨x, y⟩ | ⟨x, y⟩ | ⟨x, y⟩ <;> cases y)]
        exact ea
    · rw [if_neg (show ¬ kk at' = 2 from c2)]
      -- len, size
      have LS : ∀ (k g : Nat), (k = 211 ∧ g = 2 ∨ k = 221 ∧ g = 3) → kk at' = nI k → ∃ σ', oj_X7_sum__154 T (oF κ T m) κ k43 (some (A 0)) x1 (some e) x4 (sg neg) (kk at') σ = oj_X7_sum__237 T (oF κ T m) κ k43 (some (A 0)) x1 (some e) x4 σ' ∧ cPz κ sz T len cnt kk pp ee f A nq ni rt D cd cn am ff nm ns ν lo e i pa su cap pc ps al σ at' (.inr at') neg σ' := fun k g hkg ek => by
        have hlt := lt k (by omega) (by omega) ek
        unfold oj_X7_sum__154
        rw [oob_at h.2.1, obn_at]
        obtain ⟨q1, q2, q3, q4⟩ := c_next (κ := κ) (T := T) (n := m) h (show cO pp cnt at' bd (.inr at') from ⟨o1, rfl, o3⟩) hlt (by omega)
        rw [q1, ocv_at]
        have hs := hS.to (ns' := ns) h q3 (q2.1.1.2.1 _ h.1.1.2.2.2) (fun _ _ => rfl)
        have code : oj_X7_sum__158 T (oF κ T m) κ k43 (some (A 0)) x1 (some e) x4 (sg neg) (kk at') (oput σ (A 0) (.inr (9, cPs A nq ni rt (at' + 1) cd cn am bd nf ff))) = oj_X7_sum__190 T (oF κ T m) κ k43 (some (A 0)) x1 (some e) x4 (sg neg) (some (A 0)) (sCd g) (oput σ (A 0) (.inr (9, cPs A nq ni rt (at' + 1) cd cn am bd nf ff))) := by
          unfold oj_X7_sum__158
          rw [ek]
          rcases hkg with ⟨rfl, rfl⟩ | ⟨rfl, rfl⟩
          · rw [if_pos (by decide)]; rfl
          · rw [if_neg (by decide), if_pos (by decide)]; rfl
        rw [code]
        have eP : aPt kk neg at' = (aMs kk 1 (at' + 1)).on fun _ j => .inr ((g, neg, at' + 1), j) := by
          unfold aPt
          rcases hkg with ⟨rfl, rfl⟩ | ⟨rfl, rfl⟩
          · rw [if_pos (show aIs kk 211 at' = true from decide_eq_true ek)]
          · rw [if_neg (show ¬ aIs kk 211 at' = true from fun z => by have := of_decide_eq_true z; rw [ek] at this; exact absurd this (by decide)), if_pos (show aIs kk 221 at' = true from decide_eq_true ek)]
        refine NAM g _ (at' + 1) bd (.inr (at' + 1)) (by omega) q2 q4 (fun _ _ => (hn at' rfl).k0 h.2.1 (fun a ha => oput_ne ha) rfl) hs (Nat.le_succ _) rfl (fun a ha hmu => oput_ne (fun z => hmu (Or.inl z))) (fun _ _ => Or.inl ⟨?_, fun i' p j hi' hp' => ?_⟩)
        · rw [aTo_ok, aTo_ok, eP]
          exact (on_st (H := fun s => s) (fun _ => rfl) (fun _ _ => rfl)).symm
        · cases hi'
          rw [eP] at hp'
          obtain ⟨u, j1, z1, hp'⟩ := on_ok hp'
          obtain ⟨z2, -⟩ := aMs_ok z1
          cases hp'
          exact ⟨at' + 1, rfl, z2, rfl⟩
      by_cases c211 : kk at' = nI 211
      · rw [if_pos (show kk at' = 211 from c211)]
        exact LS 211 2 (Or.inl ⟨rfl, rfl⟩) c211
      · rw [if_neg (show ¬ kk at' = 211 from c211)]
        by_cases c221 : kk at' = nI 221
        · rw [if_pos (show kk at' = 221 from c221)]
          exact LS 221 3 (Or.inr ⟨rfl, rfl⟩) c221
        · rw [if_neg (show ¬ kk at' = 221 from c221)]
          unfold oj_X7_sum__158
          rw [if_neg (show ¬ kk at' = 211 from c211), if_neg (show ¬ kk at' = 221 from c221)]
          have eP : aPt kk neg at' = (aMs kk 1 at').on fun _ j => .inr ((1, neg, at'), j) := by
            unfold aPt
            rw [if_neg (show ¬ aIs kk 211 at' = true from fun z => c211 (of_decide_eq_true z)), if_neg (show ¬ aIs kk 221 at' = true from fun z => c221 (of_decide_eq_true z)), if_neg (show ¬ aIs kk 2 at' = true from fun z => c2 (of_decide_eq_true z))]
          refine NAM 1 σ at' bd (.inr at') (by decide) h ⟨o1, rfl, o3⟩ hn hS (Nat.le_refl _) rfl (fun _ _ _ => rfl) (fun _ _ => Or.inl ⟨?_, fun i' p j hi' hp' => ?_⟩)
          · rw [aTo_ok, aTo_ok, eP]
            exact (on_st (H := fun s => s) (fun _ => rfl) (fun _ _ => rfl)).symm
          · cases hi'
            rw [eP] at hp'
            obtain ⟨u, j1, z1, hp'⟩ := on_ok hp'
            obtain ⟨z2, -⟩ := aMs_ok z1
            cases hp'
            exact ⟨at', rfl, z2, rfl⟩
end CPR
