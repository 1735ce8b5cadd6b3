/-! the class's parser: NAMES: textOf, counts, use -/
theorem tEq_cg {l l' : Nat} {a a' b b' : Nat → Int32} (h1 : ∀ j, j < l → a j = b j) (h2 : ∀ j, j < l' → a' j = b' j) : tEq l a l' a' = tEq l b l' b' := by
  unfold tEq
  rw [decide_eq_decide]
  constructor
  · intro h
    refine ⟨h.1, fun j hj => ?_⟩
    rw [← h1 j hj, ← h2 j (by omega)]
    exact h.2 j hj
  · intro h
    refine ⟨h.1, fun j hj => ?_⟩
    rw [h1 j hj, h2 j (by omega)]
    exact h.2 j hj
section CPN
variable {κ : oKv} {sz T n len cnt : Nat} {kk pp ee f : Nat → Int32} {A : Nat → Nat} {nq ni : Int32} {rt : Value} {σ σ' : oSt} {D : cDt} {at' cd : Nat} {cn am bd nf ff : Int32} {s : Sum Nat Nat} {nm : Nat → Option Nat} {ν : nSt}
/-- the parser's state where nothing old has changed -/
theorem cV.ex (h : cV κ sz len cnt kk pp ee f A nq ni rt σ D at' cd cn am bd nf ff) (h1 : ∀ a, a < σ.2.1 → σ'.1 a = σ.1 a) (h2 : ∀ q, σ'.2.1 ≤ q → σ'.1 q = none) (h3 : σ.2.1 ≤ σ'.2.1) : cV κ sz len cnt kk pp ee f A nq ni rt σ' D at' cd cn am bd nf ff ∧ cFr A σ D σ' D := by
  obtain ⟨hg, h0, h4, h5, h6⟩ := h
  refine ⟨⟨hg.gen (fun a ha => h1 a (hg.lt ha)) (fun a fs e => ⟨fs, by rw [h1 a (alt hg.1.1 e)]; exact e⟩) (fun a fs e => ⟨fs, by rw [h1 a (alt hg.1.1 e)]; exact e⟩) h2 (fun q hq => by have := hg.1.2.2.1; rw [h1 q (by omega)]; exact hg.1.2.1 q hq) h3, by rw [h1 _ (alt hg.1.1 h0)]; exact h0, h4, h5, h6⟩, h3, fun a ha _ => h1 a ha, Or.inl rfl, Or.inl rfl⟩
/-- cells of NAMES and their texts -/
def cTy (c : oC) : Prop := (∃ fs, c = .inr (6, fs)) ∨ (∃ fs, c = .inr (0, fs)) ∨ (∃ x, c = .inl (.byte, x))
theorem cNc.keep {b w : Nat} (h : cNc pp ee f σ b w) (hk : ∀ a c, σ.1 a = some c → cTy c → σ'.1 a = some c) : cNc pp ee f σ' b w := by
  obtain ⟨q, u, i1, i2, i3, g, h1, ⟨h2, h3, h4, h5⟩, h6⟩ := h
  exact ⟨q, u, i1, i2, i3, g, hk _ _ h1 (Or.inl ⟨_, rfl⟩), ⟨hk _ _ h2 (Or.inr (Or.inl ⟨_, rfl⟩)), hk _ _ h3 (Or.inr (Or.inr ⟨_, rfl⟩)), h4, h5⟩, h6⟩
theorem cTy.n1 {fs : List Value} (h : cTy (.inr (1, fs))) : False := by
  rcases h with ⟨x, e⟩ | ⟨x, e⟩ | ⟨x, e⟩
  · cases e
  · cases e
  · cases e
theorem cTy.n9 {fs : List Value} (h : cTy (.inr (9, fs))) : False := by
  rcases h with ⟨x, e⟩ | ⟨x, e⟩ | ⟨x, e⟩
  · cases e
  · cases e
  · cases e
theorem cTy.no {C : String} {x : vp_A} (h : cTy (.inl (.object C, x))) : False := by
  rcases h with ⟨x, e⟩ | ⟨x, e⟩ | ⟨x, e⟩
  · cases e
  · cases e
  · cases e
/-- NAMES where only the parser's own object has changed -/
theorem cNm.k0 {nf2 : Int32} {ps : List Value} (h : cNm pp ee f σ D nm ν cd nf) (h0 : σ.1 (A 0) = some (.inr (9, ps))) (hk : ∀ a, a ≠ A 0 → σ'.1 a = σ.1 a) (hnf : nf2 = nf) : cNm pp ee f σ' D nm ν cd nf2 := by
  obtain ⟨h1, h2, h3, h4, h5, h6⟩ := h
  subst hnf
  have kc : ∀ b u, cNc pp ee f σ b u → cNc pp ee f σ' b u := fun b u e3 => e3.keep (fun a c ea hc => by rw [hk a (fun z => by rw [z, h0] at ea; cases ea; exact hc.n9)]; exact ea)
  refine ⟨h1, fun k u e hk12 => ?_, h3, h4, h5, fun u hu => ?_⟩
  · obtain ⟨b, e1, e2, e3⟩ := h2 k u e hk12
    exact ⟨b, e1, e2, kc b u e3⟩
  · obtain ⟨b, e1, e2⟩ := h6 u hu
    exact ⟨b, e1, kc b u e2⟩
/-- NAMES where nothing old has changed -/
theorem cNm.ex (h : cNm pp ee f σ D nm ν cd nf) (hf : ∀ q, σ.2.1 ≤ q → σ.1 q = none) (hk : ∀ a, a < σ.2.1 → σ'.1 a = σ.1 a) : cNm pp ee f σ' D nm ν cd nf := by
  obtain ⟨h1, h2, h3, h4, h5, h6⟩ := h
  have kc : ∀ b u, cNc pp ee f σ b u → cNc pp ee f σ' b u := fun b u e3 => e3.keep (fun a c ea _ => by rw [hk a (alt hf ea)]; exact ea)
  refine ⟨h1, fun k u e hk12 => ?_, h3, h4, h5, fun u hu => ?_⟩
  · obtain ⟨b, e1, e2, e3⟩ := h2 k u e hk12
    exact ⟨b, e1, e2, kc b u e3⟩
  · obtain ⟨b, e1, e2⟩ := h6 u hu
    exact ⟨b, e1, kc b u e2⟩
theorem cV.wl (h : cV κ sz len cnt kk pp ee f A nq ni rt σ D at' cd cn am bd nf ff) {i : Nat} (hi : i < cnt) : pp i = nI (wA pp i) ∧ ee i = nI (wA pp i + wL pp ee i) ∧ 0 < wL pp ee i ∧ wA pp i + wL pp ee i ≤ len := by
  obtain ⟨⟨-, ⟨-, -, -, -, -, b6, b7⟩, -, -, e1, e2, e3⟩, -⟩ := h
  obtain ⟨a, e, q1, q2, q3, q4⟩ := e1 i hi
  unfold wL wA
  rw [q1, q2, nI_clamp (by omega), nI_clamp (by omega)]
  refine ⟨rfl, by rw [show a + (e - a) = e by omega], by omega, by omega⟩
/-- the text of word i -/
theorem c_text {i : Nat} (h : cV κ sz len cnt kk pp ee f A nq ni rt σ D at' cd cn am bd nf ff) (hi : i < cnt) (hm : 7 ≤ n) : ∃ q u σ' g, oF κ T n 113 [va_rf (some (A 1)), .int (nI i)] σ = some (some (va_rf (some q)), σ') ∧ cTx σ' q u (wL pp ee i) g ∧ (∀ j, j < wL pp ee i → g j = f (wA pp i + j)) ∧ (∀ z, z < σ.2.1 → σ'.1 z = σ.1 z) ∧ (∀ z, σ'.2.1 ≤ z → σ'.1 z = none) ∧ (σ.2.1 ≤ σ'.2.1 ∧ σ'.2.2.1 ≤ σ.2.2.1 + 2 ∧ σ'.2.2.2 ≤ σ.2.2.2 + 4 + wL pp ee i ∧ (wA pp i = 0 ∨ (σ.2.1 ≤ q ∧ σ.2.1 ≤ u))) := by
  obtain ⟨m, rfl⟩ : ∃ m, n = m + 7 := ⟨n - 7, by omega⟩
  obtain ⟨w1, w2, w3, w4⟩ := h.wl hi
  obtain ⟨⟨⟨a1, -⟩, ⟨b1, b2, b3, b4, b5, b6, b7⟩, -⟩, -⟩ := h
  replace b2 := b2.tx (by omega)
  have z1 : zin (nI i) (len + 1) = true := zin_n (by omega) (by omega)
  have ci : (nI i).toNatClampNeg = i := nI_clamp (by omega)
  have f0 : ofd σ (some (A 1)) 13 0 = some (.ref (A 2)) := by rw [ofd_at b1]; rfl
  have f2 : ofd σ (some (A 1)) 13 2 = some (.ref (A 5)) := by rw [ofd_at b1]; rfl
  have f3 : ofd σ (some (A 1)) 13 3 = some (.ref (A 6)) := by rw [ofd_at b1]; rfl
  rw [oE_X11_textOf]
  unfold ob_X11_textOf
  simp only [f0, f2, f3, ovr, obn, oai_at b4 z1, oai_at b5 z1, ci, oob_at b2.1]
  obtain ⟨q, u, σ', g, e1, e2, e3, e4, e5, e6⟩ := s_sub (κ := κ) (T := T) (n := m) (a := wA pp i) (e := wA pp i + wL pp ee i) b2 (by omega) (by omega) (by omega) a1
  rw [w1, w2, e1, orn_at]
  rw [Nat.add_sub_cancel_left] at e2 e3 e6
  refine ⟨q, u, σ', g, rfl, e2, e3, e4, e5, ?_⟩
  rcases e6 with ⟨-, z, z0⟩ | ⟨z1, z2, z⟩
  · rw [z]; exact ⟨Nat.le_refl _, by omega, by omega, Or.inl z0⟩
  · rw [z]; exact ⟨Nat.le_add_right _ _, Nat.le_refl _, Nat.le_refl _, Or.inr ⟨by omega, by omega⟩⟩
set_option maxHeartbeats 1000000 in
/-- counts(text): the first of the first 12 that count -/
theorem c_counts {q u w : Nat} {g : Nat → Int32} (h : cV κ sz len cnt kk pp ee f A nq ni rt σ D at' cd cn am bd nf ff) (hn : cNm pp ee f σ D nm ν cd nf) (ht : cTx σ q u (wL pp ee w) g) (hg : ∀ j, j < wL pp ee w → g j = f (wA pp w + j)) (hm : 3 ≤ n) (hT : 2010 ≤ T) : oF κ T n 114 [va_rf (some (A 0)), va_rf (some q)] σ = some (some (va_rf ((nFind f pp ee ν.1 w).bind nm)), σ) := by
  obtain ⟨m, rfl⟩ : ∃ m, n = m + 3 := ⟨n - 3, by omega⟩
  have hh := h
  obtain ⟨hG, h0, h4, h5, h6⟩ := h
  obtain ⟨n1, n2, n3, n4⟩ := hn
  have f12 : ofd σ (some (A 0)) 9 12 = some (.int (nI cd)) := by rw [ofd_at h0]; rfl
  have f1 : ofd σ (some (A 0)) 9 1 = some (.ref (A 7)) := by rw [ofd_at h0]; rfl
  have c7 := hG.2.2.1
  have LP : ∀ (t i : Nat), i ≤ cd → i ≤ 12 → cd + 1 < i + t ∨ 13 < i + t → (∀ k x, k < i → ν.1[k]? = some x → wEq f pp ee x w = false) → ol_X7_counts_2 T (oF κ T (m + 2)) κ t (some (A 0)) (some q) (nI i) σ = some (some (va_rf (((((ν.1.take 12).drop i).find? (fun x => wEq f pp ee x w))).bind nm)), σ) := by
    intro t
    induction t with
    | zero => intro i h1 h2 h3; omega
    | succ t IH =>
      intro i h1 h2 h3 h7
      rw [ol_X7_counts_2]
      simp only [f12, f1, ovi, ovr, obn]
      by_cases c : i < cd
      · rw [if_neg (nI_ge c (by omega))]
        by_cases c12 : i < 12
        · rw [if_neg (show ¬ (12 : Int32) ≤ nI i from show ¬ nI 12 ≤ nI i from nI_ge c12 (by omega))]
          have hx : ν.1[i]? = some (ν.1[i]'(by omega)) := List.getElem?_eq_getElem (by omega)
          generalize hxe : ν.1[i]'(by omega) = x at hx
          obtain ⟨b, e1, e2, e3⟩ := n2 i x hx c12
          obtain ⟨q', u', i1, i2, i3, g', t1, t2, t3⟩ := e3
          have er : oar σ (some (A 7)) (nI i) = some (some b) := by simp only [oar, c7, zin_n c12 (show 12 < 2 ^ 31 by decide), if_true, nI_clamp (show i < 2 ^ 31 by omega), e1]
          have fb : ofd σ (some b) 6 0 = some (.ref q') := by rw [ofd_at t1]; rfl
          have tv := t2.tv (κ := κ)
          simp only [er, fb]
          rw [tv.1]
          simp only []
          have hxm : x ∈ ν.1 := by rw [← hxe]; exact List.getElem_mem _
          rw [s_equals (n := m) tv ht (by have := n4.2.1 x hxm; omega), oin_at]
          have eq : tEq (wL pp ee x) g' (wL pp ee w) g = wEq f pp ee x w := tEq_cg t3.1 hg
          rw [eq]
          have hdr : (ν.1.take 12).drop i = x :: (ν.1.take 12).drop (i + 1) := by
            have hl : i < (ν.1.take 12).length := by rw [List.length_take]; omega
            rw [List.drop_eq_getElem_cons hl]
            congr 1
            rw [List.getElem_take]
            exact hxe
          rw [hdr, List.find?_cons]
          cases hq : wEq f pp ee x w with
          | true =>
            rw [if_neg (show ¬ b01 true = 0 by decide)]
            simp only [f1, er, Option.bind_some, e2]
          | false =>
            rw [if_pos (show b01 false = 0 from rfl), nI_1]
            exact IH (i + 1) (by omega) (by omega) (by omega) (fun k y hk hy => by
              by_cases ek : k = i
              · rw [ek, hx] at hy; cases hy; exact hq
              · exact h7 k y (by omega) hy)
        · rw [if_pos (show (12 : Int32) ≤ nI i from show nI 12 ≤ nI i from nI_le (by omega) (by omega))]
          rw [List.drop_eq_nil_of_le (by rw [List.length_take]; omega)]
          rfl
      · rw [if_pos (nI_le (by omega) (by omega)), List.drop_eq_nil_of_le (by rw [List.length_take]; omega)]
        rfl
  rw [oE_X7_counts]
  unfold ob_X7_counts
  rw [show (0 : Int32) = nI 0 from rfl, LP T 0 (Nat.zero_le _) (Nat.zero_le _) (by omega) (fun k x hk => by omega)]
  rfl
/-- where a use stands for -/
def nRes (f pp ee : Nat → Int32) (nm : Nat → Option Nat) (ν : nSt) (w : Nat) : Option Nat := (nFind f pp ee ν.1 w).bind nm
theorem nFind_mem {env : List Nat} {w u : Nat} (h : nFind f pp ee env w = some u) : ∃ k, k < 12 ∧ env[k]? = some u := by
  unfold nFind at h
  have h1 := List.mem_of_find?_eq_some h
  obtain ⟨k, hk, e⟩ := List.getElem_of_mem h1
  rw [List.length_take] at hk
  refine ⟨k, by omega, ?_⟩
  rw [List.getElem_take] at e
  rw [← e]
  exact List.getElem?_eq_getElem _
set_option maxHeartbeats 1000000 in
/-- use() -/
theorem c_use (h : cV κ sz len cnt kk pp ee f A nq ni rt σ D at' cd cn am bd nf ff) (ho : cO pp cnt at' bd s) (hn : ∀ i, s = .inr i → cNm pp ee f σ D nm ν cd nf) (hm : 8 ≤ n) (hT : 2010 ≤ T) : ∃ σ' at2 bd2 nf2 r, oF κ T n 119 [va_rf (some (A 0))] σ = some (some (va_rf r), σ') ∧ cV κ sz len cnt kk pp ee f A nq ni rt σ' D at2 cd cn am bd2 nf2 ff ∧ cO pp cnt at2 bd2 (aTo s (aMs kk 1)) ∧ cFr A σ D σ' D ∧ (σ'.2.2.1 ≤ σ.2.2.1 + 2 ∧ σ'.2.2.2 ≤ σ.2.2.2 + 14 + len * 0 + (if cK kk s = 1 then wL pp ee at' else 0) ∧ at' ≤ at2) ∧ (∀ i, s = .inr i → aIs kk 1 i = true → r = nRes f pp ee nm ν i ∧ cNm pp ee f σ' D nm (nUse f pp ee i ν) cd nf2) ∧ (∀ b, r = some b → ∃ fs, σ'.1 b = some (.inr (6, fs))) := by
  obtain ⟨m, rfl⟩ : ∃ m, n = m + 8 := ⟨n - 8, by omega⟩
  rw [oE_X7_use]
  unfold ob_X7_use
  rw [oob_at h.2.1, obn_at, c_kind (n := m + 7) h ho (by omega), oin_at]
  by_cases ck : cK kk s = 1
  · rw [if_pos ck]
    cases s with
    | inl j => exact absurd (show (0 : Int32) = 1 from ck) (by decide)
    | inr i =>
      have ck' : kk i = nI 1 := ck
      have hlt : i < cnt := by
        by_cases q : i < cnt
        · exact q
        · have : i = cnt := by have := ho.2.2; omega
          rw [this, h.1.2.2.2.2.2.1] at ck'
          exact absurd ck' (by decide)
      have hN := hn i rfl
      obtain ⟨o1, o2, o3⟩ := ho
      subst o2
      have f0 : ofd σ (some (A 0)) 9 0 = some (.ref (A 1)) := by rw [ofd_at h.2.1]; rfl
      have f11 : ofd σ (some (A 0)) 9 11 = some (.int (nI at')) := by rw [ofd_at h.2.1]; rfl
      have ow : oob σ (some (A 1)) 13 = some (A 1) := oob_at h.1.2.1.1
      simp only [f0, f11, ovr, ovi, obn, ow]
      obtain ⟨q, u, σ1, g, e1, e2, e3, e4, e5, e6, e7, e8, -⟩ := c_text (κ := κ) (T := T) (n := m + 7) h hlt (by omega)
      obtain ⟨v1, fr1⟩ := h.ex e4 e5 e6
      have hN1 := hN.ex h.1.1.1 e4
      rw [e1, orn_at, oob_at v1.2.1]
      simp only []
      rw [c_counts (n := m + 7) v1 hN1 e2 e3 (by omega) hT]
      have aIs1 : aMs kk 1 at' = .inr ((), at' + 1) := by unfold aMs aIs; rw [if_pos (decide_eq_true ck')]
      rw [aTo_ok, aIs1]
      -- next, from a state with the NAMES' fault as it is then
      have NX : ∀ (nf2 : Int32) (σ2 : oSt) (r : Option Nat), cV κ sz len cnt kk pp ee f A nq ni rt σ2 D at' cd cn am bd nf2 ff → cFr A σ D σ2 D → σ2.2 = σ1.2 → cNm pp ee f σ2 D nm (nUse f pp ee at' ν) cd nf2 → r = nRes f pp ee nm ν at' → (∀ b, r = some b → ∃ fs, σ2.1 b = some (.inr (6, fs))) → ∃ σ' at2 bd2 nf2 r', oj_X7_use_49 T (oF κ T (m + 7)) κ (some (A 0)) r σ2 = some (some (va_rf r'), σ') ∧ cV κ sz len cnt kk pp ee f A nq ni rt σ' D at2 cd cn am bd2 nf2 ff ∧ cO pp cnt at2 bd2 (aR.st (.inr ((), at' + 1) : aR Unit)) ∧ cFr A σ D σ' D ∧ (σ'.2.2.1 ≤ σ.2.2.1 + 2 ∧ σ'.2.2.2 ≤ σ.2.2.2 + 14 + len * 0 + (if cK kk (.inr at') = 1 then wL pp ee at' else 0) ∧ at' ≤ at2) ∧ (∀ i, (Sum.inr at' : Sum Nat Nat) = .inr i → aIs kk 1 i = true → r' = nRes f pp ee nm ν i ∧ cNm pp ee f σ' D nm (nUse f pp ee i ν) cd nf2) ∧ (∀ b, r' = some b → ∃ fs, σ'.1 b = some (.inr (6, fs))) := fun nf2 σ2 r k1 k2 k3 k4 k5 k6 => by
        unfold oj_X7_use_49
        rw [oob_at k1.2.1, obn_at]
        obtain ⟨g1, g2, g3, g4⟩ := c_next (κ := κ) (T := T) (n := m + 7) k1 (show cO pp cnt at' bd (.inr at') from ⟨o1, rfl, o3⟩) hlt (by omega)
        rw [g1, ocv_at]
        refine ⟨_, at' + 1, bd, nf2, r, rfl, g2, g4, k2.tr g3, ⟨?_, ?_, Nat.le_succ _⟩, fun i e _ => ?_, fun b eb => ?_⟩
        · show σ2.2.2.1 ≤ _
          rw [k3]; exact e7
        · show σ2.2.2.2 ≤ _
          rw [k3, if_pos ck]; omega
        · cases e
          exact ⟨k5, k4.k0 k1.2.1 (fun a ha => oput_ne ha) rfl⟩
        · obtain ⟨fs, e⟩ := k6 b eb
          exact ⟨fs, by rw [oput_ne (fun z => by rw [z, k1.2.1] at e; cases e)]; exact e⟩
      cases hr : nRes f pp ee nm ν at' with
      | none =>
        have hr' : (nFind f pp ee ν.1 at').bind nm = none := hr
        have hF : nFind f pp ee ν.1 at' = none := by
          cases hf : nFind f pp ee ν.1 at' with
          | none => rfl
          | some x =>
            obtain ⟨k, hk, ek⟩ := nFind_mem hf
            obtain ⟨b, b1, b2, b3⟩ := hN1.2.1 k x ek hk
            rw [hf] at hr'
            have : nm x = none := hr'
            rw [b2] at this; cases this
        rw [hr', orn_no, if_pos rfl]
        have f16 : ofd σ1 (some (A 0)) 9 16 = some (.int nf) := by rw [ofd_at v1.2.1]; rfl
        simp only [f16, ovi, obn]
        have eU : nUse f pp ee at' ν = nBad ν at' := by unfold nUse; rw [if_pos hF]
        cases hb : ν.2.2 with
        | some w0 =>
          have n4 := hN1.2.2.2.1
          rw [hb] at n4
          obtain ⟨a1, a2, a3, a4⟩ := n4
          rw [if_pos (by rw [a1, a3]; exact show nI 0 ≤ nI a2 from nI_le (Nat.zero_le _) (by omega))]
          exact NX nf σ1 none v1 fr1 rfl (by rw [eU]; unfold nBad; rw [hb]; exact hN1) hr.symm (fun b e => by cases e)
        | none =>
          have n4 := hN1.2.2.2.1
          rw [hb] at n4
          rw [if_neg (by rw [n4]; decide), oob_at v1.2.1]
          simp only []
          rw [c_here (n := m + 7) v1 (by omega), oin_at]
          have hp := v1.put (at2 := at') (cd2 := cd) (cn2 := cn) (am2 := am) (bd2 := bd) (nf2 := pp at') (ff2 := ff) v1.2.2.1 v1.2.2.2.1 (Nat.le_refl _)
          have pe : opf σ1 (some (A 0)) 9 16 (.int (pp at')) = some (oput σ1 (A 0) (.inr (9, cPs A nq ni rt at' cd cn am bd (pp at') ff))) := opf_at v1.2.1 (show 16 < 18 by decide)
          rw [pe]
          simp only []
          refine NX (pp at') _ none hp.1 (fr1.tr hp.2) rfl ?_ hr.symm (fun b e => by cases e)
          have hk : cNm pp ee f (oput σ1 (A 0) (.inr (9, cPs A nq ni rt at' cd cn am bd (pp at') ff))) D nm ν cd nf := hN1.k0 v1.2.1 (fun a ha => oput_ne ha) rfl
          rw [eU]
          unfold nBad
          rw [hb]
          exact ⟨hk.1, hk.2.1, hk.2.2.1, ⟨rfl, h.pn h.2.2.1⟩, hk.2.2.2.2⟩
      | some b =>
        have hr' : (nFind f pp ee ν.1 at').bind nm = some b := hr
        cases hf : nFind f pp ee ν.1 at' with
        | none => rw [hf] at hr'; cases hr'
        | some x =>
          obtain ⟨k, hk, ek⟩ := nFind_mem hf
          obtain ⟨b', b1, b2, b3⟩ := hN1.2.1 k x ek hk
          have hb' : b' = b := by
            rw [hf] at hr'
            have : nm x = some b := hr'
            rw [b2] at this; exact Option.some.inj this
          have eU : nUse f pp ee at' ν = ν := by unfold nUse; rw [if_neg (by rw [hf]; intro z; cases z)]
          rw [hf] at hr'
          rw [hr', orn_at, if_neg (by intro z; cases z)]
          obtain ⟨q', u', i1, i2, i3, g', t1, t2, t3⟩ := b3
          exact NX nf σ1 (some b) v1 fr1 rfl (by rw [eU]; exact hN1) hr.symm (fun b2 e => by cases e; exact ⟨_, hb' ▸ t1⟩)
  · rw [if_neg ck, oob_at h.2.1, obn_at]
    obtain ⟨σ1, bd1, f1, f2, f3, f4, f5, f6⟩ := c_fail (κ := κ) (T := T) (n := m + 7) h ho (by omega)
    rw [f1, ocv_at]
    have es : aTo s (aMs kk 1) = .inl (aWr s) := by
      cases s with
      | inl j => rfl
      | inr i =>
        rw [aTo_ok]
        have ck' : ¬ kk i = nI 1 := ck
        unfold aMs aIs
        rw [if_neg (fun e => ck' (of_decide_eq_true e))]
        rfl
    refine ⟨σ1, at', bd1, nf, none, rfl, f2, by rw [es]; exact f3, f4, ⟨by rw [f5]; omega, by rw [f5, if_neg ck]; omega, Nat.le_refl _⟩, fun i e g => ?_, fun b e => by cases e⟩
    subst e
    exact absurd (of_decide_eq_true g) ck
end CPN
