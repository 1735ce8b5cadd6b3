/-! the class's parser: tell, count -/
/-- all words of these NAMES stand before i -/
def nLt (ν : nSt) (i : Nat) : Prop := ∀ x, x ∈ ν.1 ∨ x ∈ ν.2.1 → x < i
def nPut (nm : Nat → Option Nat) (i b : Nat) : Nat → Option Nat := fun w => if w = i then some b else nm w
section CPU
variable {κ : oKv} {sz T n len cnt : Nat} {kk pp ee f : Nat → Int32} {A : Nat → Nat} {nq ni : Int32} {rt : Value} {σ σ' : oSt} {D : cDt} {at' cd : Nat} {cn am bd nf ff : Int32} {s : Sum Nat Nat} {nm : Nat → Option Nat} {ν : nSt}
theorem cMu.no {b ci : Nat} {fs : List Value} (h : cV κ sz len cnt kk pp ee f A nq ni rt σ D at' cd cn am bd nf ff) (hb : σ.1 b = some (.inr (ci, fs))) (hc : ci = 6 ∨ ci = 7 ∨ ci = 11) : ¬ cMu A D b := fun hm => by
  unfold cMu at hm
  rcases hm with z | z | z | z | z | z
  · rw [z, h.2.1] at hb; cases hb; omega
  · exact h.1.nk (by unfold cSt; simp [z]) hb (by omega)
  · exact h.1.nk (by unfold cSt; simp [z]) hb (by omega)
  · exact h.1.nk (by unfold cSt; simp [z]) hb (by omega)
  · exact h.1.nk (by unfold cSt; simp [z]) hb (by omega)
  · exact h.1.nk (by unfold cSt; simp [z]) hb (by omega)
theorem cG.td (h : cG κ sz len cnt kk pp ee f A σ D) {c : oC} (e : σ.1 D.1.1 = some c) : ∃ x, c = .inl (.object "java/lang/Object", x) := by
  obtain ⟨-, -, -, ⟨⟨mc, d1⟩, -⟩, -⟩ := h
  rcases d1.2.1 with ⟨-, -, q, q'⟩ | ⟨q, -⟩
  · rw [q'] at e; cases e
  · rw [q] at e; cases e; exact ⟨_, rfl⟩
/-- NAMES over told.add: one more told -/
theorem cNm.ad {D' : cDt} {b i : Nat} (hV : cV κ sz len cnt kk pp ee f A nq ni rt σ D at' cd cn am bd nf ff) (h : cNm pp ee f σ D nm ν cd nf) (hlt : nLt ν i) (key : ∀ a, a < σ.2.1 → a ≠ A 8 → a ≠ D.1.1 → σ'.1 a = σ.1 a) (d1 : D'.1.2.2.2.2 = (D.1.2.2.2.2.1 + 1, D.1.2.2.2.2.2)) (d2 : D'.2.2 = D.2.2) (d3 : ∀ j, j < D.1.2.2.2.2.1 → D'.2.1 j = D.2.1 j) (d4 : D'.2.1 D.1.2.2.2.2.1 = some b) (hnc : cNc pp ee f σ' b i) : cNm pp ee f σ' D' (nPut nm i b) (ν.1, ν.2.1 ++ [i], ν.2.2) cd nf := by
  obtain ⟨h1, h2, ⟨h3, h3b⟩, h4, h5, h6⟩ := h
  obtain ⟨mc, q8⟩ := hV.1.2.2.2.1.1
  have kc : ∀ b u, cNc pp ee f σ b u → cNc pp ee f σ' b u := fun b u e3 => e3.keep (fun a c ea hc => by
    rw [key a (alt hV.1.1.1 ea) ?_ ?_]
    · exact ea
    · intro z; rw [z, q8.1] at ea; cases ea; exact hc.n1
    · intro z
      rw [z] at ea
      obtain ⟨x, ex⟩ := hV.1.td ea
      rw [ex] at hc; exact hc.no)
  refine ⟨h1, fun k u e hk => ?_, ⟨?_, fun k u e => ?_⟩, h4, h5, fun u hu => ?_⟩
  · obtain ⟨b', e1, e2, e3⟩ := h2 k u e hk
    have hu : u ≠ i := by have := hlt u (Or.inl (List.mem_of_getElem? e)); omega
    exact ⟨b', by rw [d2]; exact e1, by unfold nPut; rw [if_neg hu]; exact e2, kc b' u e3⟩
  · show (ν.2.1 ++ [i]).length = D'.1.2.2.2.2.1
    rw [d1, List.length_append, h3]; rfl
  · unfold nPut
    by_cases ek : k = ν.2.1.length
    · rw [ek, List.getElem?_append_right (Nat.le_refl _), Nat.sub_self] at e
      cases e
      rw [ek, h3, if_pos rfl]; exact d4
    · have hk : k < ν.2.1.length := by
        by_cases c : k < ν.2.1.length
        · exact c
        · rw [List.getElem?_append_right (by omega), List.getElem?_eq_none (by simp; omega)] at e; cases e
      rw [List.getElem?_append_left hk] at e
      have hu : u ≠ i := by have := hlt u (Or.inr (List.mem_of_getElem? e)); omega
      rw [if_neg hu, d3 k (by omega)]
      exact h3b k u e
  · have hu : u ∈ ν.2.1 ++ [i] := hu
    unfold nPut
    by_cases z : u = i
    · rw [if_pos z]
      exact ⟨b, rfl, by rw [z]; exact hnc⟩
    · rw [if_neg z]
      rcases List.mem_append.mp hu with w | w
      · obtain ⟨b', e1, e2⟩ := h6 u w
        exact ⟨b', e1, kc b' u e2⟩
      · exact absurd (List.mem_singleton.mp w) z
set_option maxHeartbeats 2000000 in
/-- tell() -/
theorem c_tell (h : cV κ sz len cnt kk pp ee f A nq ni rt σ D at' cd cn am bd nf ff) (ho : cO pp cnt at' bd s) (hn : ∀ i, s = .inr i → cNm pp ee f σ D nm ν cd nf ∧ nLt ν i) (hm : 9 ≤ n) (hT : 2010 ≤ T) : ∃ σ' D' at2 bd2 nf2 b q, oF κ T n 115 [va_rf (some (A 0))] σ = some (some (va_rf (some b)), σ') ∧ cV κ sz len cnt kk pp ee f A nq ni rt σ' D' at2 cd cn am bd2 nf2 ff ∧ cO pp cnt at2 bd2 (aTo s (aMs kk 1)) ∧ cFr A σ D σ' D' ∧ (σ.2.1 ≤ b ∧ σ'.1 b = some (.inr (6, cNa q))) ∧ (σ'.2.2.1 ≤ σ.2.2.1 + 4 ∧ σ'.2.2.2 + 4 * D.1.2.2.1 + 4 * D.1.2.2.2.1 ≤ σ.2.2.2 + 12 + (if cK kk s = 1 then wL pp ee at' else 0) + 4 * D'.1.2.2.1 + 4 * D'.1.2.2.2.1) ∧ ((∀ j, s = .inl j → D' = D ∧ nf2 = nf) ∧ D'.2.2 = D.2.2 ∧ D'.1.2.2.2.2.2 = D.1.2.2.2.2.2 ∧ at' ≤ at2) ∧ (∀ i, s = .inr i → aIs kk 1 i = true → cNm pp ee f σ' D' (nPut nm i b) (nTell f pp ee i ν) cd nf2 ∧ cNc pp ee f σ' b i) := by
  obtain ⟨m, rfl⟩ : ∃ m, n = m + 9 := ⟨n - 9, by omega⟩
  rw [oE_X7_tell]
  unfold ob_X7_tell
  rw [oob_at h.2.1, obn_at, c_kind (n := m + 8) h ho (by omega), oin_at]
  by_cases ck : cK kk s = 1
  · rw [if_pos ck]
    cases s with
    | inl j => exact absurd (show (0 : Int32) = 1 from ck) (by decide)
    | inr i =>
      have ck' : kk i = nI 1 := ck
      have hlt : i < cnt := by
        by_cases q : i < cnt
        · exact q
        · have : i = cnt := by have := ho.2.2; omega
          rw [this, h.1.2.2.2.2.2.1] at ck'
          exact absurd ck' (by decide)
      obtain ⟨hN, hL⟩ := hn i rfl
      obtain ⟨o1, o2, o3⟩ := ho
      subst o2
      have eM : aMs kk 1 at' = .inr ((), at' + 1) := by unfold aMs aIs; rw [if_pos (decide_eq_true ck')]
      rw [oq_6, olet_at]
      obtain ⟨v1, r1⟩ := h.nw (.inr (6, odef 6)) 8
      have hN1 : cNm pp ee f (onew σ (.inr (6, odef 6)) 8) D nm ν cd nf := hN.ex h.1.1.1 (fun a ha => onew_ne (by omega))
      have e0 : (onew σ (.inr (6, odef 6)) 8).1 σ.2.1 = some (.inr (6, odef 6)) := onew_eq _ _ _
      have s1 : (onew σ (.inr (6, odef 6)) 8).2 = (σ.2.1 + 1, σ.2.2.1 + 1, σ.2.2.2 + 8) := rfl
      generalize onew σ (.inr (6, odef 6)) 8 = σ1 at v1 r1 hN1 e0 s1 ⊢
      have s11 : σ1.2.1 = σ.2.1 + 1 := by rw [s1]
      have f0 : ofd σ1 (some (A 0)) 9 0 = some (.ref (A 1)) := by rw [ofd_at v1.2.1]; rfl
      have f11 : ofd σ1 (some (A 0)) 9 11 = some (.int (nI at')) := by rw [ofd_at v1.2.1]; rfl
      have ow : oob σ1 (some (A 1)) 13 = some (A 1) := oob_at v1.1.2.1.1
      rw [f0, f11]
      simp only [ovr, ovi]
      rw [obn_at, obn_at, ow, obn_at]
      obtain ⟨q, u, σ2, g, t1, t2, t3, t4, t5, t6, t7, t8, t9⟩ := c_text (κ := κ) (T := T) (n := m + 8) v1 hlt (by omega)
      obtain ⟨v2, r2⟩ := v1.ex t4 t5 t6
      have hN2 := hN1.ex v1.1.1.1 t4
      rw [t1, orn_at, obn_at]
      have e2 : σ2.1 σ.2.1 = some (.inr (6, odef 6)) := by rw [t4 _ (by omega)]; exact e0
      rw [c_name (n := m + 8) e2 (by omega), ocv_at]
      have v3 := v2.fl (fs' := cNa q) e2 (Or.inl rfl)
      have hqb : q ≠ σ.2.1 := fun z => by have w := t2.1; rw [z, e2] at w; cases w
      have hub : u ≠ σ.2.1 := fun z => by have w := t2.2.1; rw [z, e2] at w; cases w
      have hN3 : cNm pp ee f (oput σ2 σ.2.1 (.inr (6, cNa q))) D nm ν cd nf := by
        obtain ⟨h1, h2, h3, h4, h5, h6⟩ := hN2
        have kc : ∀ b' x, cNc pp ee f σ2 b' x → cNc pp ee f (oput σ2 σ.2.1 (.inr (6, cNa q))) b' x := fun b' x b3 => by
          obtain ⟨q', u', i1, i2, i3, g', y1, y2, y3⟩ := b3
          refine ⟨q', u', i1, i2, i3, g', ?_, y2.keep ?_ ?_, y3⟩
          · rw [oput_ne (fun z => by rw [z, e2, odef_6] at y1; cases y1)]; exact y1
          · exact oput_ne (fun z => by have w := y2.1; rw [z, e2] at w; cases w)
          · exact oput_ne (fun z => by have w := y2.2.1; rw [z, e2] at w; cases w)
        refine ⟨h1, fun k x e hk => ?_, h3, h4, h5, fun x hx => ?_⟩
        · obtain ⟨b', b1, b2, b3⟩ := h2 k x e hk
          exact ⟨b', b1, b2, kc b' x b3⟩
        · obtain ⟨b', b1, b2⟩ := h6 x hx
          exact ⟨b', b1, kc b' x b2⟩
      have t2' : cTx (oput σ2 σ.2.1 (.inr (6, cNa q))) q u (wL pp ee at') g := t2.keep (oput_ne hqb) (oput_ne hub)
      have e3 : (oput σ2 σ.2.1 (.inr (6, cNa q))).1 σ.2.1 = some (.inr (6, cNa q)) := oput_eq _ _ _
      have r3 : cFr A σ D (oput σ2 σ.2.1 (.inr (6, cNa q))) D := by
        refine ⟨?_, fun a ha hmu => ?_, Or.inl rfl, Or.inl rfl⟩
        · show σ.2.1 ≤ σ2.2.1
          omega
        · rw [oput_ne (by omega)]
          exact (r1.tr r2).2.1 a ha hmu
      have s3 : (oput σ2 σ.2.1 (.inr (6, cNa q))).2 = σ2.2 := rfl
      generalize oput σ2 σ.2.1 (.inr (6, cNa q)) = σ3 at v3 hN3 t2' e3 r3 s3 ⊢
      -- told.add and next, with the NAMES' fault as it is then
      have FIN : ∀ (nf2 : Int32) (σ4 : oSt) (ν2 : Option Nat), cV κ sz len cnt kk pp ee f A nq ni rt σ4 D at' cd cn am bd nf2 ff → cFr A σ D σ4 D → σ4.2 = σ3.2 → σ4.1 σ.2.1 = some (.inr (6, cNa q)) → cTx σ4 q u (wL pp ee at') g → cNm pp ee f σ4 D nm (ν.1, ν.2.1, ν2) cd nf2 → nTell f pp ee at' ν = (ν.1, ν.2.1 ++ [at'], ν2) → ∃ σ' D' at2 bd2 nf2 b q, oj_X7_tell_82 T (oF κ T (m + 8)) κ (some (A 0)) (some σ.2.1) σ4 = some (some (va_rf (some b)), σ') ∧ cV κ sz len cnt kk pp ee f A nq ni rt σ' D' at2 cd cn am bd2 nf2 ff ∧ cO pp cnt at2 bd2 (aTo (.inr at') (aMs kk 1)) ∧ cFr A σ D σ' D' ∧ (σ.2.1 ≤ b ∧ σ'.1 b = some (.inr (6, cNa q))) ∧ (σ'.2.2.1 ≤ σ.2.2.1 + 4 ∧ σ'.2.2.2 + 4 * D.1.2.2.1 + 4 * D.1.2.2.2.1 ≤ σ.2.2.2 + 12 + (if cK kk (.inr at') = 1 then wL pp ee at' else 0) + 4 * D'.1.2.2.1 + 4 * D'.1.2.2.2.1) ∧ ((∀ j, (Sum.inr at' : Sum Nat Nat) = .inl j → D' = D ∧ nf2 = nf) ∧ D'.2.2 = D.2.2 ∧ D'.1.2.2.2.2.2 = D.1.2.2.2.2.2 ∧ at' ≤ at2) ∧ (∀ i, (Sum.inr at' : Sum Nat Nat) = .inr i → aIs kk 1 i = true → cNm pp ee f σ' D' (nPut nm i b) (nTell f pp ee i ν) cd nf2 ∧ cNc pp ee f σ' b i) := fun nf2 σ4 ν2 k1 k2 k3 k4 k5 k6 k7 => by
        unfold oj_X7_tell_82
        have f2 : ofd σ4 (some (A 0)) 9 2 = some (.ref (A 8)) := by rw [ofd_at k1.2.1]; rfl
        obtain ⟨mc, q8⟩ := k1.1.2.2.2.1.1
        rw [f2]
        simp only [ovr]
        rw [obn_at, oob_at q8.1, obn_at]
        obtain ⟨σ5, D', y1, y2, y3, y4, y5, ⟨y6, y7, y8, y9⟩, y10, y11⟩ := c_told (κ := κ) (T := T) (n := m + 8) k1 k4 (by omega)
        rw [y1, oin_at]
        have y61 : D'.1.2.2.2.2.1 = D.1.2.2.2.2.1 + 1 := by rw [y6]
        have y62 : D'.1.2.2.2.2.2 = D.1.2.2.2.2.2 := by rw [y6]
        have h50 : σ5.1 (A 0) = some (.inr (9, cPs A nq ni rt at' cd cn am bd nf2 ff)) := y3.trans k1.2.1
        rw [oob_at h50, obn_at]
        -- next
        have nx : oF κ T (m + 8) 105 [va_rf (some (A 0))] σ5 = some (none, oput σ5 (A 0) (.inr (9, cPs A nq ni rt (at' + 1) cd cn am bd nf2 ff))) := by
          have pa : pAt σ5 (A 0) (A 1) (cPs A nq ni rt at' cd cn am bd nf2 ff) at' bd := ⟨h50, rfl, rfl, rfl, rfl⟩
          have pw : pWd σ5 (A 1) (len + 1) cnt kk pp ee := by
            obtain ⟨-, ⟨b1, b2, b3, b4, b5, b6, b7⟩, -⟩ := y2
            exact ⟨A 2, A 4, A 5, A 6, b1, b3, b4, b5, by omega, by omega⟩
          rw [p_next pa pw o3, if_pos hlt]
          rfl
        rw [nx, ocv_at]
        have l0 : A 0 < σ5.2.1 := alt y2.1.1 h50
        have v6 : cV κ sz len cnt kk pp ee f A nq ni rt (oput σ5 (A 0) (.inr (9, cPs A nq ni rt (at' + 1) cd cn am bd nf2 ff))) D' (at' + 1) cd cn am bd nf2 ff := by
          refine ⟨y2.gen (fun a ha => oput_ne (fun e => y2.nk ha (e ▸ h50) (Or.inl rfl))) (fun a fs e => ⟨fs, by rw [oput_ne (fun z => by rw [z, h50] at e; cases e)]; exact e⟩) (fun a fs e => ⟨fs, by rw [oput_ne (fun z => by rw [z, h50] at e; cases e)]; exact e⟩) (fun x hx => by have hx' : σ5.2.1 ≤ x := hx; rw [oput_ne (by omega)]; exact y2.1.1 x hx) (fun x hx => by rw [oput_ne (fun z => by rw [← z, y2.1.2.1 x hx] at h50; cases h50)]; exact y2.1.2.1 x hx) (Nat.le_refl _), oput_eq _ _ _, by omega, h.2.2.2.1, ?_, ?_⟩
          · rw [y61]; have := h.2.2.2.2.1; omega
          · rw [y62]; have := h.2.2.2.2.2; omega
        have hb0 : σ.2.1 < σ4.2.1 := alt k1.1.1.1 k4
        have hk5 : σ5.1 σ.2.1 = some (.inr (6, cNa q)) := by
          rw [y5 _ hb0 (fun z => by rw [z, q8.1] at k4; cases k4) (fun z => by rw [z] at k4; obtain ⟨x, ex⟩ := k1.1.td k4; cases ex)]
          exact k4
        have ht5 : cTx σ5 q u (wL pp ee at') g := k5.keep (y5 _ (alt k1.1.1.1 k5.1) (fun z => by have w := k5.1; rw [z, q8.1] at w; cases w) (fun z => by have w := k5.1; rw [z] at w; obtain ⟨x, ex⟩ := k1.1.td w; cases ex)) (y5 _ (alt k1.1.1.1 k5.2.1) (fun z => by have w := k5.2.1; rw [z, q8.1] at w; cases w) (fun z => by have w := k5.2.1; rw [z] at w; obtain ⟨x, ex⟩ := k1.1.td w; cases ex))
        have hN5 := k6.ad (σ' := σ5) (D' := D') (b := σ.2.1) (i := at') k1 hL y5 y6 y7 y8 y9 ⟨q, u, 0, 0, 210, g, hk5, ht5, t3, t9.imp id (fun z => ⟨by omega, by omega⟩)⟩
        refine ⟨_, D', at' + 1, bd, nf2, σ.2.1, q, rfl, v6, by rw [aTo_ok, eM]; exact ⟨o1, rfl, by omega⟩, (k2.tr y4).tr ⟨Nat.le_refl _, fun a _ hmu => oput_ne (fun z => hmu (Or.inl z)), Or.inl rfl, Or.inl rfl⟩, ⟨Nat.le_refl _, ?_⟩, ⟨?_, ?_⟩, ⟨fun j e => (by cases e), y7, y62, Nat.le_succ _⟩, fun i e _ => ?_⟩
        · rw [oput_ne (fun z => by rw [z, h50] at hk5; cases hk5)]; exact hk5
        · show σ5.2.2.1 ≤ _
          have w1 : σ4.2.2.1 = σ2.2.2.1 := by rw [k3, s3]
          have w2 : σ1.2.2.1 = σ.2.2.1 + 1 := by rw [s1]
          omega
        · show σ5.2.2.2 + 4 * D.1.2.2.1 + 4 * D.1.2.2.2.1 ≤ _
          have w1 : σ4.2.2.2 = σ2.2.2.2 := by rw [k3, s3]
          have w2 : σ1.2.2.2 = σ.2.2.2 + 8 := by rw [s1]
          rw [if_pos ck]
          omega
        · cases e
          rw [k7]
          refine ⟨hN5.k0 h50 (fun a ha => oput_ne ha) rfl, q, u, 0, 0, 210, g, ?_, ht5.keep (oput_ne (fun z => by have w := ht5.1; rw [z, h50] at w; cases w)) (oput_ne (fun z => by have w := ht5.2.1; rw [z, h50] at w; cases w)), t3, t9.imp id (fun z => ⟨by omega, by omega⟩)⟩
          rw [oput_ne (fun z => by rw [z, h50] at hk5; cases hk5)]
          exact hk5
      have f16 : ofd σ3 (some (A 0)) 9 16 = some (.int nf) := by rw [ofd_at v3.2.1]; rfl
      rw [f16]
      simp only [ovi]
      rw [obn_at]
      have n4 := hN3.2.2.2.1
      -- a fault of NAMES here
      have BADN : ν.2.2 = none → (12 ≤ ν.1.length ∨ nFind f pp ee ν.1 at' ≠ none) → ∃ σ' D' at2 bd2 nf2 b q, oj_X7_tell_74 T (oF κ T (m + 8)) κ (some (A 0)) (some σ.2.1) σ3 = some (some (va_rf (some b)), σ') ∧ cV κ sz len cnt kk pp ee f A nq ni rt σ' D' at2 cd cn am bd2 nf2 ff ∧ cO pp cnt at2 bd2 (aTo (.inr at') (aMs kk 1)) ∧ cFr A σ D σ' D' ∧ (σ.2.1 ≤ b ∧ σ'.1 b = some (.inr (6, cNa q))) ∧ (σ'.2.2.1 ≤ σ.2.2.1 + 4 ∧ σ'.2.2.2 + 4 * D.1.2.2.1 + 4 * D.1.2.2.2.1 ≤ σ.2.2.2 + 12 + (if cK kk (.inr at') = 1 then wL pp ee at' else 0) + 4 * D'.1.2.2.1 + 4 * D'.1.2.2.2.1) ∧ ((∀ j, (Sum.inr at' : Sum Nat Nat) = .inl j → D' = D ∧ nf2 = nf) ∧ D'.2.2 = D.2.2 ∧ D'.1.2.2.2.2.2 = D.1.2.2.2.2.2 ∧ at' ≤ at2) ∧ (∀ i, (Sum.inr at' : Sum Nat Nat) = .inr i → aIs kk 1 i = true → cNm pp ee f σ' D' (nPut nm i b) (nTell f pp ee i ν) cd nf2 ∧ cNc pp ee f σ' b i) := fun hb hw => by
        unfold oj_X7_tell_74
        rw [oob_at v3.2.1, obn_at, c_here (n := m + 8) v3 (by omega), oin_at]
        have hp := v3.put (at2 := at') (cd2 := cd) (cn2 := cn) (am2 := am) (bd2 := bd) (nf2 := pp at') (ff2 := ff) v3.2.2.1 v3.2.2.2.1 (Nat.le_refl _)
        have pe : opf σ3 (some (A 0)) 9 16 (.int (pp at')) = some (oput σ3 (A 0) (.inr (9, cPs A nq ni rt at' cd cn am bd (pp at') ff))) := opf_at v3.2.1 (show 16 < 18 by decide)
        rw [pe, obn_at]
        have hk := hN3.k0 (nf2 := nf) v3.2.1 (σ' := oput σ3 (A 0) (.inr (9, cPs A nq ni rt at' cd cn am bd (pp at') ff))) (fun a ha => oput_ne ha) rfl
        refine FIN (pp at') _ (some at') hp.1 (r3.tr hp.2) rfl ?_ (t2'.keep (oput_ne (fun z => by have w := t2'.1; rw [z, v3.2.1] at w; cases w)) (oput_ne (fun z => by have w := t2'.2.1; rw [z, v3.2.1] at w; cases w))) ⟨hk.1, hk.2.1, hk.2.2.1, ⟨rfl, h.pn h.2.2.1⟩, hk.2.2.2.2⟩ ?_
        · rw [oput_ne (fun z => by rw [z, v3.2.1] at e3; cases e3)]; exact e3
        · unfold nTell; rw [if_pos ⟨hb, hw⟩]
      cases hb : ν.2.2 with
      | some w0 =>
        rw [hb] at n4
        obtain ⟨a1, a2, a3, a4⟩ := n4
        rw [if_pos (by rw [a1, a3]; exact show nI 0 ≤ nI a2 from nI_le (Nat.zero_le _) (by omega))]
        exact FIN nf σ3 ν.2.2 v3 r3 rfl e3 t2' hN3 (by unfold nTell; rw [if_neg (fun z => by rw [hb] at z; cases z.1)])
      | none =>
        rw [hb] at n4
        rw [if_neg (by rw [n4]; decide)]
        have f12 : ofd σ3 (some (A 0)) 9 12 = some (.int (nI cd)) := by rw [ofd_at v3.2.1]; rfl
        rw [f12]
        simp only [ovi]
        rw [obn_at]
        by_cases c12 : 12 ≤ cd
        · rw [if_pos (show (12 : Int32) ≤ nI cd from show nI 12 ≤ nI cd from nI_le c12 (by have := h.2.2.2.1; omega))]
          exact BADN hb (Or.inl (by rw [hN3.1]; exact c12))
        · rw [if_neg (show ¬ (12 : Int32) ≤ nI cd from show ¬ nI 12 ≤ nI cd from nI_ge (by omega) (by omega))]
          have fb : ofd σ3 (some σ.2.1) 6 0 = some (.ref q) := by rw [ofd_at e3]; rfl
          rw [fb]
          simp only [ovr]
          rw [obn_at, oob_at v3.2.1, obn_at, c_counts (n := m + 8) v3 hN3 t2' t3 (by omega) hT]
          cases hf : nFind f pp ee ν.1 at' with
          | none =>
            show ∃ σ' D' at2 bd2 nf2 b q, orn (some (some (va_rf none), σ3)) _ = _ ∧ _
            rw [orn_no, if_pos rfl]
            exact FIN nf σ3 ν.2.2 v3 r3 rfl e3 t2' hN3 (by unfold nTell; rw [if_neg (fun z => by rcases z.2 with y | y; rw [hN3.1] at y; exact c12 y; exact y hf)])
          | some x =>
            obtain ⟨k, hk, ek⟩ := nFind_mem hf
            obtain ⟨b', b1, b2, b3⟩ := hN3.2.1 k x ek hk
            show ∃ σ' D' at2 bd2 nf2 b q, orn (some (some (va_rf (nm x)), σ3)) _ = _ ∧ _
            rw [b2, orn_at, if_neg (by intro z; cases z)]
            exact BADN hb (Or.inr (by rw [hf]; intro z; cases z))
  · rw [if_neg ck, oob_at h.2.1, obn_at]
    obtain ⟨σ1, bd1, f1, f2, f3, f4, f5, f6⟩ := c_fail (κ := κ) (T := T) (n := m + 8) h ho (by omega)
    have es : aTo s (aMs kk 1) = .inl (aWr s) := by
      cases s with
      | inl j => rfl
      | inr i =>
        have ck' : ¬ kk i = nI 1 := ck
        rw [aTo_ok]
        unfold aMs aIs
        rw [if_neg (fun e => ck' (of_decide_eq_true e))]
        rfl
    rw [f1, ocv_at, oq_6, olet_at, obn_at]
    obtain ⟨v2, r2⟩ := f2.nw (.inr (6, odef 6)) 8
    have e0 : (onew σ1 (.inr (6, odef 6)) 8).1 σ1.2.1 = some (.inr (6, odef 6)) := onew_eq _ _ _
    rw [c_name (n := m + 8) e0 (by omega), ocv_at]
    have v3 := v2.fl (fs' := cNa (κ.1 3)) e0 (Or.inl rfl)
    have hs : σ1.2.1 = σ.2.1 := by rw [f5]
    refine ⟨_, D, at', bd1, nf, σ1.2.1, κ.1 3, rfl, v3, by rw [es]; exact f3, ?_, ⟨by omega, oput_eq _ _ _⟩, ⟨?_, ?_⟩, ⟨fun j _ => ⟨rfl, rfl⟩, rfl, rfl, Nat.le_refl _⟩, fun i e g => ?_⟩
    · refine ⟨?_, fun a ha hmu => ?_, Or.inl rfl, Or.inl rfl⟩
      · show σ.2.1 ≤ σ1.2.1 + 1; omega
      · rw [oput_ne (by omega), onew_ne (by omega)]; exact f4.2.1 a ha hmu
    · show σ1.2.2.1 + 1 ≤ _; rw [f5]; omega
    · show σ1.2.2.2 + 8 + 4 * D.1.2.2.1 + 4 * D.1.2.2.2.1 ≤ _; rw [f5]; omega
    · subst e
      exact absurd (of_decide_eq_true g) ck
end CPU
