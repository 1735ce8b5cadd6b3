/-! the class's parser: count -/
section CPC
variable {κ : oKv} {sz T n len cnt : Nat} {kk pp ee f : Nat → Int32} {A : Nat → Nat} {nq ni : Int32} {rt : Value} {σ σ' : oSt} {D : cDt} {at' cd : Nat} {cn am bd nf ff : Int32} {s : Sum Nat Nat} {nm : Nat → Option Nat} {ν : nSt}
set_option maxHeartbeats 1000000 in
/-- count(name) -/
theorem c_count {b : Nat} {fs : List Value} (h : cV κ sz len cnt kk pp ee f A nq ni rt σ D at' cd cn am bd nf ff) (hb : σ.1 b = some (.inr (6, fs))) (hfl : fs.length = 8) (hcd : cd < 3990) (hm : 1 ≤ n) : ∃ σ' D', oF κ T n 116 [va_rf (some (A 0)), va_rf (some b)] σ = some (none, σ') ∧ cV κ sz len cnt kk pp ee f A nq ni rt σ' D' at' (cd + 1) cn am bd nf ff ∧ (∀ a, a ≠ A 0 → a ≠ A 7 → a ≠ b → σ'.1 a = σ.1 a) ∧ σ'.2 = σ.2 ∧ σ'.1 b = some (.inr (6, fs.set 1 (.int (nI cd)))) ∧ (D'.1 = D.1 ∧ D'.2.1 = D.2.1 ∧ D'.2.2.2 = D.2.2.2 ∧ D'.2.2.1 = if cd < 12 then va_up D.2.2.1 cd (some b) else D.2.2.1) := by
  obtain ⟨m, rfl⟩ : ∃ m, n = m + 1 := ⟨n - 1, by omega⟩
  have hA0 : b ≠ A 0 := fun z => by rw [z, h.2.1] at hb; cases hb
  have v1 := h.fl (fs' := fs.set 1 (.int (nI cd))) hb (Or.inl rfl)
  have f12 : ofd σ (some (A 0)) 9 12 = some (.int (nI cd)) := by rw [ofd_at h.2.1]; rfl
  have pe : opf σ (some b) 6 1 (.int (nI cd)) = some (oput σ b (.inr (6, fs.set 1 (.int (nI cd))))) := opf_at hb (by omega)
  rw [oE_X7_count]
  unfold ob_X7_count
  rw [f12]
  simp only [ovi]
  rw [obn_at, pe, obn_at]
  have e1 : (oput σ b (.inr (6, fs.set 1 (.int (nI cd))))).1 b = some (.inr (6, fs.set 1 (.int (nI cd)))) := oput_eq _ _ _
  have e2 : ∀ a, a ≠ b → (oput σ b (.inr (6, fs.set 1 (.int (nI cd))))).1 a = σ.1 a := fun a ha => oput_ne ha
  have e3 : (oput σ b (.inr (6, fs.set 1 (.int (nI cd))))).2 = σ.2 := rfl
  generalize oput σ b (.inr (6, fs.set 1 (.int (nI cd)))) = σ1 at v1 e1 e2 e3 ⊢
  have f12 : ofd σ1 (some (A 0)) 9 12 = some (.int (nI cd)) := by rw [ofd_at v1.2.1]; rfl
  have f1 : ofd σ1 (some (A 0)) 9 1 = some (.ref (A 7)) := by rw [ofd_at v1.2.1]; rfl
  rw [f12]
  simp only []
  rw [obn_at]
  -- the number that count
  have FIN : ∀ (σ2 : oSt) (D' : cDt), cV κ sz len cnt kk pp ee f A nq ni rt σ2 D' at' cd cn am bd nf ff → oj_X7_count_27 T (oF κ T m) κ (some (A 0)) σ2 = some (none, oput σ2 (A 0) (.inr (9, cPs A nq ni rt at' (cd + 1) cn am bd nf ff))) ∧ cV κ sz len cnt kk pp ee f A nq ni rt (oput σ2 (A 0) (.inr (9, cPs A nq ni rt at' (cd + 1) cn am bd nf ff))) D' at' (cd + 1) cn am bd nf ff := fun σ2 D' k => by
    have hp := k.put (at2 := at') (cd2 := cd + 1) (cn2 := cn) (am2 := am) (bd2 := bd) (nf2 := nf) (ff2 := ff) k.2.2.1 (by omega) (Nat.le_refl _)
    refine ⟨?_, hp.1⟩
    unfold oj_X7_count_27
    have f12 : ofd σ2 (some (A 0)) 9 12 = some (.int (nI cd)) := by rw [ofd_at k.2.1]; rfl
    have pe : opf σ2 (some (A 0)) 9 12 (.int (nI (cd + 1))) = some (oput σ2 (A 0) (.inr (9, cPs A nq ni rt at' (cd + 1) cn am bd nf ff))) := opf_at k.2.1 (show 12 < 18 by decide)
    rw [f12]
    simp only [ovi]
    rw [obn_at, show nI cd + 1 = nI (cd + 1) by rw [nI_1], pe, obn_at]
  by_cases c : cd < 12
  · rw [if_neg (show ¬ (12 : Int32) ≤ nI cd from show ¬ nI 12 ≤ nI cd from nI_ge c (by decide)), f1]
    simp only [ovr]
    rw [obn_at, obn_at]
    have c7 := v1.1.2.2.1
    have er : osr σ1 (some (A 7)) (nI cd) (some b) = some (oput σ1 (A 7) (.inl (.object "LiquidTongue$Name", 12, .inr (.inr (.inr (.inr (va_up D.2.2.1 cd (some b)))))))) := by
      simp only [osr, c7, zin_n c (show 12 < 2 ^ 31 by decide), if_true, e1, ofits_n, nI_clamp (show cd < 2 ^ 31 by omega)]
    rw [er, obn_at]
    have b7 : b ≠ A 7 := fun z => by rw [z, c7] at e1; cases e1
    have a07 : A 0 ≠ A 7 := fun z => by have w := v1.2.1; rw [z, c7] at w; cases w
    -- the row with the NAME in it
    have v2 : cV κ sz len cnt kk pp ee f A nq ni rt (oput σ1 (A 7) (.inl (.object "LiquidTongue$Name", 12, .inr (.inr (.inr (.inr (va_up D.2.2.1 cd (some b)))))))) (D.1, D.2.1, va_up D.2.2.1 cd (some b), D.2.2.2) at' cd cn am bd nf ff := by
      obtain ⟨⟨⟨a1, a2, a3, a4⟩, ⟨b1, b2, b3, b4, b5, b6, b7'⟩, c1, ⟨⟨mc, d1⟩, ⟨mc', d2⟩, d3, d4, d5, d6⟩, e4⟩, h0, h4, h5, h6, h7⟩ := v1
      have l7 := alt a1 c1
      have nn : ∀ a c, σ1.1 a = some c → (∀ x, c ≠ .inl (.object "LiquidTongue$Name", x)) → (oput σ1 (A 7) (.inl (.object "LiquidTongue$Name", 12, .inr (.inr (.inr (.inr (va_up D.2.2.1 cd (some b)))))))).1 a = some c := fun a c ea hc => by rw [oput_ne (fun z => by rw [z, c1] at ea; cases ea; exact hc _ rfl)]; exact ea
      have nd : ∀ (d cap : Nat) (g : Nat → Option Nat), σ1.1 d = some (.inl (.object "java/lang/Object", cap, .inr (.inr (.inr (.inr g))))) → d ≠ A 7 := fun d cap g e z => by
        rw [z, c1] at e
        have e' := Option.some.inj e
        injection e' with e'
        injection e' with e1 e2
        injection e1 with e3
        exact absurd e3 (by decide)
      have nk : κ.2.2.1 ≠ A 7 := fun z => by rw [← z, a2 _ a4] at c1; cases c1
      have LK : ∀ {x d cap l ci : Nat} {mc : Int32} {g : Nat → Option Nat}, cLs κ σ1 x d cap l mc g ci → cLs κ (oput σ1 (A 7) (.inl (.object "LiquidTongue$Name", 12, .inr (.inr (.inr (.inr (va_up D.2.2.1 cd (some b)))))))) x d cap l mc g ci := fun {x d cap l ci mc g} hl => hl.keep ((nn _ _ hl.1 (fun x z => by cases z)).trans hl.1.symm) (oput_ne (by
        rcases hl.2.1 with ⟨-, -, q, -⟩ | ⟨q, -⟩
        · rw [q]; exact nk
        · exact nd _ _ _ q)) (fun a gs e => ⟨gs, nn a _ e (fun x z => by cases z)⟩)
      refine ⟨⟨⟨fun q hq => ?_, fun q hq => ?_, a3, a4⟩, ⟨nn _ _ b1 (fun x z => by cases z), b2.keep (by obtain ⟨fs', y⟩ := b2.r; rw [y]; exact nn _ _ y (fun x z => by cases z)) (by rcases b2.v with ⟨fs', y⟩ | ⟨x', y⟩; (rw [y]; exact nn _ _ y (fun x z => by cases z)); (rw [y]; exact nn _ _ y (fun x z => by cases z))), nn _ _ b3 (fun x z => by cases z), nn _ _ b4 (fun x z => by cases z), nn _ _ b5 (fun x z => by cases z), b6, b7'⟩, oput_eq _ _ _, ⟨⟨mc, LK d1⟩, ⟨mc', LK d2⟩, d3, d4, d5, d6⟩, e4⟩, nn _ _ h0 (fun x z => by cases z), h4, h5, h6, h7⟩
      · have hq' : σ1.2.1 ≤ q := hq
        rw [oput_ne (by omega)]; exact a1 q hq
      · rw [oput_ne (fun z => by rw [← z, a2 q hq] at c1; cases c1)]; exact a2 q hq
    obtain ⟨y1, y2⟩ := FIN _ _ v2
    refine ⟨_, _, y1, y2, fun a h1 h2 h3 => ?_, e3, ?_, rfl, rfl, rfl, ?_⟩
    · rw [oput_ne h1, oput_ne h2]; exact e2 a h3
    · rw [oput_ne hA0, oput_ne b7]; exact e1
    · rw [if_pos c]
  · rw [if_pos (show (12 : Int32) ≤ nI cd from show nI 12 ≤ nI cd from nI_le (by omega) (by omega))]
    obtain ⟨y1, y2⟩ := FIN _ _ v1
    refine ⟨_, _, y1, y2, fun a h1 h2 h3 => ?_, e3, ?_, rfl, rfl, rfl, ?_⟩
    · rw [oput_ne h1]; exact e2 a h3
    · rw [oput_ne hA0]; exact e1
    · rw [if_neg c]
/-- NAMES over count: one more that counts -/
theorem cNm.ct {D' : cDt} {b w : Nat} {ps : List Value} (h : cNm pp ee f σ D nm ν cd nf) (h0 : σ.1 (A 0) = some (.inr (9, ps))) (h7 : ∃ x, σ.1 (A 7) = some (.inl (.object "LiquidTongue$Name", x))) (hw : cNc pp ee f σ b w) (hnm : nm w = some b) (hl : wL pp ee w ≤ 2000) (hk : ∀ a, a ≠ A 0 → a ≠ A 7 → a ≠ b → σ'.1 a = σ.1 a) (hb : ∀ fs, σ.1 b = some (.inr (6, fs)) → σ'.1 b = some (.inr (6, fs.set 1 (.int (nI cd))))) (d1 : D'.1 = D.1) (d2 : D'.2.1 = D.2.1) (d3 : D'.2.2.1 = if cd < 12 then va_up D.2.2.1 cd (some b) else D.2.2.1) : cNm pp ee f σ' D' nm (nCnt w ν) (cd + 1) nf ∧ cNc pp ee f σ' b w := by
  obtain ⟨x7, h7⟩ := h7
  -- a NAME's object over count
  have KC : ∀ b' u, cNc pp ee f σ b' u → cNc pp ee f σ' b' u := fun b' u hc => by
    obtain ⟨q, v, i1, i2, i3, g, t1, t2, t3⟩ := hc
    have kq : ∀ a c, σ.1 a = some c → (∀ fs, c ≠ .inr (9, fs)) → (∀ fs, c ≠ .inr (6, fs)) → (∀ x, c ≠ .inl (.object "LiquidTongue$Name", x)) → σ'.1 a = some c := fun a c ea c9 c6 cn => by
      rw [hk a (fun z => by rw [z, h0] at ea; cases ea; exact c9 _ rfl) (fun z => by rw [z, h7] at ea; cases ea; exact cn _ rfl) (fun z => by
        obtain ⟨q', v', j1, j2, j3, g', y1, -⟩ := hw
        rw [z, y1] at ea; cases ea; exact c6 _ rfl)]
      exact ea
    have kt : cTx σ' q v (wL pp ee u) g := ⟨kq _ _ t2.1 (fun _ z => by cases z) (fun _ z => by cases z) (fun _ z => by cases z), kq _ _ t2.2.1 (fun _ z => by cases z) (fun _ z => by cases z) (fun _ z => by cases z), t2.2.2⟩
    by_cases eb : b' = b
    · subst eb
      exact ⟨q, v, nI cd, i2, i3, g, by rw [hb _ t1]; rfl, kt, t3⟩
    · exact ⟨q, v, i1, i2, i3, g, by rw [hk b' (fun z => by rw [z, h0] at t1; cases t1) (fun z => by rw [z, h7] at t1; cases t1) eb]; exact t1, kt, t3⟩
  obtain ⟨h1, h2, h3, h4, h5, h6⟩ := h
  refine ⟨⟨?_, fun k u e hk12 => ?_, ?_, h4, fun x hx => ?_, fun u hu => (by
    obtain ⟨b', e1, e2⟩ := h6 u hu
    exact ⟨b', e1, KC b' u e2⟩)⟩, KC b w hw⟩
  · show (ν.1 ++ [w]).length = cd + 1
    rw [List.length_append, h1]; rfl
  · have e' : (ν.1 ++ [w])[k]? = some u := e
    by_cases ek : k = ν.1.length
    · rw [ek, List.getElem?_append_right (Nat.le_refl _), Nat.sub_self] at e'
      cases e'
      refine ⟨b, ?_, hnm, KC b w hw⟩
      rw [d3, if_pos (by omega), ek, h1]
      simp [va_up]
    · have hkl : k < ν.1.length := by
        by_cases c : k < ν.1.length
        · exact c
        · rw [List.getElem?_append_right (by omega), List.getElem?_eq_none (by simp; omega)] at e'; cases e'
      rw [List.getElem?_append_left hkl] at e'
      obtain ⟨b', b1, b2, b3⟩ := h2 k u e' hk12
      refine ⟨b', ?_, b2, KC b' u b3⟩
      rw [d3]
      split
      · show (if k = cd then some b else D.2.2.1 k) = some b'
        rw [if_neg (by omega)]; exact b1
      · exact b1
  · rw [d1, d2]; exact h3
  · have hx' : x ∈ ν.1 ++ [w] := hx
    rcases List.mem_append.mp hx' with z | z
    · exact h5 x z
    · rw [List.mem_singleton.mp z]; exact hl
end CPC
