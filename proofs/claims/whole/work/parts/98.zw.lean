/-! the class's parser: test -/
section CQJ
variable {κ : oKv} {sz T n m len cnt : Nat} {kk pp ee f : Nat → Int32} {A : Nat → Nat} {nq ni : Int32} {rt : Value} {σ σ' : oSt} {D : cDt} {at' cd : Nat} {cn am bd nf ff : Int32} {s : Sum Nat Nat} {nm : Nat → Option Nat} {ν : nSt}
/-- test(depth) -/
theorem c_test {dp : Nat} {F : Nat → aR tT} (HG : cCc κ sz T len cnt kk pp ee f A nq ni rt D cd cn nm 127 dp m F 22 190) (hm : 6 ≤ m) (h : cV κ sz len cnt kk pp ee f A nq ni rt σ D at' cd cn am bd nf ff) (ho : cO pp cnt at' bd s) (hn : ∀ i, s = .inr i → cNm pp ee f σ D nm ν cd nf) : ∃ σ' at2 cn2 am2 bd2 nf2 ff2 e pl, oF κ T (m + 1) 129 [va_rf (some (A 0)), .int (nI dp)] σ = some (some (va_rf (some e)), σ') ∧ cV κ sz len cnt kk pp ee f A nq ni rt σ' D at2 cd cn2 am2 bd2 nf2 ff2 ∧ cO pp cnt at2 bd2 (aTo s F) ∧ cFr A σ D σ' D ∧ (cPn σ' e pl ∧ σ.2.1 ≤ e) ∧ (σ'.2.2.1 + 30 * at' ≤ σ.2.2.1 + 22 + 30 * at2 ∧ σ'.2.2.2 + 240 * at' ≤ σ.2.2.2 + 190 + 240 * at2) ∧ at' ≤ at2 ∧ (∀ i t j, s = .inr i → F i = .inr (t, j) → cCt κ T kk pp ee f A D σ.2.1 σ' cd (nRes f pp ee nm ν) t (fun _ => none) 0 e ∧ pl = pp (tPl t) ∧ cNm pp ee f σ' D nm (nCt f pp ee t ν) cd nf2 ∧ (am2 = am + nI (tAt t) ∧ cn2 = cn + nI (tAt t)) ∧ ff2 = if cn + nI (tAt t) ≤ 6 then fCt pp (nRes f pp ee nm ν) t ff else fMin (fCt pp (nRes f pp ee nm ν) t ff) (pp i)) := by
  have lowσ : κ.2.2.1 < sz := h.1.1.2.2.2
  rw [oE_X7_test]
  unfold ob_X7_test
  have f14 : ofd σ (some (A 0)) 9 14 = some (.int am) := by rw [ofd_at h.2.1]; rfl
  rw [oob_at h.2.1, obn_at, c_here (n := m) h (by omega), oin_at, f14, ovi_in, obn_at, oob_at h.2.1, obn_at]
  obtain ⟨σ1, at1, am1, bd1, nf1, ff1, e, pl, y1, y2, y3, y4, ⟨⟨fs, y5, y5b⟩, y5c⟩, ⟨y6, y6b⟩, y7, y8⟩ := HG σ at' am bd nf ff s ν h ho hn
  have g13 : ofd σ1 (some (A 0)) 9 13 = some (.int cn) := by rw [ofd_at y2.2.1]; rfl
  have g14 : ofd σ1 (some (A 0)) 9 14 = some (.int am1) := by rw [ofd_at y2.2.1]; rfl
  have p2 : opf σ1 (some (A 0)) 9 13 (.int (cn + (am1 - am))) = some (oput σ1 (A 0) (.inr (9, cPs A nq ni rt at1 cd (cn + (am1 - am)) am1 bd1 nf1 ff1))) := by
    rw [opf_at y2.2.1 (show 13 < 18 by decide)]; rfl
  rw [y1, orn_at, g13, ovi_in, obn_at, g14, ovi_in, obn_at, p2, obn_at]
  obtain ⟨v2, r2⟩ := y2.put (at2 := at1) (cd2 := cd) (cn2 := cn + (am1 - am)) (am2 := am1) (bd2 := bd1) (nf2 := nf1) (ff2 := ff1) y2.2.2.1 y2.2.2.2.1 (Nat.le_refl _)
  have k2 : ∀ a, a ≠ A 0 → (oput σ1 (A 0) (.inr (9, cPs A nq ni rt at1 cd (cn + (am1 - am)) am1 bd1 nf1 ff1))).1 a = σ1.1 a := fun a ha => oput_ne ha
  have z2 : (oput σ1 (A 0) (.inr (9, cPs A nq ni rt at1 cd (cn + (am1 - am)) am1 bd1 nf1 ff1))).2 = σ1.2 := rfl
  generalize oput σ1 (A 0) (.inr (9, cPs A nq ni rt at1 cd (cn + (am1 - am)) am1 bd1 nf1 ff1)) = σ2 at v2 r2 k2 z2 ⊢
  have h13 : ofd σ2 (some (A 0)) 9 13 = some (.int (cn + (am1 - am))) := by rw [ofd_at v2.2.1]; rfl
  rw [h13, ovi_in, obn_at]
  have FIN : ∀ (σ3 : oSt) (ff3 : Int32), cV κ sz len cnt kk pp ee f A nq ni rt σ3 D at1 cd (cn + (am1 - am)) am1 bd1 nf1 ff3 → cFr A σ2 D σ3 D → σ3.2 = σ2.2 → (∀ a, a ≠ A 0 → σ3.1 a = σ2.1 a) → ff3 = (if cn + (am1 - am) ≤ 6 then ff1 else fMin ff1 (pp at')) → cV κ sz len cnt kk pp ee f A nq ni rt σ3 D at1 cd (cn + (am1 - am)) am1 bd1 nf1 ff3 ∧ cO pp cnt at1 bd1 (aTo s F) ∧ cFr A σ D σ3 D ∧ (cPn σ3 e pl ∧ σ.2.1 ≤ e) ∧ (σ3.2.2.1 + 30 * at' ≤ σ.2.2.1 + 22 + 30 * at1 ∧ σ3.2.2.2 + 240 * at' ≤ σ.2.2.2 + 190 + 240 * at1) ∧ at' ≤ at1 ∧ (∀ i t j, s = .inr i → F i = .inr (t, j) → cCt κ T kk pp ee f A D σ.2.1 σ3 cd (nRes f pp ee nm ν) t (fun _ => none) 0 e ∧ pl = pp (tPl t) ∧ cNm pp ee f σ3 D nm (nCt f pp ee t ν) cd nf1 ∧ (am1 = am + nI (tAt t) ∧ cn + (am1 - am) = cn + nI (tAt t)) ∧ ff3 = if cn + nI (tAt t) ≤ 6 then fCt pp (nRes f pp ee nm ν) t ff else fMin (fCt pp (nRes f pp ee nm ν) t ff) (pp i)) := fun σ3 ff3 g1 g2 g3 g4 g5 => by
    have r3 := r2.tr g2
    have z32 : σ3.2.2.1 = σ1.2.2.1 := by rw [g3, z2]
    have z33 : σ3.2.2.2 = σ1.2.2.2 := by rw [g3, z2]
    refine ⟨g1, y3, y4.tr r3, ⟨⟨fs, y2.kd r3 y5 (by omega), y5b⟩, y5c⟩, ⟨by omega, by omega⟩, y7, fun i t j hi ht => ?_⟩
    obtain ⟨u1, u2, u3, u4, u5⟩ := y8 i t j hi ht
    have hati : at' = i := by rw [hi] at ho; exact ho.2.1
    have ea : am1 - am = nI (tAt t) := by rw [u4, Int32.add_comm, Int32.add_sub_cancel]
    refine ⟨cCt.kp (cKp.fr y2 r3 (Nat.le_refl _) (g1.1.1.2.1 _ lowσ)) t _ _ _ u1, u2, ?_, ⟨u4, by rw [ea]⟩, by rw [g5, ea, u5, hati]⟩
    exact u3.gn (fun a c ea hc => by
      have ne : a ≠ A 0 := fun z => by rw [z, y2.2.1] at ea; cases ea; exact hc.n9
      rw [g4 a ne, k2 a ne]
      exact ea)
  by_cases c6 : cn + (am1 - am) ≤ 6
  · rw [if_pos c6]
    exact ⟨σ2, at1, _, am1, bd1, nf1, ff1, e, pl, rfl, FIN σ2 ff1 v2 (cFr.rf _ _ _) rfl (fun _ _ => rfl) (by rw [if_pos c6])⟩
  · rw [if_neg c6, oob_at v2.2.1, obn_at]
    obtain ⟨m1, hm1⟩ : ∃ m1, m = m1 + 1 := ⟨m - 1, by omega⟩
    obtain ⟨σ3, w1, w2, w3, w4, w5⟩ := c_blame (κ := κ) (T := T) (n := m1) (x := pp at') v2
    rw [← hm1] at w1
    rw [w1, ocv_at]
    exact ⟨σ3, at1, _, am1, bd1, nf1, fMin ff1 (pp at'), e, pl, rfl, FIN σ3 _ w2 w3 w4 w5 (by rw [if_neg c6])⟩
end CQJ
