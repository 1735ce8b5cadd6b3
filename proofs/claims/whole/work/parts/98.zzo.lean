/-! the class's parser: an S over NAMES in one word; a sum beside it -/
section CQZ
variable {κ : oKv} {sz T n m len cnt : Nat} {kk pp ee f : Nat → Int32} {A : Nat → Nat} {nq ni : Int32} {rt : Value} {σ σ' : oSt} {D D' : cDt} {at' cd : Nat} {cn am bd nf ff : Int32} {s : Sum Nat Nat} {nm nm' : Nat → Option Nat} {ν : nSt} {lo e i : Nat}
theorem aSm_1 {j : Nat} {t : tS} (h : aSm kk T i = .inr (t, j)) : t.1 = i ∧ i < j := by
  unfold aSm at h
  obtain ⟨p, j1, h1, h⟩ := on_inr h
  obtain ⟨ps, j2, h2, h⟩ := on_inr h
  injection h with h
  injection h with h3 h4
  subst h3
  subst h4
  refine ⟨rfl, ?_⟩
  have a := aPt_w h1
  have b := (aSL_w _ _ h2).1
  obtain ⟨-, -, -, a1, a2⟩ := a
  split at a1 <;> omega
theorem sAll_ln (v : Int32) : ∀ (L' L : List (Nat × Int32)), (sAll v L' L).length ≤ L.length + L'.length
  | [], L => Nat.le_refl _
  | q :: L', L => by
    have a := sAll_ln v L' (sAdd L q.1 (v * q.2))
    have b := sAdd_len L q.1 (v * q.2)
    show (sAll v L' (sAdd L q.1 (v * q.2))).length ≤ _
    rw [List.length_cons]
    omega
/-- sum() -/
theorem c_sumQ (h : cV κ sz len cnt kk pp ee f A nq ni rt σ D at' cd cn am bd nf ff) (ho : cO pp cnt at' bd s) (hn : ∀ i, s = .inr i → cQn pp ee f σ D nm ν cd nf i) (hm : 10 ≤ m) (hT : 2010 ≤ T) (hwl : ∀ j, j < cnt → wL pp ee j ≤ 10) : ∃ σ' at2 bd2 nf2 fs su na ta cap L pl, oF κ T m 121 [va_rf (some (A 0))] σ = some (some (va_rf (some σ.2.1)), σ') ∧ cV κ sz len cnt kk pp ee f A nq ni rt σ' D at2 cd cn am bd2 nf2 ff ∧ cO pp cnt at2 bd2 (aTo s (aSm kk T)) ∧ cFr A σ D σ' D ∧ (σ'.1 σ.2.1 = some (.inr (7, fs)) ∧ fs.length = 21 ∧ fs[19]? = some (.ref su) ∧ fs[1]? = some (.int (pp at'))) ∧ (cSm σ' su na ta cap L pl ∧ L.length + at' ≤ at2 + 1 ∧ cOk A D σ.2.1 σ' su ∧ cOk A D σ.2.1 σ' na ∧ cOk A D σ.2.1 σ' ta) ∧ (σ'.2.2.1 + 6 * at' ≤ σ.2.2.1 + 11 + 6 * at2 ∧ σ'.2.2.2 + 61 * at' ≤ σ.2.2.2 + 87 + 61 * at2) ∧ (at' ≤ at2 ∧ at' + 1 ≤ at2 + fl (aTo s (aSm kk T))) ∧ (∀ i t j, s = .inr i → aSm kk T i = .inr (t, j) → L = sL (nRes f pp ee nm ν) t.2 ∧ pl = sPl T (fun j => f j &&& 255) pp ee t.2 ∧ cSq κ T pp ee f A D σ.2.1 σ' σ.2.1 (pp t.1) cd (nRes f pp ee nm ν) t (tAl kk t) su ∧ cQn pp ee f σ' D nm (nPs f pp ee t.2 ν) cd nf2 j) := by
  obtain ⟨m2, hm2⟩ : ∃ m2, m = m2 + 2 := ⟨m - 2, by omega⟩
  obtain ⟨σ1, a1, at1, bd1, nf1, ns1, ps1, al1, pa1, su1, na1, ta1, cap1, pc1, a2, a3, a4, a5, ⟨a6, a6b⟩, ⟨a7, a7b, a7c⟩, a8⟩ := c_sum (κ := κ) (T := T) (m := m2) (nm := nm) (ν := ν) h ho (fun i hi => (hn i hi).1) (by omega) hT hwl
  rw [← hm2] at a1
  obtain ⟨g1, g2, g3, g4, g5, g6, g7, g8⟩ := a5
  have hL : (sL ns1 ps1).length ≤ ps1.length := by have := sL_len (ns := ns1) ps1 []; rw [List.length_nil, Nat.zero_add] at this; exact this
  refine ⟨σ1, at1, bd1, nf1, _, su1, na1, ta1, cap1, _, _, a1, a2, a3, a4, ⟨g1, rfl, rfl, rfl⟩, ⟨g3, by omega, g6, g7, g8⟩, ⟨by omega, by omega⟩, ⟨a7, ?_⟩, fun i t j hi ht => ?_⟩
  · cases s with
    | inl j => exact Nat.succ_le_succ a7
    | inr i =>
      cases e : aSm kk T i with
      | inl k => rw [aTo_ok, e]; exact Nat.succ_le_succ a7
      | inr p =>
        obtain ⟨t, j⟩ := p
        rw [aTo_eq rfl e] at a3 ⊢
        have := (aSm_1 e).2
        have := a3.2.1
        have := ho.2.1
        omega
  · obtain ⟨b1, b2, b3, b4, b5⟩ := a8 i t j hi ht
    have G := cSp.nsc (ns' := nRes f pp ee nm ν) (show cSp κ T pp ee f A D σ.2.1 σ1 σ.2.1 at' cd ns1 ps1 al1 pa1 su1 na1 ta1 cap1 pc1 from ⟨g1, g2, g3, g4, g5, g6, g7, g8⟩) (fun p hp h0 => (b4 p (by rw [← b2]; exact hp) h0).symm)
    have hat : at' = i := (cO.at ho hi).1
    have el : sL ns1 ps1 = sL (nRes f pp ee nm ν) t.2 := by
      rw [← b2]
      exact sL_cg' (ns := nRes f pp ee nm ν) (ns' := ns1) ps1 [] (fun p hp h0 => b4 p (by rw [← b2]; exact hp) h0)
    refine ⟨el, by rw [b2], ?_, ?_⟩
    · obtain ⟨k1, ⟨dd, mc, g, k2, k3, k4, -⟩, k5, k6⟩ := G
      rw [b2] at k1 k2 k3 k5
      rw [b5, hat, ← b1] at k1
      exact ⟨pa1, na1, ta1, cap1, pc1, k1, ⟨dd, mc, g, k2, k3, k4⟩, k5, k6⟩
    · exact ((hn i hi).nn b3 (nPs_12 t.2 ν).1 (nPs_12 t.2 ν).2).le (by have := (aSm_1 ht).2; omega)
/-- a sum of its own: another's, and a NAME -/
theorem c_byd {su na ta cap : Nat} {L : List (Nat × Int32)} {pl : Int64} {r : Option Nat} {v : Int32} (h : cV κ sz len cnt kk pp ee f A nq ni rt σ D at' cd cn am bd nf ff) (hS : cSm σ su na ta cap L pl) (hL : L.length ≤ 2000) (hr : ∀ b, r = some b → ∃ fs, σ.1 b = some (.inr (6, fs))) (hm : 6 ≤ m) (hT : 2010 ≤ T) : ∃ σ1 σ2 σ3 na' ta' cap', oF κ T m 8 [va_rf (some σ.2.1)] (onew σ (.inr (11, odef 11)) (oq 11).2.2) = some (none, σ1) ∧ oF κ T m 124 [va_rf (some σ.2.1), va_rf (some su), .int 1] σ1 = some (none, σ2) ∧ oF κ T m 10 [va_rf (some σ.2.1), va_rf r, .int v] σ2 = some (none, σ3) ∧ ((∀ a, a < σ.2.1 → σ1.1 a = σ.1 a) ∧ (∀ a, a < σ.2.1 → σ2.1 a = σ.1 a) ∧ (∀ a, a < σ.2.1 → σ3.1 a = σ.1 a)) ∧ ((∃ fs, σ1.1 σ.2.1 = some (.inr (11, fs))) ∧ (∃ fs, σ2.1 σ.2.1 = some (.inr (11, fs)))) ∧ cV κ sz len cnt kk pp ee f A nq ni rt σ3 D at' cd cn am bd nf ff ∧ cFr A σ D σ3 D ∧ (cSm σ3 σ.2.1 na' ta' cap' (sNo r v (sAll 1 L [])) (0 + (1 : Int32).toInt64 * pl) ∧ (σ.2.1 < σ3.2.1 ∧ σ.2.1 ≤ na' ∧ na' < σ3.2.1 ∧ σ.2.1 ≤ ta' ∧ ta' < σ3.2.1)) ∧ (σ3.2.2.1 ≤ σ.2.2.1 + 5 + 2 * L.length ∧ σ3.2.2.2 ≤ σ.2.2.2 + 16 + 16 * L.length) := by
  obtain ⟨m1, hm1⟩ : ∃ m1, m = m1 + 4 := ⟨m - 4, by omega⟩
  have fr := h.1.1.1
  have ltS : su < σ.2.1 ∧ na < σ.2.1 ∧ ta < σ.2.1 := by
    obtain ⟨g, hh, s1, s2, s3, -⟩ := hS
    exact ⟨alt fr s1, alt fr s2, alt fr s3⟩
  rw [oq_11]
  have e0 : (onew σ (.inr (11, odef 11)) 4).1 σ.2.1 = some (.inr (11, odef 11)) := onew_eq _ _ _
  have k0 : ∀ a, a ≠ σ.2.1 → (onew σ (.inr (11, odef 11)) 4).1 a = σ.1 a := fun a ha => onew_ne ha
  have z0 : (onew σ (.inr (11, odef 11)) 4).2 = (σ.2.1 + 1, σ.2.2.1 + 1, σ.2.2.2 + 4) := rfl
  generalize onew σ (.inr (11, odef 11)) 4 = σ0 at e0 k0 z0 ⊢
  have z01 : σ0.2.1 = σ.2.1 + 1 := by rw [z0]
  have fr0 : ∀ q, σ0.2.1 ≤ q → σ0.1 q = none := fun q hq => by rw [k0 q (by omega)]; exact fr q (by omega)
  obtain ⟨σ1, x1, x2, x3, x4, x5⟩ := x_init (κ := κ) (T := T) (n := m1 + 3) e0 fr0
  rw [show m1 + 3 + 1 = m by omega] at x1
  rw [z01] at x2 x3 x4
  have z1 : σ1.2 = (σ.2.1 + 3, σ.2.2.1 + 3, σ.2.2.2 + 8) := by rw [x5, z0]
  have z11 : σ1.2.1 = σ.2.1 + 3 := by rw [z1]
  have A1 : ∀ a, a < σ.2.1 → σ1.1 a = σ.1 a := fun a ha => by rw [x3 a (by omega) (by omega), k0 a (by omega)]
  have S1 : cSm σ1 su na ta cap L pl := hS.keep (fun a ha => A1 a (by rcases ha with z | z | z <;> omega)) (fun a fs ea => ⟨fs, by rw [A1 a (alt fr ea)]; exact ea⟩)
  obtain ⟨σ2, na2, ta2, cap2, y1, y2, y3, y4, y5, ⟨y6, y7⟩, ⟨y8, y9, y10⟩⟩ := x_all (κ := κ) (T := T) (n := m1) (v := 1) hT x2 S1 ⟨by omega, by omega, by omega⟩ (fun q hq => x4 q (by omega)) (by simp; omega)
  rw [show m1 + 4 = m by omega] at y1
  have A2 : ∀ a, a < σ.2.1 → σ2.1 a = σ.1 a := fun a ha => by rw [y3 a (by omega) (by omega) (by omega) (by omega)]; exact A1 a ha
  have c1 : ∃ fs, σ1.1 σ.2.1 = some (.inr (11, fs)) := by obtain ⟨_, _, w, -⟩ := x2; exact ⟨_, w⟩
  have c2 : ∃ fs, σ2.1 σ.2.1 = some (.inr (11, fs)) := by obtain ⟨_, _, w, -⟩ := y2; exact ⟨_, w⟩
  have n1 : σ1.2.2.1 = σ.2.2.1 + 3 := by rw [z1]
  have n2 : σ1.2.2.2 = σ.2.2.2 + 8 := by rw [z1]
  have lA : (sAll 1 L []).length ≤ L.length := by have := sAll_ln 1 L []; rw [List.length_nil, Nat.zero_add] at this; exact this
  rw [List.length_nil] at y10
  have FIN : ∀ (σ3 : oSt) (na' ta' cap' : Nat) (L3 : List (Nat × Int32)), cSm σ3 σ.2.1 na' ta' cap' L3 (0 + (1 : Int32).toInt64 * pl) → (∀ a, a < σ.2.1 → σ3.1 a = σ.1 a) → (∀ q, σ3.2.1 ≤ q → σ3.1 q = none) → σ2.2.1 ≤ σ3.2.1 → ((na' = na2 ∨ (σ2.2.1 ≤ na' ∧ na' < σ3.2.1)) ∧ (ta' = ta2 ∨ (σ2.2.1 ≤ ta' ∧ ta' < σ3.2.1))) → cV κ sz len cnt kk pp ee f A nq ni rt σ3 D at' cd cn am bd nf ff ∧ cFr A σ D σ3 D ∧ (σ.2.1 < σ3.2.1 ∧ σ.2.1 ≤ na' ∧ na' < σ3.2.1 ∧ σ.2.1 ≤ ta' ∧ ta' < σ3.2.1) := fun σ3 na' ta' cap' L3 w1 w2 w3 w4 w5 => by
    obtain ⟨v, r⟩ := h.ex w2 w3 (by omega)
    exact ⟨v, r, by omega, by omega, by omega, by omega, by omega⟩
  cases r with
  | none =>
    obtain ⟨w1, w2, w3⟩ := FIN σ2 na2 ta2 cap2 _ y2 A2 y4 (Nat.le_refl _) ⟨Or.inl rfl, Or.inl rfl⟩
    refine ⟨σ1, σ2, σ2, na2, ta2, cap2, x1, y1, ?_, ⟨A1, A2, A2⟩, ⟨c1, c2⟩, w1, w2, ⟨y2, w3⟩, by omega, by omega⟩
    rw [show m = (m1 + 3) + 1 by omega]
    exact x_add0
  | some b =>
    obtain ⟨fs, eb⟩ := hr b rfl
    have eb2 : σ2.1 b = some (.inr (6, fs)) := by rw [A2 b (alt fr eb)]; exact eb
    obtain ⟨σ3, na3, ta3, cap3, u1, u2, u3, u4, u5⟩ := x_add (κ := κ) (T := T) (n := m1 + 1) (v := v) y2 (by omega) eb2 y4 hT
    rw [show m1 + 1 + 3 = m by omega] at u1
    have n3 : σ2.2.1 ≤ σ3.2.1 ∧ ((na3 = na2 ∨ (σ2.2.1 ≤ na3 ∧ na3 < σ3.2.1)) ∧ (ta3 = ta2 ∨ (σ2.2.1 ≤ ta3 ∧ ta3 < σ3.2.1))) ∧ σ3.2.2.1 ≤ σ2.2.2.1 + 2 ∧ σ3.2.2.2 ≤ σ2.2.2.2 + 4 * L.length := by
      rcases u5 with ⟨t1, t2, t3, t4⟩ | ⟨t1, t2, t3, t4, t5⟩
      · rw [t4]; exact ⟨Nat.le_refl _, ⟨Or.inl t1, Or.inl t2⟩, by omega, by omega⟩
      · rw [t5]; exact ⟨show σ2.2.1 ≤ σ2.2.1 + 2 by omega, ⟨Or.inr ⟨by omega, show na3 < σ2.2.1 + 2 by omega⟩, Or.inr ⟨by omega, show ta3 < σ2.2.1 + 2 by omega⟩⟩, Nat.le_refl _, show σ2.2.2.2 + 4 * cap2 ≤ _ by omega⟩
    have A3 : ∀ a, a < σ.2.1 → σ3.1 a = σ.1 a := fun a ha => by rw [u3 a (by omega) (by omega) (by omega) (by omega)]; exact A2 a ha
    obtain ⟨w1, w2, w3⟩ := FIN σ3 na3 ta3 cap3 _ u2 A3 u4 n3.1 n3.2.1
    exact ⟨σ1, σ2, σ3, na3, ta3, cap3, x1, y1, u1, ⟨A1, A2, A3⟩, ⟨c1, c2⟩, w1, w2, ⟨u2, w3⟩, by omega, by omega⟩
end CQZ
