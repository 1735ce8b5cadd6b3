/-! the class's parser: readProgram is aPr -/
/-- what a PROGRAM's E is paid too much -/
def svG (r : aR (List tQ × List (Nat × Nat) × tT)) : Nat := match r with
  | .inr x => sv x.1.2.2 + (1680 * x.1.1.length + 1200 * x.1.2.1.length)
  | .inl _ => 0
/-- a QUAL has seven words or more -/
theorem aQl_7 {kk : Nat → Int32} {x : tQ} {i j : Nat} (h : aQl kk i = .inr (x, j)) : i + 7 ≤ j := by
  obtain ⟨i1, i2, i3, i4, t1, t2, t3, t4, t5, t6⟩ := aQl_eq h
  have w1 := (aBs_c t1).1
  have w2 := (aMs_inr t2).2
  have w3 := (aMs_inr t3).2
  have w6 := (aMs_inr t6).2
  have w5 : i3 + 2 ≤ i4 := by
    unfold aQu at t5
    obtain ⟨_, j1, h1, t5⟩ := on_inr t5
    injection h1 with h1
    injection h1 with _ h1
    split at t5
    · split at t5
      · obtain ⟨_, j3, h3, t5⟩ := on_inr t5
        injection t5 with t5
        injection t5 with _ t5
        have := (aMs_inr h3).2
        split at h1 <;> omega
      · injection t5 with t5
        injection t5 with _ t5
        split at h1 <;> omega
    · obtain ⟨_, j3, h3, t5⟩ := on_inr t5
      injection t5 with t5
      injection t5 with _ t5
      have := (aMs_inr h3).2
      split at h1 <;> omega
  omega
theorem aNp_5 {kk : Nat → Int32} {x : Nat × Nat} {i j : Nat} (h : aNp kk i = .inr (x, j)) : i + 5 ≤ j := by
  unfold aNp at h
  obtain ⟨_, i1, h1, h⟩ := on_inr h
  obtain ⟨_, i2, h2, h⟩ := on_inr h
  obtain ⟨b, i3, h3, h⟩ := on_inr h
  obtain ⟨_, i4, h4, h⟩ := on_inr h
  injection h with h
  injection h with _ h
  have w1 := (aMs_inr h1).2
  have w2 := (aMs_inr h2).2
  have w3 := (aBs_c h3).1
  have w4 := (aMs_inr h4).2
  omega
theorem aQc_7 {kk : Nat → Int32} : ∀ (r i : Nat) (xs : List tQ) (j : Nat), aQc kk r i = .inr (xs, j) → i + 7 * xs.length ≤ j
  | 0, i, xs, j, h => by
    injection h with h
    injection h with h1 h2
    rw [← h1, ← h2]
    exact Nat.le_refl _
  | r + 1, i, xs, j, h => by
    unfold aQc at h
    split at h
    · obtain ⟨x, j1, h1, h⟩ := on_inr h
      obtain ⟨ys, j2, h2, h⟩ := on_inr h
      injection h with h
      injection h with e1 e2
      have w1 := aQl_7 h1
      have w2 := aQc_7 r j1 ys j2 h2
      rw [← e1, List.length_cons]
      omega
    · injection h with h
      injection h with h1 h2
      rw [← h1, ← h2]
      exact Nat.le_refl _
theorem aNc_5 {kk : Nat → Int32} : ∀ (r i : Nat) (xs : List (Nat × Nat)) (j : Nat), aNc kk r i = .inr (xs, j) → i + 5 * xs.length ≤ j
  | 0, i, xs, j, h => by
    injection h with h
    injection h with h1 h2
    rw [← h1, ← h2]
    exact Nat.le_refl _
  | r + 1, i, xs, j, h => by
    unfold aNc at h
    split at h
    · obtain ⟨x, j1, h1, h⟩ := on_inr h
      obtain ⟨ys, j2, h2, h⟩ := on_inr h
      injection h with h
      injection h with e1 e2
      have w1 := aNp_5 h1
      have w2 := aNc_5 r j1 ys j2 h2
      rw [← e1, List.length_cons]
      omega
    · injection h with h
      injection h with h1 h2
      rw [← h1, ← h2]
      exact Nat.le_refl _
theorem on_as {α β γ : Type} (r : aR α) (F : α → Nat → aR β) (G : β → Nat → aR γ) : (r.on F).on G = r.on (fun a i => (F a i).on G) := by
  cases r with
  | inl j => rfl
  | inr p => rfl
section CRQ
variable {κ : oKv} {sz T n m len cnt : Nat} {kk pp ee f : Nat → Int32} {A : Nat → Nat} {nq ni : Int32} {rt : Value} {σ σ' : oSt} {D D' : cDt} {nm nm' : Nat → Option Nat} {fb fr fz fn g : Nat → Int32}
/-- no E begins with qual or input -/
theorem aE_kw {k i : Nat} (h : kk i = nI 218 ∨ kk i = nI 209) : aE kk T (k + 1) i = .inl i := by
  have ne : ∀ c, c < 2 ^ 31 → c ≠ 218 → c ≠ 209 → ¬ kk i = nI c := fun c h1 h2 h3 z => by
    rcases h with y | y
    · exact h2 (nI_inj' h1 (by decide) (z.symm.trans y))
    · exact h3 (nI_inj' h1 (by decide) (z.symm.trans y))
  have nb : ∀ c, c < 2 ^ 31 → c ≠ 218 → c ≠ 209 → aIs kk c i = false := fun c h1 h2 h3 => by
    rw [Bool.eq_false_iff]
    exact fun z => ne c h1 h2 h3 (of_decide_eq_true z)
  have nt : ¬ (false = true) := by decide
  rw [aE_no (ne 212 (by decide) (by decide) (by decide)) (ne 206 (by decide) (by decide) (by decide)) (ne 207 (by decide) (by decide) (by decide)) (ne 201 (by decide) (by decide) (by decide)) (ne 220 (by decide) (by decide) (by decide)) (ne 215 (by decide) (by decide) (by decide)) (ne 216 (by decide) (by decide) (by decide)) (ne 203 (by decide) (by decide) (by decide)) (ne 214 (by decide) (by decide) (by decide)) (ne 223 (by decide) (by decide) (by decide)) (ne 205 (by decide) (by decide) (by decide)) (ne 40 (by decide) (by decide) (by decide))]
  unfold aOp
  rw [nb 1 (by decide) (by decide) (by decide), if_neg (by simp), if_neg (by simp)]
  unfold aOq aSm
  rw [nb 45 (by decide) (by decide) (by decide), if_neg nt]
  unfold aPt
  rw [nb 211 (by decide) (by decide) (by decide), if_neg nt, nb 221 (by decide) (by decide) (by decide), if_neg nt, nb 2 (by decide) (by decide) (by decide), if_neg nt]
  unfold aMs
  rw [nb 1 (by decide) (by decide) (by decide), if_neg nt]
  rfl
theorem aQs_c {β : Type} : ∀ (q i : Nat) (H : List tQ → Nat → aR β), (∀ xs j, aIs kk 218 j = true → H xs j = .inl j) → (aQs kk q i).on H = (aQc kk q i).on H
  | 0, i, H, hH => by
    unfold aQs aQc
    by_cases c : aIs kk 218 i = true
    · rw [if_pos c]; exact (hH [] i c).symm
    · rw [if_neg c]
  | q + 1, i, H, hH => by
    unfold aQs aQc
    by_cases c : aIs kk 218 i = true
    · rw [if_pos c, if_pos c, on_as, on_as]
      congr 1
      funext x j
      rw [on_as, on_as]
      exact aQs_c q j (fun xs j' => H (x :: xs) j') (fun xs j' hj => hH _ _ hj)
    · rw [if_neg c, if_neg c]
theorem aNs_c {β : Type} : ∀ (q i : Nat) (H : List (Nat × Nat) → Nat → aR β), (∀ xs j, aIs kk 209 j = true → H xs j = .inl j) → (aNs kk q i).on H = (aNc kk q i).on H
  | 0, i, H, hH => by
    unfold aNs aNc
    by_cases c : aIs kk 209 i = true
    · rw [if_pos c]; exact (hH [] i c).symm
    · rw [if_neg c]
  | q + 1, i, H, hH => by
    unfold aNs aNc
    by_cases c : aIs kk 209 i = true
    · rw [if_pos c, if_pos c, on_as, on_as]
      congr 1
      funext x j
      rw [on_as, on_as]
      exact aNs_c q j (fun xs j' => H (x :: xs) j') (fun xs j' hj => hH _ _ hj)
    · rw [if_neg c, if_neg c]
/-- as the class reads a PROGRAM -/
theorem aPr_c (kk : Nat → Int32) (T cnt : Nat) : aPr kk T cnt = (aQc kk 6 0).on fun qs j => (aNc kk 6 j).on fun is j' => (aE kk T 31 j').on fun t j2 => if j2 = cnt then .inr ((qs, is, t), j2) else .inl j2 := by
  unfold aPr
  have E : ∀ (qs : List tQ) (j : Nat), ((aNs kk 6 j).on fun is j' => (aE kk T 31 j').on fun t j2 => if j2 = cnt then .inr ((qs, is, t), j2) else .inl j2 : aR (List tQ × List (Nat × Nat) × tT)) = (aNc kk 6 j).on fun is j' => (aE kk T 31 j').on fun t j2 => if j2 = cnt then .inr ((qs, is, t), j2) else .inl j2 := fun qs j => aNs_c 6 j _ (fun xs j' hj => by rw [aE_kw (Or.inr (of_decide_eq_true hj))]; rfl)
  rw [aQs_c 6 0 _ (fun xs j hj => ?_)]
  · congr 1
    funext qs j
    exact E qs j
  · rw [E]
    have hk : kk j = nI 218 := of_decide_eq_true hj
    unfold aNc
    rw [if_neg (aIs_ne hk (c := 209) (by decide) (by decide) (by decide))]
    show ((aE kk T 31 j).on _) = _
    rw [aE_kw (Or.inl hk)]
    rfl
set_option maxHeartbeats 2000000 in
/-- **readProgram** -/
theorem c_program (hm : 230 ≤ m) (hT : 2010 ≤ T) (hwl : ∀ j, j < cnt → wL pp ee j ≤ 10) (hnz : ∀ i, i < cnt → ¬ kk i = 0) (h : cV κ sz len cnt kk pp ee f A (nI 0) (nI 0) rt σ D 0 0 0 0 (-1) (-1) (-1)) (hD : D.1.2.2.2.2 = (0, 0)) (hR : cRw A σ fb fr fz fn) (hz : ∀ j, fz j = 0 ∧ fn j = 0) : ∃ σ' D' at2 am2 bd2 nf2 ff2 nm' q' n' cd' e fb' fr' fz' fn', oF κ T (m + 1) 145 [va_rf (some (A 0))] σ = some (none, σ') ∧ cV κ sz len cnt kk pp ee f A (nI q') (nI n') (.ref e) σ' D' at2 cd' 0 am2 bd2 nf2 ff2 ∧ cO pp cnt at2 bd2 (aPr kk T cnt).st ∧ (σ.2.1 ≤ σ'.2.1 ∧ (∀ a, a < σ.2.1 → ¬ cMu A D a → a ≠ A 10 → a ≠ A 11 → a ≠ A 12 → a ≠ A 13 → σ'.1 a = σ.1 a) ∧ (D'.1.1 = D.1.1 ∨ σ.2.1 ≤ D'.1.1) ∧ (D'.1.2.1 = D.1.2.1 ∨ σ.2.1 ≤ D'.1.2.1)) ∧ cRw A σ' fb' fr' fz' fn' ∧ (8 * σ'.2.2.1 + svG (aPr kk T cnt) ≤ 8 * σ.2.2.1 + 432 + 240 * cnt ∧ σ'.2.2.2 + svG (aPr kk T cnt) + 4 * D.1.2.2.1 + 4 * D.1.2.2.2.1 ≤ σ.2.2.2 + 482 + 240 * cnt + 4 * D'.1.2.2.1 + 4 * D'.1.2.2.2.1) ∧ (∀ qs is t j, aPr kk T cnt = .inr ((qs, is, t), j) → (q' = qs.length ∧ n' = is.length ∧ cd' = is.length ∧ j = cnt) ∧ (∀ k x, qs[k]? = some x → fb' k = bCd x.1 ∧ fr' k = rCd x.2.1 ∧ fz' k = zSr x.2.2 ∧ fn' k = zNu T f pp ee x.2.2.2.2) ∧ cIs A D' σ.2.1 σ' nm' is 0 ∧ cTr κ T kk pp ee f A D' σ.2.1 σ' nm' t (nIn f pp ee is (([], [], none) : nSt)).1 0 (fun _ => none) 0 e ∧ cQn pp ee f σ' D' nm' (nT f pp ee t (nIn f pp ee is (([], [], none) : nSt))) cd' nf2 j ∧ ff2 = fE f pp ee t (nIn f pp ee is (([], [], none) : nSt)).1 0 (-1) ∧ D'.1.2.2.2.2.2 = nF t) := by
  rw [oE_X7_readProgram]
  unfold ob_X7_readProgram
  have o0 : cO pp cnt 0 (-1) (.inr 0) := ⟨rfl, rfl, Nat.zero_le _⟩
  have N0 : cQn pp ee f σ D (fun _ => none) (([], [], none) : nSt) 0 (-1) 0 := by
    exact ⟨⟨rfl, fun k u e _ => (by cases e), ⟨(by rw [hD]; rfl), fun k u e => (by cases e)⟩, rfl, fun x hx => (by cases hx), fun u hu => (by cases hu)⟩, fun x hx => (by rcases hx with z | z <;> cases z), fun u hu => (by cases hu), fun u hu => (by cases hu)⟩
  obtain ⟨σ1, at1, bd1, q1, fb1, fr1, fz1, fn1, a1, v1, o1, k1, z1, a2, a3, R1, a4, a5⟩ := c_qlp (κ := κ) (T := T) (m := m) (by omega) hT 6 0 T σ 0 (-1) (.inr 0) fb fr fz fn (by omega) (by omega) h o0 hR (fun j _ => hz j)
  rw [a1]
  have l1 : σ1.2.1 = σ.2.1 := by rw [z1]
  have c1 : σ1.2.2 = σ.2.2 := by rw [z1]
  have ty1 : ∀ a c, σ.1 a = some c → cTy c → σ1.1 a = some c := fun a c ea hc => by
    obtain ⟨⟨y1, y2, y3, y4⟩, y5⟩ := hR
    rw [k1 a (fun z => by rw [z, h.2.1] at ea; injection ea with ea; rw [← ea] at hc; exact hc.n9) (fun z => by rw [z, y1] at ea; injection ea with ea; subst ea; rcases hc with ⟨x, hx⟩ | ⟨x, hx⟩ | ⟨x, hx⟩ <;> cases hx) (fun z => by rw [z, y2] at ea; injection ea with ea; subst ea; rcases hc with ⟨x, hx⟩ | ⟨x, hx⟩ | ⟨x, hx⟩ <;> cases hx) (fun z => by rw [z, y3] at ea; injection ea with ea; subst ea; rcases hc with ⟨x, hx⟩ | ⟨x, hx⟩ | ⟨x, hx⟩ <;> cases hx) (fun z => by rw [z, y4] at ea; injection ea with ea; subst ea; rcases hc with ⟨x, hx⟩ | ⟨x, hx⟩ | ⟨x, hx⟩ <;> cases hx)]
    exact ea
  have N1 : ∀ i, cQn pp ee f σ1 D (fun _ => none) (([], [], none) : nSt) 0 (-1) i := fun i => (show cQn pp ee f σ1 D (fun _ => none) (([], [], none) : nSt) 0 (-1) 0 from ⟨N0.1.gn ty1, N0.2⟩).le (Nat.zero_le _)
  obtain ⟨σ2, D2, at2, bd2, nf2, n2, nm2, cd2, b1, v2, o2, r2, ⟨b2, b3⟩, ⟨b4, b5, b6, b7, b8⟩, b9⟩ := c_nlp (κ := κ) (T := T) (m := m) (by omega) hT hwl 6 0 T σ1 D at1 0 bd1 (-1) _ (fun _ => none) (([], [], none) : nSt) (by omega) (by omega) v1 o1 (by omega) (fun i _ => N1 i)
  rw [b1]
  unfold oj_X7_readProgram_72
  rw [oob_at v2.2.1, obn_at]
  obtain ⟨is2, his2⟩ : ∃ is2 : List (Nat × Nat), ∀ i xs j, aTo (.inr 0) (aQc kk 6) = .inr i → aNc kk 6 i = .inr (xs, j) → xs = is2 := by
    cases e : aTo (.inr 0) (aQc kk 6) with
    | inl k => exact ⟨[], fun i xs j hh _ => by cases hh⟩
    | inr i0 =>
      cases e2 : aNc kk 6 i0 with
      | inl k => exact ⟨[], fun i xs j hh h2 => by cases hh; rw [e2] at h2; cases h2⟩
      | inr p => obtain ⟨xs, j⟩ := p; exact ⟨xs, fun i xs' j' hh h2 => by cases hh; rw [e2] at h2; injection h2 with h2; injection h2 with w1 w2; exact w1.symm⟩
  have N2 : ∀ i, aTo (aTo (.inr 0) (aQc kk 6)) (aNc kk 6) = .inr i → cQn pp ee f σ2 D2 nm2 (nIn f pp ee is2 (([], [], none) : nSt)) cd2 nf2 i := fun i hi => by
    obtain ⟨i1, xs, h1, d1⟩ := aTo_inr hi
    have B := (b9 i1 xs i h1 d1).2.1
    rw [his2 i1 xs i h1 d1] at B
    exact B
  have HE := c_expr (κ := κ) (sz := sz) (T := T) (len := len) (cnt := cnt) (kk := kk) (pp := pp) (ee := ee) (f := f) (A := A) (nq := nI q1) (ni := nI n2) (rt := rt) hT hwl 31 0 m (by omega) (by omega)
  obtain ⟨σ3, D3, at3, am3, bd3, nf3, ff3, nm3, e, fs3, y1, v3, o3, r3, ⟨y2, y3, y3b⟩, y4, y5⟩ := HE σ2 D2 at2 cd2 0 0 bd2 nf2 (-1) _ nm2 (nIn f pp ee is2 (([], [], none) : nSt)) v2 o2 (by omega) N2
  have y1' : oF κ T m 135 [va_rf (some (A 0)), .int 0] σ2 = some (some (va_rf (some e)), σ3) := y1
  have pe : opf σ3 (some (A 0)) 9 10 (va_rf (some e)) = some (oput σ3 (A 0) (.inr (9, cPs A (nI q1) (nI n2) (.ref e) at3 cd2 0 am3 bd3 nf3 ff3))) := opf_at v3.2.1 (show 10 < 18 by decide)
  rw [y1', orn_at, pe, obn_at]
  obtain ⟨v4, r4⟩ := v3.pu (nq2 := nI q1) (ni2 := nI n2) (rt2 := .ref e)
  have z4 : (oput σ3 (A 0) (.inr (9, cPs A (nI q1) (nI n2) (.ref e) at3 cd2 0 am3 bd3 nf3 ff3))).2 = σ3.2 := rfl
  have k4 : ∀ a, a ≠ A 0 → (oput σ3 (A 0) (.inr (9, cPs A (nI q1) (nI n2) (.ref e) at3 cd2 0 am3 bd3 nf3 ff3))).1 a = σ3.1 a := fun a ha => oput_ne ha
  generalize oput σ3 (A 0) (.inr (9, cPs A (nI q1) (nI n2) (.ref e) at3 cd2 0 am3 bd3 nf3 ff3)) = σ4 at v4 r4 z4 k4 ⊢
  have hcn : kk cnt = 0 := h.1.2.2.2.2.2.1
  -- the end
  have FIN : ∀ (σ5 : oSt) (bd5 : Int32), cV κ sz len cnt kk pp ee f A (nI q1) (nI n2) (.ref e) σ5 D3 at3 cd2 0 am3 bd5 nf3 ff3 → (∀ a, a ≠ A 0 → σ5.1 a = σ4.1 a) → σ5.2 = σ4.2 → cO pp cnt at3 bd5 (aPr kk T cnt).st → ∃ σ' D' at2 am2 bd2 nf2 ff2 nm' q' n' cd' e fb' fr' fz' fn', (some (none, σ5) : oRs) = some (none, σ') ∧ cV κ sz len cnt kk pp ee f A (nI q') (nI n') (.ref e) σ' D' at2 cd' 0 am2 bd2 nf2 ff2 ∧ cO pp cnt at2 bd2 (aPr kk T cnt).st ∧ (σ.2.1 ≤ σ'.2.1 ∧ (∀ a, a < σ.2.1 → ¬ cMu A D a → a ≠ A 10 → a ≠ A 11 → a ≠ A 12 → a ≠ A 13 → σ'.1 a = σ.1 a) ∧ (D'.1.1 = D.1.1 ∨ σ.2.1 ≤ D'.1.1) ∧ (D'.1.2.1 = D.1.2.1 ∨ σ.2.1 ≤ D'.1.2.1)) ∧ cRw A σ' fb' fr' fz' fn' ∧ (8 * σ'.2.2.1 + svG (aPr kk T cnt) ≤ 8 * σ.2.2.1 + 432 + 240 * cnt ∧ σ'.2.2.2 + svG (aPr kk T cnt) + 4 * D.1.2.2.1 + 4 * D.1.2.2.2.1 ≤ σ.2.2.2 + 482 + 240 * cnt + 4 * D'.1.2.2.1 + 4 * D'.1.2.2.2.1) ∧ (∀ qs is t j, aPr kk T cnt = .inr ((qs, is, t), j) → (q' = qs.length ∧ n' = is.length ∧ cd' = is.length ∧ j = cnt) ∧ (∀ k x, qs[k]? = some x → fb' k = bCd x.1 ∧ fr' k = rCd x.2.1 ∧ fz' k = zSr x.2.2 ∧ fn' k = zNu T f pp ee x.2.2.2.2) ∧ cIs A D' σ.2.1 σ' nm' is 0 ∧ cTr κ T kk pp ee f A D' σ.2.1 σ' nm' t (nIn f pp ee is (([], [], none) : nSt)).1 0 (fun _ => none) 0 e ∧ cQn pp ee f σ' D' nm' (nT f pp ee t (nIn f pp ee is (([], [], none) : nSt))) cd' nf2 j ∧ ff2 = fE f pp ee t (nIn f pp ee is (([], [], none) : nSt)).1 0 (-1) ∧ D'.1.2.2.2.2.2 = nF t) := fun σ5 bd5 v5 k5 z5 o5 => by
    have R35 : cFr A σ3 D3 σ5 D3 := ⟨by rw [z5, z4]; exact Nat.le_refl _, fun a _ hm => by rw [k5 a (fun z => hm (Or.inl z)), k4 a (fun z => hm (Or.inl z))], Or.inl rfl, Or.inl rfl⟩
    have R15 : cFr A σ1 D σ5 D3 := (r2.tr r3).tr R35
    have RR : cRw A σ5 fb1 fr1 fz1 fn1 := by
      obtain ⟨⟨w1, w2, w3, w4⟩, w5⟩ := R1
      have nmu : ∀ k g, σ1.1 (A k) = some (.inl (.int, 6, .inl g)) → ¬ cMu A D (A k) := fun k g hg hm => by
        obtain ⟨⟨-, -, c1, ⟨⟨mc, d1⟩, ⟨mc', d2⟩, -⟩, -⟩, h0, -⟩ := v1
        unfold cMu at hm
        rcases hm with z | z | z | z | z | z
        · rw [z, h0] at hg; cases hg
        · rw [z, c1] at hg; cases hg
        · rw [z, d1.1] at hg; cases hg
        · rw [z, d2.1] at hg; cases hg
        · rcases d1.2.1 with ⟨-, -, -, w⟩ | ⟨w, -⟩
          · rw [z, w] at hg; cases hg
          · rw [z, w] at hg; cases hg
        · rcases d2.2.1 with ⟨-, -, -, w⟩ | ⟨w, -⟩
          · rw [z, w] at hg; cases hg
          · rw [z, w] at hg; cases hg
      exact ⟨⟨(R15.2.1 _ (alt v1.1.1.1 w1) (nmu 10 _ w1)).trans w1, (R15.2.1 _ (alt v1.1.1.1 w2) (nmu 11 _ w2)).trans w2, (R15.2.1 _ (alt v1.1.1.1 w3) (nmu 12 _ w3)).trans w3, (R15.2.1 _ (alt v1.1.1.1 w4) (nmu 13 _ w4)).trans w4⟩, w5⟩
    refine ⟨σ5, D3, at3, am3, bd5, nf3, ff3, nm3, q1, n2, cd2, e, fb1, fr1, fz1, fn1, rfl, v5, o5, ⟨?_, fun a ha hm h10 h11 h12 h13 => ?_, ?_, ?_⟩, RR, ⟨?_, ?_⟩, fun qs is t j hP => ?_⟩
    · have := R15.1; omega
    · rw [R15.2.1 a (by omega) hm, k1 a (fun z => hm (Or.inl z)) h10 h11 h12 h13]
    · have := R15.2.2.1; rw [l1] at this; exact this
    · have := R15.2.2.2; rw [l1] at this; exact this
    · have S : svG (aPr kk T cnt) ≤ svA (aTo (aTo (.inr 0) (aQc kk 6)) (aNc kk 6)) (aE kk T 31) + 240 * at2 := by
        cases hP : aPr kk T cnt with
        | inl k => exact Nat.zero_le _
        | inr p =>
          obtain ⟨⟨qs, is, t⟩, j⟩ := p
          rw [aPr_c] at hP
          obtain ⟨qs', i1, h1, hP⟩ := on_inr hP
          obtain ⟨is', i2, h2, hP⟩ := on_inr hP
          obtain ⟨t', i3, h3, hP⟩ := on_inr hP
          split at hP
          · injection hP with hP
            injection hP with hP1 hP2
            injection hP1 with hQ hP1
            injection hP1 with hI hT'
            subst hT'
            have o2' := o2
            rw [aTo_eq (aTo_eq (s := .inr 0) rfl h1) h2] at o2'
            have o3' : at2 = i2 := o2'.2.1
            have w7 := aQc_7 _ _ _ _ h1
            have w5 := aNc_5 _ _ _ _ h2
            rw [svA_eq (aTo_eq (aTo_eq (s := .inr 0) rfl h1) h2) h3, ← hQ, ← hI]
            show sv t' + (1680 * qs'.length + 1200 * is'.length) ≤ sv t' + 240 * at2
            omega
          · cases hP
      have t4 := y4.2.1
      have w1 : σ5.2.2.1 = σ3.2.2.1 := by rw [z5, z4]
      have w2 := fl_le (aTo (aTo (aTo (.inr 0) (aQc kk 6)) (aNc kk 6)) (aE kk T 31))
      have w3 := v3.2.2.1
      rw [c1] at b2
      omega
    · have S : svG (aPr kk T cnt) ≤ svA (aTo (aTo (.inr 0) (aQc kk 6)) (aNc kk 6)) (aE kk T 31) + 240 * at2 := by
        cases hP : aPr kk T cnt with
        | inl k => exact Nat.zero_le _
        | inr p =>
          obtain ⟨⟨qs, is, t⟩, j⟩ := p
          rw [aPr_c] at hP
          obtain ⟨qs', i1, h1, hP⟩ := on_inr hP
          obtain ⟨is', i2, h2, hP⟩ := on_inr hP
          obtain ⟨t', i3, h3, hP⟩ := on_inr hP
          split at hP
          · injection hP with hP
            injection hP with hP1 hP2
            injection hP1 with hQ hP1
            injection hP1 with hI hT'
            subst hT'
            have o2' := o2
            rw [aTo_eq (aTo_eq (s := .inr 0) rfl h1) h2] at o2'
            have o3' : at2 = i2 := o2'.2.1
            have w7 := aQc_7 _ _ _ _ h1
            have w5 := aNc_5 _ _ _ _ h2
            rw [svA_eq (aTo_eq (aTo_eq (s := .inr 0) rfl h1) h2) h3, ← hQ, ← hI]
            show sv t' + (1680 * qs'.length + 1200 * is'.length) ≤ sv t' + 240 * at2
            omega
          · cases hP
      have t4 := y4.2.2
      have w1 : σ5.2.2.2 = σ3.2.2.2 := by rw [z5, z4]
      have w2 := fl_le (aTo (aTo (aTo (.inr 0) (aQc kk 6)) (aNc kk 6)) (aE kk T 31))
      have w3 := v3.2.2.1
      rw [c1] at b3
      omega
    · rw [aPr_c] at hP
      obtain ⟨qs', i1, h1, hP⟩ := on_inr hP
      obtain ⟨is', i2, h2, hP⟩ := on_inr hP
      obtain ⟨t', i3, h3, hP⟩ := on_inr hP
      split at hP
      · rename_i hj
        injection hP with hP
        injection hP with hP1 hP2
        injection hP1 with hQ hP1
        injection hP1 with hI hT'
        subst hQ
        subst hI
        subst hT'
        subst hP2
        have S1 := aTo_eq (s := .inr 0) rfl h1
        have S2 := aTo_eq S1 h2
        obtain ⟨w1, w2⟩ := a5 0 qs' i1 rfl h1
        obtain ⟨⟨w3, w3b⟩, w4, w5, w6, w7⟩ := b9 i1 is' i2 S1 h2
        have ei := his2 i1 is' i2 S1 h2
        subst ei
        obtain ⟨t1, t2, t3, t4, t5, t6⟩ := y5 i2 t' i3 S2 h3
        have D2f : D2.1.2.2.2.2.2 = 0 := by rw [b5, hD]
        have K25 : cKp κ A D2 σ1.2.1 σ2 D3 σ1.2.1 σ5 := cKp.fr v2 (r3.tr R35) (Nat.le_refl _) v5.low
        have K35 : cKp κ A D3 σ2.2.1 σ3 D3 σ.2.1 σ5 := cKp.fr v3 R35 (by have := r2.1; omega) v5.low
        refine ⟨⟨by rw [w1]; omega, by rw [w3]; omega, by rw [w3b]; omega, hj⟩, fun k x hk => ?_, ?_, ?_, ?_, t4, by rw [t5, D2f]; omega⟩
        · have := w2 k x hk
          rw [Nat.zero_add] at this
          exact this
        · have := cIs.kp (nm := nm2) (nm' := nm3) K25 is' 0 (fun x hx => t3 x.1 (w7 x hx).2) w6
          rw [l1] at this
          exact this
        · rw [D2f] at t1
          exact cTr.kp K35 (P := fun _ => True) (fun _ _ => rfl) _ _ _ _ _ _ (fun _ _ => trivial) (fun _ _ => trivial) (fun _ _ => rfl) t1
        · exact ⟨t2.1.gn (v3.ty R35), t2.2⟩
      · cases hP
  have PST : (aPr kk T cnt).st = match aTo (aTo (aTo (.inr 0) (aQc kk 6)) (aNc kk 6)) (aE kk T 31) with | .inl j => .inl j | .inr j => if j = cnt then .inr j else .inl j := by
    rw [aPr_c]
    rw [aTo_ok]
    cases aQc kk 6 0 with
    | inl k => rfl
    | inr p =>
      obtain ⟨qs, i1⟩ := p
      simp only [aR.on, aR.st, aTo]
      cases aNc kk 6 i1 with
      | inl k => rfl
      | inr p =>
        obtain ⟨is, i2⟩ := p
        simp only
        cases aE kk T 31 i2 with
        | inl k => rfl
        | inr p =>
          obtain ⟨t, i3⟩ := p
          simp only
          by_cases c : i3 = cnt
          · rw [if_pos c, if_pos c]
          · rw [if_neg c, if_neg c]
  have FL : cO pp cnt at3 bd3 (.inr at3) → ¬ kk at3 = 0 → (aPr kk T cnt).st = .inl at3 → ∃ σ' D' at2 am2 bd2 nf2 ff2 nm' q' n' cd' e fb' fr' fz' fn', (obn (oob σ4 (some (A 0)) 9) fun a8 => oin (oF κ T m 104 [va_rf (some (A 0))] σ4) fun r12 s10 => if r12 = 0 then some (none, s10) else obn (oob s10 (some (A 0)) 9) fun a14 => ocv (oF κ T m 107 [va_rf (some (A 0))] s10) fun s16 => some (none, s16)) = some (none, σ') ∧ cV κ sz len cnt kk pp ee f A (nI q') (nI n') (.ref e) σ' D' at2 cd' 0 am2 bd2 nf2 ff2 ∧ cO pp cnt at2 bd2 (aPr kk T cnt).st ∧ (σ.2.1 ≤ σ'.2.1 ∧ (∀ a, a < σ.2.1 → ¬ cMu A D a → a ≠ A 10 → a ≠ A 11 → a ≠ A 12 → a ≠ A 13 → σ'.1 a = σ.1 a) ∧ (D'.1.1 = D.1.1 ∨ σ.2.1 ≤ D'.1.1) ∧ (D'.1.2.1 = D.1.2.1 ∨ σ.2.1 ≤ D'.1.2.1)) ∧ cRw A σ' fb' fr' fz' fn' ∧ (8 * σ'.2.2.1 + svG (aPr kk T cnt) ≤ 8 * σ.2.2.1 + 432 + 240 * cnt ∧ σ'.2.2.2 + svG (aPr kk T cnt) + 4 * D.1.2.2.1 + 4 * D.1.2.2.2.1 ≤ σ.2.2.2 + 482 + 240 * cnt + 4 * D'.1.2.2.1 + 4 * D'.1.2.2.2.1) ∧ (∀ qs is t j, aPr kk T cnt = .inr ((qs, is, t), j) → (q' = qs.length ∧ n' = is.length ∧ cd' = is.length ∧ j = cnt) ∧ (∀ k x, qs[k]? = some x → fb' k = bCd x.1 ∧ fr' k = rCd x.2.1 ∧ fz' k = zSr x.2.2 ∧ fn' k = zNu T f pp ee x.2.2.2.2) ∧ cIs A D' σ.2.1 σ' nm' is 0 ∧ cTr κ T kk pp ee f A D' σ.2.1 σ' nm' t (nIn f pp ee is (([], [], none) : nSt)).1 0 (fun _ => none) 0 e ∧ cQn pp ee f σ' D' nm' (nT f pp ee t (nIn f pp ee is (([], [], none) : nSt))) cd' nf2 j ∧ ff2 = fE f pp ee t (nIn f pp ee is (([], [], none) : nSt)).1 0 (-1) ∧ D'.1.2.2.2.2.2 = nF t) := fun ho hk hP => by
    obtain ⟨σ5, bd5, f1, v5, o5, r5, z5, k5⟩ := c_fail (κ := κ) (T := T) (n := m) v4 ho (by omega)
    rw [oob_at v4.2.1, obn_at, c_kind (n := m) v4 ho (by omega), oin_at, if_neg (show ¬ cK kk (.inr at3) = 0 from hk), oob_at v4.2.1, obn_at, f1, ocv_at]
    exact FIN σ5 bd5 v5 k5 z5 (by rw [hP]; exact o5)
  rcases o3 with o3 | ⟨w1, w2, w3, w4⟩
  · cases eS : aTo (aTo (aTo (.inr 0) (aQc kk 6)) (aNc kk 6)) (aE kk T 31) with
    | inl j =>
      rw [eS] at o3 PST
      rw [oob_at v4.2.1, obn_at, c_kind (n := m) v4 o3 (by omega), oin_at, if_pos (show cK kk (.inl j) = 0 from rfl)]
      exact FIN σ4 bd3 v4 (fun _ _ => rfl) rfl (by rw [PST]; exact o3)
    | inr j =>
      rw [eS] at o3 PST
      have hat := o3.2.1
      subst hat
      by_cases cj : at3 = cnt
      · rw [oob_at v4.2.1, obn_at, c_kind (n := m) v4 o3 (by omega), oin_at, if_pos (show cK kk (.inr at3) = 0 from by rw [cj]; exact hcn)]
        exact FIN σ4 bd3 v4 (fun _ _ => rfl) rfl (by rw [PST]; simp only [if_pos cj]; exact o3)
      · exact FL o3 (hnz at3 (by have := o3.2.2; omega)) (by rw [PST]; simp only [if_neg cj])
  · have hlt := aAr_lt v3 w3 w4
    exact FL ⟨w2, rfl, w3⟩ (hnz at3 hlt) (by rw [PST, w1])
end CRQ
