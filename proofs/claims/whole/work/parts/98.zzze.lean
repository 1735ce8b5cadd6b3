/-! the class's parser: the loops of QUALS and INPUTS -/
/-- as the class reads them: a 7th is left to what comes behind -/
def aQc (kk : Nat → Int32) : Nat → Nat → aR (List tQ)
  | 0, i => .inr ([], i)
  | q + 1, i => if aIs kk 218 i = true then (aQl kk i).on fun x j => (aQc kk q j).on fun xs j' => .inr (x :: xs, j') else .inr ([], i)
def aNc (kk : Nat → Int32) : Nat → Nat → aR (List (Nat × Nat))
  | 0, i => .inr ([], i)
  | q + 1, i => if aIs kk 209 i = true then (aNp kk i).on fun x j => (aNc kk q j).on fun xs j' => .inr (x :: xs, j') else .inr ([], i)
/-- NAMES of INPUTS -/
def nIn (f pp ee : Nat → Int32) : List (Nat × Nat) → nSt → nSt
  | [], ν => ν
  | x :: xs, ν => nIn f pp ee xs (nCnt x.1 (nTell f pp ee x.1 ν))
section CRP
variable {κ : oKv} {sz T n m len cnt : Nat} {kk pp ee f : Nat → Int32} {A : Nat → Nat} {nq ni : Int32} {rt : Value} {σ σ' : oSt} {D D' : cDt} {at' cd q : Nat} {cn am bd nf ff : Int32} {s : Sum Nat Nat} {nm nm' : Nat → Option Nat} {ν : nSt} {lo e i : Nat} {fb fr fz fn g : Nat → Int32}
/-- any field of the parser's own -/
theorem cV.pu (h : cV κ sz len cnt kk pp ee f A nq ni rt σ D at' cd cn am bd nf ff) {nq2 ni2 : Int32} {rt2 : Value} : cV κ sz len cnt kk pp ee f A nq2 ni2 rt2 (oput σ (A 0) (.inr (9, cPs A nq2 ni2 rt2 at' cd cn am bd nf ff))) D at' cd cn am bd nf ff ∧ cFr A σ D (oput σ (A 0) (.inr (9, cPs A nq2 ni2 rt2 at' cd cn am bd nf ff))) D := by
  obtain ⟨hg, h0, h4, h5, h6, h7⟩ := h
  have hlt := alt hg.1.1 h0
  refine ⟨⟨hg.gen (fun a ha => oput_ne (fun e => hg.nk ha (e ▸ h0) (Or.inl rfl))) (fun a fs e => ⟨fs, by rw [oput_ne (fun z => by rw [z, h0] at e; cases e)]; exact e⟩) (fun a fs e => ⟨fs, by rw [oput_ne (fun z => by rw [z, h0] at e; cases e)]; exact e⟩) (fun q hq => by rw [oput_ne (show q ≠ A 0 by have : σ.2.1 ≤ q := hq; omega)]; exact hg.1.1 q hq) (fun q hq => by rw [oput_ne (fun z => by rw [← z, hg.1.2.1 q hq] at h0; cases h0)]; exact hg.1.2.1 q hq) (Nat.le_refl _), oput_eq _ _ _, h4, h5, h6, h7⟩, Nat.le_refl _, fun a _ hm => oput_ne (fun e => hm (Or.inl e)), Or.inl rfl, Or.inl rfl⟩
theorem aQl_lt {x : tQ} {i j : Nat} (h : aQl kk i = .inr (x, j)) : i < j := by
  obtain ⟨i1, i2, i3, i4, t1, t2, t3, t4, t5, t6⟩ := aQl_eq h
  have w1 := (aBs_c t1).1
  have w2 := (aMs_inr t2).2
  have w3 := (aMs_inr t3).2
  have w6 := (aMs_inr t6).2
  have w5 : i3 + 1 ≤ i4 := by
    unfold aQu at t5
    obtain ⟨_, j1, h1, t5⟩ := on_inr t5
    injection h1 with h1
    injection h1 with _ h1
    split at t5
    · split at t5
      · obtain ⟨_, j3, h3, t5⟩ := on_inr t5
        injection t5 with t5
        injection t5 with _ t5
        have := (aMs_inr h3).2
        split at h1 <;> omega
      · injection t5 with t5
        injection t5 with _ t5
        split at h1 <;> omega
    · obtain ⟨_, j3, h3, t5⟩ := on_inr t5
      injection t5 with t5
      injection t5 with _ t5
      have := (aMs_inr h3).2
      split at h1 <;> omega
  omega
set_option maxHeartbeats 1000000 in
theorem c_qlp (hm : 9 ≤ m) (hT : 2010 ≤ T) : ∀ (r q t : Nat) (σ : oSt) (at' : Nat) (bd : Int32) (s : Sum Nat Nat) (fb fr fz fn : Nat → Int32), r + q = 6 → r < t → cV κ sz len cnt kk pp ee f A (nI q) ni rt σ D at' cd cn am bd nf ff → cO pp cnt at' bd s → cRw A σ fb fr fz fn → (∀ j, q ≤ j → fz j = 0 ∧ fn j = 0) → ∃ σ' at2 bd2 q' fb' fr' fz' fn', ol_X7_readProgram_0 T (oF κ T m) κ t (some (A 0)) σ = ol_X7_readProgram_36 T (oF κ T m) κ T (some (A 0)) σ' ∧ cV κ sz len cnt kk pp ee f A (nI q') ni rt σ' D at2 cd cn am bd2 nf ff ∧ cO pp cnt at2 bd2 (aTo s (aQc kk r)) ∧ (∀ a, a ≠ A 0 → a ≠ A 10 → a ≠ A 11 → a ≠ A 12 → a ≠ A 13 → σ'.1 a = σ.1 a) ∧ σ'.2 = σ.2 ∧ at' ≤ at2 ∧ q' ≤ 6 ∧ cRw A σ' fb' fr' fz' fn' ∧ (∀ j, j < q → fb' j = fb j ∧ fr' j = fr j ∧ fz' j = fz j ∧ fn' j = fn j) ∧ (∀ i xs j, s = .inr i → aQc kk r i = .inr (xs, j) → q' = q + xs.length ∧ ∀ k x, xs[k]? = some x → fb' (q + k) = bCd x.1 ∧ fr' (q + k) = rCd x.2.1 ∧ fz' (q + k) = zSr x.2.2 ∧ fn' (q + k) = zNu T f pp ee x.2.2.2.2)
  | 0, q, t, σ, at', bd, s, fb, fr, fz, fn, h1, h2, h, ho, hR, hz => by
    obtain ⟨t', rfl⟩ : ∃ t', t = t' + 1 := ⟨t - 1, by omega⟩
    have e6 : q = 6 := by omega
    subst e6
    have f8 : ofd σ (some (A 0)) 9 8 = some (.int (nI 6)) := by rw [ofd_at h.2.1]; rfl
    unfold ol_X7_readProgram_0
    rw [f8, ovi_i, obn_at, if_pos (show (6 : Int32) ≤ nI 6 by decide)]
    refine ⟨σ, at', bd, 6, fb, fr, fz, fn, rfl, h, ?_, fun _ _ _ _ _ _ => rfl, rfl, Nat.le_refl _, Nat.le_refl _, hR, fun _ _ => ⟨rfl, rfl, rfl, rfl⟩, fun i xs j hi hx => ?_⟩
    · cases s with
      | inl j => exact ho
      | inr i => exact ho
    · unfold aQc at hx
      injection hx with hx
      injection hx with hx1 hx2
      subst hx1
      exact ⟨rfl, fun k x hk => by cases hk⟩
  | r + 1, q, t, σ, at', bd, s, fb, fr, fz, fn, h1, h2, h, ho, hR, hz => by
    obtain ⟨t', rfl⟩ : ∃ t', t = t' + 1 := ⟨t - 1, by omega⟩
    have f8 : ofd σ (some (A 0)) 9 8 = some (.int (nI q)) := by rw [ofd_at h.2.1]; rfl
    unfold ol_X7_readProgram_0
    rw [f8, ovi_i, obn_at, if_neg (show ¬ (6 : Int32) ≤ nI q from show ¬ nI 6 ≤ nI q from nI_ge (by omega) (by decide)), oob_at h.2.1, obn_at, c_kind (n := m) h ho (by omega), oin_at]
    by_cases c : cK kk s = 218
    · obtain ⟨i, hs, hk⟩ := cK_c (c := 218) c (by decide) (by decide)
      subst hs
      have hat := (ho.at rfl).1
      subst hat
      have hlt := kk_lt h ho.2.2 hk (by decide) (by decide)
      have h218 : aIs kk 218 at' = true := decide_eq_true hk
      obtain ⟨m1, hm1⟩ : ∃ m1, m = m1 + 1 := ⟨m - 1, by omega⟩
      obtain ⟨σ1, at1, bd1, fb1, fr1, fz1, fn1, b1, v1, o1, k1, z1, b2, R1, b3, b4⟩ := c_qual (κ := κ) (T := T) (m := m1) (q := q) h ho hlt hR (hz q (Nat.le_refl _)) rfl (by omega) (by omega) hT
      rw [← hm1] at b1
      have f8' : ofd σ1 (some (A 0)) 9 8 = some (.int (nI q)) := by rw [ofd_at v1.2.1]; rfl
      have pe : opf σ1 (some (A 0)) 9 8 (.int (nI q + 1)) = some (oput σ1 (A 0) (.inr (9, cPs A (nI (q + 1)) ni rt at1 cd cn am bd1 nf ff))) := by
        rw [opf_at v1.2.1 (show 8 < 18 by decide), show nI q + 1 = nI (q + 1) by rw [nI_1]]; rfl
      rw [if_pos c, oob_at h.2.1, obn_at, b1, ocv_at, f8', ovi_i, obn_at, pe, obn_at]
      obtain ⟨v2, r2⟩ := v1.pu (nq2 := nI (q + 1)) (ni2 := ni) (rt2 := rt)
      have k2 : ∀ a, a ≠ A 0 → (oput σ1 (A 0) (.inr (9, cPs A (nI (q + 1)) ni rt at1 cd cn am bd1 nf ff))).1 a = σ1.1 a := fun a ha => oput_ne ha
      have z2 : (oput σ1 (A 0) (.inr (9, cPs A (nI (q + 1)) ni rt at1 cd cn am bd1 nf ff))).2 = σ1.2 := rfl
      generalize oput σ1 (A 0) (.inr (9, cPs A (nI (q + 1)) ni rt at1 cd cn am bd1 nf ff)) = σ2 at v2 r2 k2 z2 ⊢
      obtain ⟨σ3, at3, bd3, q3, fb3, fr3, fz3, fn3, d1, v3, o3, k3, z3, d2, d3, R3, d4, d5⟩ := c_qlp hm hT r (q + 1) t' σ2 at1 bd1 (aQl kk at').st fb1 fr1 fz1 fn1 (by omega) (by omega) v2 o1 (R1.k0 v1.2.1 k2) (fun j hj => by rw [(b3 j (by omega)).2.2.1, (b3 j (by omega)).2.2.2]; exact hz j (by omega))
      have eT : aTo (.inr at') (aQc kk (r + 1)) = aTo (aQl kk at').st (aQc kk r) := by
        rw [aTo_ok]
        unfold aQc
        rw [if_pos h218]
        cases aQl kk at' with
        | inl k => rfl
        | inr p =>
          obtain ⟨x, i1⟩ := p
          simp only [aR.on, aR.st, aTo]
          cases aQc kk r i1 <;> rfl
      refine ⟨σ3, at3, bd3, q3, fb3, fr3, fz3, fn3, d1, v3, by rw [eT]; exact o3, fun a h0 h10 h11 h12 h13 => by rw [k3 a h0 h10 h11 h12 h13, k2 a h0, k1 a h0 h10 h11 h12 h13], z3.trans (z2.trans z1), by omega, d3, R3, fun j hj => ?_, fun i xs j hi hx => ?_⟩
      · obtain ⟨w1, w2, w3, w4⟩ := d4 j (by omega)
        obtain ⟨y1, y2, y3, y4⟩ := b3 j (by omega)
        exact ⟨w1.trans y1, w2.trans y2, w3.trans y3, w4.trans y4⟩
      · injection hi with hi
        subst hi
        unfold aQc at hx
        rw [if_pos h218] at hx
        obtain ⟨x, i1, h5, hx⟩ := on_inr hx
        obtain ⟨ys, j1, h6, hx⟩ := on_inr hx
        injection hx with hx
        injection hx with hx1 hx2
        subst hx1
        have S1 : (aQl kk at').st = .inr i1 := by rw [h5]; rfl
        obtain ⟨u1, u2⟩ := d5 i1 ys j1 S1 h6
        refine ⟨by rw [u1, List.length_cons]; omega, fun k y hk => ?_⟩
        cases k with
        | zero =>
          injection hk with hk
          subst hk
          obtain ⟨w1, w2, w3, w4⟩ := d4 q (by omega)
          obtain ⟨y1, y2, y3, y4⟩ := b4 x i1 h5
          exact ⟨w1.trans y1, w2.trans y2, w3.trans y3, w4.trans y4⟩
        | succ k =>
          have := u2 k y hk
          rw [show q + (k + 1) = q + 1 + k by omega]
          exact this
    · rw [if_neg c]
      have na : ∀ i, s = .inr i → aQc kk (r + 1) i = .inr ([], i) := fun i hs => by
        unfold aQc
        rw [if_neg (show ¬ aIs kk 218 i = true from fun z => c (by rw [hs]; exact of_decide_eq_true z))]
      refine ⟨σ, at', bd, q, fb, fr, fz, fn, rfl, h, ?_, fun _ _ _ _ _ _ => rfl, rfl, Nat.le_refl _, by omega, hR, fun _ _ => ⟨rfl, rfl, rfl, rfl⟩, fun i xs j hi hx => ?_⟩
      · cases s with
        | inl j => exact ho
        | inr i => rw [aTo_ok, na i rfl]; exact ho
      · rw [na i hi] at hx
        injection hx with hx
        injection hx with hx1 hx2
        subst hx1
        exact ⟨rfl, fun k x hk => by cases hk⟩
/-- the objects of INPUTS -/
def cIs (A : Nat → Nat) (D : cDt) (lo : Nat) (σ : oSt) (nm : Nat → Option Nat) : List (Nat × Nat) → Nat → Prop
  | [], _ => True
  | x :: xs, k => (∃ b q, nm x.1 = some b ∧ cOk A D lo σ b ∧ σ.1 b = some (.inr (6, ((cNa q).set 3 (.int (iCd x.2))).set 1 (.int (nI k))))) ∧ cIs A D lo σ nm xs (k + 1)
theorem cIs.kp (G : cKp κ A D lo σ D' lo σ') : ∀ (xs : List (Nat × Nat)) (k : Nat), (∀ x ∈ xs, nm' x.1 = nm x.1) → cIs A D lo σ nm xs k → cIs A D' lo σ' nm' xs k
  | [], _, _, _ => trivial
  | x :: xs, k, hn, h => by
    obtain ⟨⟨b, q, h1, h2, h3⟩, h4⟩ := h
    exact ⟨⟨b, q, (hn x (List.mem_cons_self ..)).trans h1, (G.1 b h2).2, by rw [(G.1 b h2).1]; exact h3⟩, cIs.kp G xs (k + 1) (fun y hy => hn y (List.mem_cons_of_mem _ hy)) h4⟩
set_option maxHeartbeats 1000000 in
theorem c_nlp (hm : 11 ≤ m) (hT : 2010 ≤ T) (hwl : ∀ j, j < cnt → wL pp ee j ≤ 10) : ∀ (r q t : Nat) (σ : oSt) (D : cDt) (at' cd : Nat) (bd nf : Int32) (s : Sum Nat Nat) (nm : Nat → Option Nat) (ν : nSt), r + q = 6 → r < t → cV κ sz len cnt kk pp ee f A nq (nI q) rt σ D at' cd cn am bd nf ff → cO pp cnt at' bd s → cd + r < 3990 → (∀ i, s = .inr i → cQn pp ee f σ D nm ν cd nf i) → ∃ σ' D' at2 bd2 nf2 q' nm' cd', ol_X7_readProgram_36 T (oF κ T m) κ t (some (A 0)) σ = oj_X7_readProgram_72 T (oF κ T m) κ (some (A 0)) σ' ∧ cV κ sz len cnt kk pp ee f A nq (nI q') rt σ' D' at2 cd' cn am bd2 nf2 ff ∧ cO pp cnt at2 bd2 (aTo s (aNc kk r)) ∧ cFr A σ D σ' D' ∧ (σ'.2.2.1 ≤ σ.2.2.1 + 4 * r ∧ σ'.2.2.2 + 4 * D.1.2.2.1 + 4 * D.1.2.2.2.1 ≤ σ.2.2.2 + 22 * r + 4 * D'.1.2.2.1 + 4 * D'.1.2.2.2.1) ∧ (D'.2.2.2 = D.2.2.2 ∧ D'.1.2.2.2.2.2 = D.1.2.2.2.2.2 ∧ at' ≤ at2 ∧ q' ≤ 6 ∧ cd' ≤ cd + r) ∧ (∀ i xs j, s = .inr i → aNc kk r i = .inr (xs, j) → (q' = q + xs.length ∧ cd' = cd + xs.length) ∧ cQn pp ee f σ' D' nm' (nIn f pp ee xs ν) cd' nf2 j ∧ (∀ u, u < i → nm' u = nm u) ∧ cIs A D' σ.2.1 σ' nm' xs cd ∧ ∀ x ∈ xs, i < x.1 ∧ x.1 < j)
  | 0, q, t, σ, D, at', cd, bd, nf, s, nm, ν, h1, h2, h, ho, hcd, hn => by
    obtain ⟨t', rfl⟩ : ∃ t', t = t' + 1 := ⟨t - 1, by omega⟩
    have e6 : q = 6 := by omega
    subst e6
    have f9 : ofd σ (some (A 0)) 9 9 = some (.int (nI 6)) := by rw [ofd_at h.2.1]; rfl
    unfold ol_X7_readProgram_36
    rw [f9, ovi_i, obn_at, if_pos (show (6 : Int32) ≤ nI 6 by decide)]
    refine ⟨σ, D, at', bd, nf, 6, nm, cd, rfl, h, ?_, cFr.rf _ _ _, ⟨by omega, by omega⟩, ⟨rfl, rfl, Nat.le_refl _, Nat.le_refl _, by omega⟩, fun i xs j hi hx => ?_⟩
    · cases s with
      | inl j => exact ho
      | inr i => exact ho
    · unfold aNc at hx
      injection hx with hx
      injection hx with hx1 hx2
      subst hx1
      subst hx2
      exact ⟨⟨rfl, rfl⟩, hn i hi, fun _ _ => rfl, trivial, fun x hx => by cases hx⟩
  | r + 1, q, t, σ, D, at', cd, bd, nf, s, nm, ν, h1, h2, h, ho, hcd, hn => by
    obtain ⟨t', rfl⟩ : ∃ t', t = t' + 1 := ⟨t - 1, by omega⟩
    have f9 : ofd σ (some (A 0)) 9 9 = some (.int (nI q)) := by rw [ofd_at h.2.1]; rfl
    unfold ol_X7_readProgram_36
    rw [f9, ovi_i, obn_at, if_neg (show ¬ (6 : Int32) ≤ nI q from show ¬ nI 6 ≤ nI q from nI_ge (by omega) (by decide)), oob_at h.2.1, obn_at, c_kind (n := m) h ho (by omega), oin_at]
    by_cases c : cK kk s = 209
    · obtain ⟨i, hs, hk⟩ := cK_c (c := 209) c (by decide) (by decide)
      subst hs
      have hat := (ho.at rfl).1
      subst hat
      have hlt := kk_lt h ho.2.2 hk (by decide) (by decide)
      have h209 : aIs kk 209 at' = true := decide_eq_true hk
      obtain ⟨m1, hm1⟩ : ∃ m1, m = m1 + 1 := ⟨m - 1, by omega⟩
      obtain ⟨σ1, D1, at1, bd1, nf1, b, q1, base, b1, v1, o1, r1, ⟨b2, b3⟩, ⟨b4, b5⟩, ⟨b6, b7, b8⟩, b9⟩ := c_input (κ := κ) (T := T) (m := m1) h ho hlt (hn _ rfl) (by omega) (by omega) hT hwl
      rw [← hm1] at b1
      have f9' : ofd σ1 (some (A 0)) 9 9 = some (.int (nI q)) := by rw [ofd_at v1.2.1]; rfl
      have pe : opf σ1 (some (A 0)) 9 9 (.int (nI q + 1)) = some (oput σ1 (A 0) (.inr (9, cPs A nq (nI (q + 1)) rt at1 (cd + 1) cn am bd1 nf1 ff))) := by
        rw [opf_at v1.2.1 (show 9 < 18 by decide), show nI q + 1 = nI (q + 1) by rw [nI_1]]; rfl
      rw [if_pos c, oob_at h.2.1, obn_at, b1, ocv_at, f9', ovi_i, obn_at, pe, obn_at]
      obtain ⟨v2, r2⟩ := v1.pu (nq2 := nq) (ni2 := nI (q + 1)) (rt2 := rt)
      have z2 : (oput σ1 (A 0) (.inr (9, cPs A nq (nI (q + 1)) rt at1 (cd + 1) cn am bd1 nf1 ff))).2 = σ1.2 := rfl
      generalize oput σ1 (A 0) (.inr (9, cPs A nq (nI (q + 1)) rt at1 (cd + 1) cn am bd1 nf1 ff)) = σ2 at v2 r2 z2 ⊢
      have N2 : ∀ i, (aNp kk at').st = .inr i → cQn pp ee f σ2 D1 (nPut nm (at' + 1) b) (nCnt (at' + 1) (nTell f pp ee (at' + 1) ν)) (cd + 1) nf1 i := fun i hi => by
        obtain ⟨x, hx⟩ := st_inr hi
        exact (b9 x i hx).2.2.kf v1 r2
      obtain ⟨σ3, D3, at3, bd3, nf3, q3, nm3, cd3, d1, v3, o3, r3, ⟨d2, d3⟩, ⟨d4, d5, d6, d7, d8⟩, d9⟩ := c_nlp hm hT hwl r (q + 1) t' σ2 D1 at1 (cd + 1) bd1 nf1 (aNp kk at').st (nPut nm (at' + 1) b) (nCnt (at' + 1) (nTell f pp ee (at' + 1) ν)) (by omega) (by omega) v2 o1 (by omega) N2
      have eT : aTo (.inr at') (aNc kk (r + 1)) = aTo (aNp kk at').st (aNc kk r) := by
        rw [aTo_ok]
        unfold aNc
        rw [if_pos h209]
        cases aNp kk at' with
        | inl k => rfl
        | inr p =>
          obtain ⟨x, i1⟩ := p
          simp only [aR.on, aR.st, aTo]
          cases aNc kk r i1 <;> rfl
      have w1 : σ2.2.2 = σ1.2.2 := by rw [z2]
      have w0 : σ2.2.1 = σ1.2.1 := by rw [z2]
      rw [w1] at d2 d3
      refine ⟨σ3, D3, at3, bd3, nf3, q3, nm3, cd3, d1, v3, by rw [eT]; exact o3, (r1.tr r2).tr r3, ⟨by omega, by omega⟩, ⟨d4.trans b6, d5.trans b7, by omega, d7, by omega⟩, fun i xs j hi hx => ?_⟩
      injection hi with hi
      subst hi
      unfold aNc at hx
      rw [if_pos h209] at hx
      obtain ⟨x, i1, h5, hx⟩ := on_inr hx
      obtain ⟨ys, j1, h6, hx⟩ := on_inr hx
      injection hx with hx
      injection hx with hx1 hx2
      subst hx1
      subst hx2
      have S1 : (aNp kk at').st = .inr i1 := by rw [h5]; rfl
      obtain ⟨y1, y2, y3⟩ := b9 x i1 h5
      obtain ⟨⟨u1, u1b⟩, u2, u3, u4, u5⟩ := d9 i1 ys j1 S1 h6
      have i1e := (o1.at S1).1
      have j1e : i1 ≤ j1 := by
        have := (o3.at (aTo_eq S1 h6)).1
        omega
      have w2 : at' + 2 ≤ i1 := by
        have hh := h5
        unfold aNp at hh
        obtain ⟨_, p1, g1, hh⟩ := on_inr hh
        obtain ⟨_, p2, g2, hh⟩ := on_inr hh
        obtain ⟨_, p3, g3, hh⟩ := on_inr hh
        obtain ⟨_, p4, g4, hh⟩ := on_inr hh
        injection hh with hh
        injection hh with _ hh
        have := (aMs_inr g1).2
        have := (aMs_inr g2).2
        have := (aBs_c g3).1
        have := (aMs_inr g4).2
        omega
      have c3 := v2.kd r3 (v1.kd r2 b3 (by omega)) (by omega)
      refine ⟨⟨by rw [u1, List.length_cons]; omega, by rw [u1b, List.length_cons]; omega⟩, ?_, fun u hu => ?_, ⟨⟨b, q1, ?_, ⟨b2, alt v3.1.1.1 c3, cMu.no v3 c3 (by omega)⟩, ?_⟩, ?_⟩, fun y hy => ?_⟩
      · show cQn pp ee f σ3 D3 nm3 (nIn f pp ee ys (nCnt x.1 (nTell f pp ee x.1 ν))) cd3 nf3 j1
        rw [y1]; exact u2
      · rw [u3 u (by omega), nPut_lt (by omega)]
      · rw [y1, u3 (at' + 1) (by omega)]; exact nPut_eq
      · rw [← y2]; exact c3
      · exact cIs.kp (nm := nm3) (cKp.fr v3 (cFr.rf _ _ _) (Nat.le_refl _) v3.low) ys (cd + 1) (fun _ _ => rfl) (by
          have K : ∀ (xs : List (Nat × Nat)) (k : Nat), cIs A D3 σ2.2.1 σ3 nm3 xs k → cIs A D3 σ.2.1 σ3 nm3 xs k := fun xs => by
            induction xs with
            | nil => intro k _; trivial
            | cons z zs ih =>
              intro k hk
              obtain ⟨⟨b', q', g1, g2, g3⟩, g4⟩ := hk
              exact ⟨⟨b', q', g1, ⟨by have := g2.1; have := r1.1; omega, g2.2⟩, g3⟩, ih _ g4⟩
          exact K ys (cd + 1) u4)
      · rcases List.mem_cons.mp hy with z | z
        · rw [z, y1]; exact ⟨by omega, by omega⟩
        · have := u5 y z; omega
    · rw [if_neg c]
      have na : ∀ i, s = .inr i → aNc kk (r + 1) i = .inr ([], i) := fun i hs => by
        unfold aNc
        rw [if_neg (show ¬ aIs kk 209 i = true from fun z => c (by rw [hs]; exact of_decide_eq_true z))]
      refine ⟨σ, D, at', bd, nf, q, nm, cd, rfl, h, ?_, cFr.rf _ _ _, ⟨by omega, by omega⟩, ⟨rfl, rfl, Nat.le_refl _, by omega, by omega⟩, fun i xs j hi hx => ?_⟩
      · cases s with
        | inl j => exact ho
        | inr i => rw [aTo_ok, na i rfl]; exact ho
      · rw [na i hi] at hx
        injection hx with hx
        injection hx with hx1 hx2
        subst hx1
        subst hx2
        exact ⟨⟨rfl, rfl⟩, hn i hi, fun _ _ => rfl, trivial, fun x hx => by cases hx⟩
end CRP
