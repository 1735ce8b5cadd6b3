/-! ROOM: every call keeps the potential; the script -/
section LPS
variable {κ : oKv} {ks : Nat → Nat} {qs : List Nat} {T n n' x y sz K b0 jd o ol hl i ps pc : Nat} {dq : Nat × Nat × Nat} {Q : Option pgQt} {Kc : Int} {a : Nat → Int32} {σ u : oSt} {τ v : zSt}
/-- what OUT, draft, the list and the Octagon may come to -/
theorem lZ_bd (h : lZ κ T sz x K b0 jd o ol Kc hl dq Q σ τ) : ol ≤ 201600 ∧ dq.1 ≤ 16000 ∧ dq.2.1 ≤ 16000 ∧ dq.2.2 ≤ 3690 ∧ cnI Kc σ ∧ lob σ x = true := by
  obtain ⟨⟨h1, h2, -⟩, ⟨-, m2, -, -, -, m6, m7⟩, -, -⟩ := h
  obtain ⟨fs0, ma0, fm0, va0, ha, ca, pa, ph, ta, th, len0, W, b, cl, fa, ff, rd, wk, p', P, Tr, -, -, -, ⟨j1, j2⟩, -⟩ := m2
  obtain ⟨fs3, ta3, oa, da, nl, d, ln, mc, go, gb, gl, -, -, -, ⟨⟨-, bo'⟩, ⟨-, bc'⟩, -⟩, -, -, -, hcl⟩ := m7
  exact ⟨by omega, bo', bc', hcl, m6, h1.ob⟩
theorem tPh_le {c : Nat} (h : c ≤ 16000) : tPh c ≤ 32384 := by
  unfold tPh
  split <;> omega
/-- **one call** -/
theorem lP_step (hf : lFacts κ ks sz) (hκ : κ.2.2.1 < sz) (hT : sz + 1000000 ≤ T) (hn : 464 ≤ n') (hqs : qs.getD 88 0 ≠ qs.getD 87 0) (H : ∀ q0 σ τ, pgB κ T sz x q0 σ τ → pR6 T q0) (hK : K ≤ 9001 * i) (hi : i < 512) (hKc : Kc = (sz : Int) + 123) (hhl : hl ≤ 664200) (h : lZ κ T sz x K b0 jd o ol Kc hl dq Q σ τ) (hq : lPq T Q τ ps pc) (hp : lPo i hl ol dq σ τ ps pc) (k : Nat) : ∃ u v K' ol' hl' dq' Q' ps' pc', lst (oF κ T (n + 1323)) (zF y qs ks T (n' + 1311)) x y a σ τ k = some (u, v) ∧ K' ≤ 9001 * (i + 1) ∧ hl' ≤ 664200 ∧ lZ κ T sz x K' b0 jd o ol' Kc hl' dq' Q' u v ∧ lPq T Q' v ps' pc' ∧ lPo (i + 1) hl' ol' dq' u v ps' pc' := by
  obtain ⟨q1, q2, q3⟩ := hq
  obtain ⟨p1, p2⟩ := hp
  obtain ⟨o1, d1, d2, d3, cn, -⟩ := lZ_bd h
  have hZq := h.2.2.2
  have hcn : (σ.2.1 : Int) = σ.2.2.1 + Kc := cn
  -- calls other than accepted() and type() of a PROGRAM
  have STEP : (k ≠ 3 ∧ k ≠ 5) ∨ lNo x σ τ → ∃ u v K' ol' hl' dq' Q' ps' pc', lst (oF κ T (n + 1323)) (zF y qs ks T (n' + 1311)) x y a σ τ k = some (u, v) ∧ K' ≤ 9001 * (i + 1) ∧ hl' ≤ 664200 ∧ lZ κ T sz x K' b0 jd o ol' Kc hl' dq' Q' u v ∧ lPq T Q' v ps' pc' ∧ lPo (i + 1) hl' ol' dq' u v ps' pc' := fun hk => by
    obtain ⟨u, v, hl', Q', e1, e2, e3, e4, t1, t2⟩ := lZ_step (n := n) (n' := n') (y := y) (qs := qs) (a := a) hf hκ (by omega) hn (by omega) h k hk
    by_cases c2 : k = 2
    · obtain ⟨rfl, ⟨c3, c4⟩, c5⟩ := e4 c2
      have t1 := t1 c2
      have c3 : u.2.2.1 ≤ σ.2.2.1 + 76 + 30 * lLn τ := c3
      have c4 : u.2.2.2 ≤ σ.2.2.2 + 709 + 293 * lLn τ := c4
      rcases c5 with c5 | ⟨q0, c5, c6, c7⟩
      · obtain ⟨z1, hz1⟩ : ∃ p : Nat, p = 6290 := ⟨_, rfl⟩
        obtain ⟨z2, hz2⟩ : ∃ p : Nat, p = 1025 := ⟨_, rfl⟩
        refine ⟨u, v, K + 9001, ol, hl', dq, Q', z1, z2, e1, by omega, hhl, e2, ⟨by omega, by omega, fun q0 z => by rw [c5] at z; cases z⟩, by unfold lPo; constructor <;> omega⟩
      · have Zp : lZp κ T sz x b0 hl' dq q0 u v := by
          have z := e2.2.2.2
          rw [c5] at z
          exact z
        obtain ⟨s, c, r1, r2, r3⟩ := H q0 u v Zp.1
        obtain ⟨l1, l2, l3⟩ := c7
        have l1 : q0.1 = lLn τ := l1
        refine ⟨u, v, K + 9001, ol, hl', dq, Q', max 6290 s, max 1025 c, e1, by omega, hhl, e2, ⟨Nat.le_max_left _ _, Nat.le_max_left _ _, fun q z _ => ?_⟩, ?_⟩
        · rw [c5] at z
          injection z with z
          rw [← z]
          exact r1.mo (Nat.le_max_right _ _) (Nat.le_max_right _ _)
        · rw [l1] at r2 l3 r3
          unfold lPo
          constructor <;> omega
    · obtain ⟨⟨f1, f2⟩, f3⟩ := e3 c2
      have t2 := t2 c2
      have t3 : lLn v ≤ lLn τ + 20 := by
        refine Nat.le_trans t2 (Nat.add_le_add_left ?_ _)
        split <;> omega
      have Q3 : lPq T Q' v ps pc := ⟨q1, q2, fun q0 z w => q3 q0 (by rw [← f1]; exact z) (by rw [← f2]; exact w)⟩
      rcases f3 with ⟨g1, g2, g3⟩ | ⟨g1, g2, g3⟩
      · exact ⟨u, v, K + 9001, ol, hl', dq, Q', ps, pc, e1, by omega, by omega, e2, Q3, by omega, by omega⟩
      · rw [if_neg g3.2] at t2
        obtain ⟨g3, -⟩ := g3
        exact ⟨u, v, K + 9001, ol, hl', dq, Q', ps, pc, e1, by omega, by omega, e2, Q3, by omega, by omega⟩
  by_cases k3 : k = 3
  · subst k3
    revert hZq q3 h STEP
    cases Q with
    | none => exact fun h _ hZq STEP => STEP (Or.inr hZq)
    | some q0 =>
      intro h q3 Z _
      have Z : lZp κ T sz x b0 hl dq q0 σ τ := Z
      have hA : τ.1 67 = 0 → lAk κ T x (n + 1317) jd q0 σ := fun c => by
        refine lAk_of (by omega) Z.1 (lAr_of (by omega) (by omega) hκ h Z c (q3 q0 rfl c) ?_)
        omega
      obtain ⟨u, v, ol', e1, e2, e3, e4⟩ := lZ_ac (n := n) (n' := n') (y := y) (qs := qs) (ks := ks) (a := a) hκ (by omega) hqs h rfl Z hA
      have e4' : lLn v = lLn τ := by unfold lLn; rw [e4]
      rcases e3 with ⟨f1, f2, f3, f4⟩ | ⟨f1, f2, f3⟩
      · exact ⟨u, v, K + 9001, ol', hl, dq, some q0, ps, pc, e1, by omega, hhl, e2, ⟨q1, q2, fun q z w => by rw [f3, f1] at w; exact absurd w (by decide)⟩, by rw [f2, f4]; unfold lPo; constructor <;> omega⟩
      · have A := q3 q0 rfl f1
        have U : u.2.2.1 ≤ σ.2.2.1 + pc ∧ u.2.2.2 + 2 * ol ≤ σ.2.2.2 + ps + 2 * ol' := by
          revert A f3
          obtain ⟨len, cnt, j, kk, pp, ee, f, fc, xs, is, e, α, lo, p, B, V, D, at2, cd', am2, nm, e0, fb, fr, fz, fn, g, ρ, lv, N, S, Pq, A, x0, g', ρ'⟩ := q0
          intro f3 A
          obtain ⟨A0, g1, g2⟩ := f3
          exact A A0 g1 σ u ol ol' g2
        obtain ⟨z1, hz1⟩ : ∃ p : Nat, p = 6290 := ⟨_, rfl⟩
        obtain ⟨z2, hz2⟩ : ∃ p : Nat, p = 1025 := ⟨_, rfl⟩
        exact ⟨u, v, K + 9001, ol', hl, dq, some q0, z1, z2, e1, by omega, hhl, e2, ⟨by omega, by omega, fun q z w => by rw [f2] at w; exact absurd w (by decide)⟩, by unfold lPo; constructor <;> omega⟩
  by_cases k5 : k = 5
  · subst k5
    revert hZq q3 h STEP
    cases Q with
    | none => exact fun h _ hZq STEP => STEP (Or.inr hZq)
    | some q0 =>
      intro h q3 Z _
      have Z : lZp κ T sz x b0 hl dq q0 σ τ := Z
      obtain ⟨u, v, dq', e1, e2, ⟨f1, f2⟩, e3, e4⟩ := lZ_ty (n := n) (n' := n') (y := y) (qs := qs) (ks := ks) (a := a) hf hκ (by omega) h rfl Z
      have e4' : lLn v = lLn τ := by unfold lLn; rw [f2]
      exact ⟨u, v, K + 9001, ol, hl, dq', some q0, ps, pc, e1, by omega, hhl, e2, ⟨q1, q2, fun q z w => q3 q z (by rw [← f1]; exact w)⟩, by unfold lPo; constructor <;> omega⟩
  · exact STEP (Or.inl ⟨k3, k5⟩)
/-- **a script, call by call** -/
theorem lP_run {xs : Nat → Int32} {L : Nat} (hf : lFacts κ ks sz) (hκ : κ.2.2.1 < sz) (hT : sz + 1000000 ≤ T) (hn : 464 ≤ n') (hqs : qs.getD 88 0 ≠ qs.getD 87 0) (H : ∀ q0 σ τ, pgB κ T sz x q0 σ τ → pR6 T q0) (hKc : Kc = (sz : Int) + 123) (hL : L ≤ 3072) : ∀ (m i K ol hl : Nat) (dq : Nat × Nat × Nat) (Q : Option pgQt) (ps pc : Nat) (σ : oSt) (τ : zSt), L < 6 * i + 6 * (m + 1) → i ≤ 512 → K ≤ 9001 * i → hl ≤ 664200 → lZ κ T sz x K b0 jd o ol Kc hl dq Q σ τ → lPq T Q τ ps pc → lPo i hl ol dq σ τ ps pc → ∃ σ' τ', lrun (oF κ T (n + 1323)) (zF y qs ks T (n' + 1311)) x y xs L m (6 * i) σ τ = some (σ', τ') ∧ σ'.2.2.1 ≤ 571500 ∧ σ'.2.2.2 ≤ 5039340
  | 0, i, K, ol, hl, dq, Q, ps, pc, σ, τ, hm, hi, hK, hh, hZ, hq, hp => by
    obtain ⟨o1, d1, d2, d3, -⟩ := lZ_bd hZ
    have t1 := tPh_le d1
    have t2 := tPh_le d2
    obtain ⟨p1, p2⟩ := hp
    obtain ⟨q1, q2, -⟩ := hq
    exact ⟨σ, τ, by rw [lrun, if_neg (by omega)], by omega, by omega⟩
  | m + 1, i, K, ol, hl, dq, Q, ps, pc, σ, τ, hm, hi, hK, hh, hZ, hq, hp => by
    obtain ⟨o1, d1, d2, d3, -, ob⟩ := lZ_bd hZ
    by_cases c : 6 * i + 6 ≤ L
    · obtain ⟨u, v, K', ol', hl', dq', Q', ps', pc', e1, e2, e3, e4, e5, e6⟩ := lP_step (n := n) (n' := n') (y := y) (qs := qs) (a := fun k => xs (6 * i + k)) hf hκ hT hn hqs H hK (by omega) hKc hh hZ hq hp (xs (6 * i) &&& 15).toNatClampNeg
      obtain ⟨σ', τ', h5, h6⟩ := lP_run hf hκ hT hn hqs H hKc hL m (i + 1) K' ol' hl' dq' Q' ps' pc' u v (by omega) (by omega) e2 e3 e4 e5 e6
      refine ⟨σ', τ', ?_, h6⟩
      rw [lrun, if_pos c, if_pos ob, e1]
      exact h5
    · have t1 := tPh_le d1
      have t2 := tPh_le d2
      obtain ⟨p1, p2⟩ := hp
      obtain ⟨q1, q2, -⟩ := hq
      exact ⟨σ, τ, by rw [lrun, if_neg c], by omega, by omega⟩
end LPS
/-- **the claim, given what a PROGRAM takes** -/
theorem lPure_of (H : ∀ κ T sz x q0 σ τ, 1000000 ≤ T → pgB κ T sz x q0 σ τ → pR6 T q0) : lPure := by
  intro κ ks sz xs L hL hf
  have hκ : κ.2.2.1 < sz := hf.2.1
  refine ⟨1324, 1775, oF κ (sz + 1000000) 1324, lU κ sz, by decide, by decide, oF_ok κ (sz + 1000000) 1324, lU_ok κ (sz + 1000000) 1320 sz, show 19 + 123 ≤ room_1.cells by decide, show 7590 + 2262902 ≤ room_1.slots by decide, fun qs hq nd _ => ?_⟩
  have hqs : qs.getD 88 0 ≠ qs.getD 87 0 := fun e => by
    have e8 : qs[88]? = some (qs.getD 88 0) := by rw [List.getD_eq_getElem?_getD, List.getElem?_eq_getElem (by omega), Option.getD_some]
    have e7 : qs[87]? = some (qs.getD 87 0) := by rw [List.getD_eq_getElem?_getD, List.getElem?_eq_getElem (by omega), Option.getD_some]
    rw [e] at e8
    have := nd_gt nd e8 e7
    omega
  have P0 : ∀ z1 z2 : Nat, z1 = 6290 → z2 = 1025 → lPo 0 64 0 (128, 128, 0) (lsh (lU κ sz)) zst0 z1 z2 := fun z1 z2 hz1 hz2 => by
    have z : lLn zst0 = 0 := rfl
    have e1 : (lsh (lU κ sz)).2.2.2 = 7590 := rfl
    have e2 : (lsh (lU κ sz)).2.2.1 = 19 := rfl
    have t1 : tPh 128 = 256 := rfl
    unfold lPo
    constructor
    · show _ + _ + z1 ≤ _ + _ + 2 * 64 + 2 * 0 + (tPh 128 + tPh 128 + 4 * 0)
      omega
    · show _ ≤ _ + 64 + 64 * (128 + 128 + 0)
      omega
  obtain ⟨z1, hz1⟩ : ∃ p : Nat, p = 6290 := ⟨_, rfl⟩
  obtain ⟨z2, hz2⟩ : ∃ p : Nat, p = 1025 := ⟨_, rfl⟩
  obtain ⟨σ', τ', h1, h2, h3⟩ := lP_run (κ := κ) (ks := ks) (qs := qs) (T := sz + 1000000) (n := 1) (n' := 464) (x := sz) (y := (lU κ sz).2.1) (xs := xs) (L := L) (b0 := sz + 19) (jd := sz + 5) (o := sz + 6) (Kc := (sz : Int) + 123) hf hκ (Nat.le_refl _) (by decide) hqs (fun q0 σ τ h => H κ (sz + 1000000) sz sz q0 σ τ (by omega) h) rfl hL L 0 0 0 64 (128, 128, 0) none z1 z2 (lsh (lU κ sz)) zst0 (by omega) (by omega) (by omega) (by omega) (lZ_0 κ (sz + 1000000) sz hκ) ⟨by omega, by omega, fun q0 z => by cases z⟩ (P0 z1 z2 hz1 hz2)
  refine ⟨zF (lU κ sz).2.1 qs ks (sz + 1000000) 1775, σ', τ', fun j av τ w h => zF_ok _ qs ks (sz + 1000000) 1775 j av τ w h, h1, ?_, ?_⟩
  · refine Nat.le_trans (Nat.add_le_add_right h2 123) ?_
    decide
  · refine Nat.le_trans (Nat.add_le_add_right h3 2262902) ?_
    decide
