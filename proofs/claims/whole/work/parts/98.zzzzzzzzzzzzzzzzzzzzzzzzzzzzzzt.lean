/-! run(), the reference: of a PROGRAM -/
section TXC
variable {kk : Nat → Int32} {T cnt : Nat}
theorem aC_xr (k i : Nat) (t : tT) (j : Nat) (h : aEi kk T (aSi kk T k) i = .inr (t, j)) : xcR t := by
  refine (aC_ind (P := fun _ t _ => xcR t) (R := fun _ t _ => xcR t) ?_ ?_ ?_ ?_ ?_ ?_ ?_ ?_ k).2 i t j h
  · exact fun i c j _ h => ⟨fun z => absurd z (by decide), fun z => absurd z (by decide), h, trivial⟩
  · exact fun i c j _ h _ => h
  · exact fun i v hv => ⟨fun z => absurd z (by decide), fun _ => (by rcases hv with ⟨-, e⟩ | ⟨-, e⟩ <;> (show v ≤ 1; omega)), trivial, trivial⟩
  · exact fun i S j _ _ => ⟨fun z => absurd z (by decide), fun z => absurd z (by decide), trivial, trivial⟩
  · exact fun i S l S' j hr _ _ => ⟨fun _ => (by show aRl kk l ≤ 5; omega), fun z => absurd z (by decide), trivial, trivial⟩
  · exact fun _ => trivial
  · exact fun g i c l cs j _ _ h1 h2 => ⟨fun z => absurd z (by decide), fun z => absurd z (by decide), h1, h2⟩
  · exact fun g i c l cs j hg h1 h2 => by
      cases cs with
      | leaf => exact h1
      | inner => exact ⟨fun z => (by have z : g = 25 := z; omega), fun z => (by have z : g = 23 := z; omega), h1, h2⟩
set_option maxHeartbeats 1000000 in
theorem aE_c1 (hz : ∀ i, cnt ≤ i → kk i = 0) (hc : cnt ≤ 2000) (k i : Nat) (t : tT) (j : Nat) (h : aE kk T k i = .inr (t, j)) : i < j ∧ (j ≤ cnt → k ≤ 100 → tC1 t) := by
  refine aE_ind (P := fun k i t j => i < j ∧ (j ≤ cnt → k ≤ 100 → tC1 t)) (Q := fun k q i t j => i ≤ j ∧ (j ≤ cnt → k ≤ 100 → tC1 t) ∧ tQn t ≤ q ∧ (aAr kk i = true → t ≠ .leaf)) ?_ ?_ ?_ ?_ ?_ ?_ ?_ ?_ ?_ ?_ ?_ ?_ ?_ ?_ ?_ ?_ ?_ ?_ ?_ ?_ k i t j h
  · rintro k i a l b j - - ⟨a0, a1⟩ - ⟨b0, b1⟩
    exact ⟨by omega, fun hj hk => ⟨fun z => absurd z (by decide), a1 (by omega) (by omega), b1 hj (by omega)⟩⟩
  · rintro k i q a l b j - - - - - - ⟨a0, a1⟩ - ⟨b0, b1⟩
    exact ⟨by omega, fun hj hk => ⟨fun z => absurd z (by decide), a1 (by omega) (by omega), b1 hj (by omega)⟩⟩
  · rintro k i a j - - - ⟨a0, a1⟩
    exact ⟨by omega, fun hj hk => ⟨fun z => absurd z (by decide), a1 (by omega) (by omega), trivial⟩⟩
  · rintro k i c l a m b j - hc' - ⟨a0, a1⟩ - ⟨b0, b1⟩
    obtain ⟨e0, -, -, e3, e4⟩ := aEi_rd (aSi_rd hz (k + 1)) _ _ _ hc'
    exact ⟨by omega, fun hj hk => ⟨fun z => absurd z (by decide), ⟨aC_xr _ _ _ _ hc', by unfold kD; omega⟩, fun z => absurd z (by decide), a1 (by omega) (by omega), b1 hj (by omega)⟩⟩
  · rintro k i c l a j - hc' - ⟨a0, a1⟩
    obtain ⟨e0, -, -, e3, e4⟩ := aEi_rd (aSi_rd hz (k + 1)) _ _ _ hc'
    exact ⟨by omega, fun hj hk => ⟨fun z => absurd z (by decide), ⟨aC_xr _ _ _ _ hc', by unfold kD; omega⟩, a1 hj (by omega)⟩⟩
  · rintro k i S l S' m a j - - - hS - - hS' - ⟨a0, a1⟩
    obtain ⟨⟨-, f1⟩, -⟩ := aSm_fx hS
    obtain ⟨⟨-, g1⟩, -⟩ := aSm_fx hS'
    exact ⟨by omega, fun hj hk => ⟨fun z => absurd z (by decide), a1 hj (by omega), trivial⟩⟩
  · rintro k i S j - hS
    obtain ⟨⟨-, f1⟩, -⟩ := aSm_fx hS
    exact ⟨by omega, fun hj hk => ⟨fun z => absurd z (by decide), trivial, trivial⟩⟩
  · rintro k i g hg
    refine ⟨by omega, fun hj hk => ?_⟩
    rcases hg with ⟨-, rfl⟩ | ⟨-, rfl⟩ | ⟨-, rfl⟩
    all_goals exact ⟨fun z => absurd z (by decide), trivial, trivial⟩
  · rintro k i S j - hS
    obtain ⟨⟨-, f1⟩, -⟩ := aSm_fx hS
    exact ⟨by omega, fun hj hk => ⟨fun z => absurd z (by decide), trivial, trivial⟩⟩
  · rintro k i g S l S' j hg hS hS'
    obtain ⟨⟨-, f1⟩, -⟩ := aSm_fx hS
    obtain ⟨⟨-, g1⟩, -⟩ := aSm_fx hS'
    refine ⟨by omega, fun hj hk => ?_⟩
    rcases hg with ⟨-, rfl⟩ | ⟨-, rfl⟩ | ⟨-, rfl⟩
    all_goals exact ⟨fun z => absurd z (by decide), trivial, trivial⟩
  · rintro k i S l - - hS -
    obtain ⟨⟨-, f1⟩, -⟩ := aSm_fx hS
    exact ⟨by omega, fun hj hk => ⟨fun z => absurd z (by decide), trivial, trivial⟩⟩
  · rintro k i as j - har ⟨a0, a1, a2, a3⟩
    exact ⟨by omega, fun hj hk => ⟨fun _ => ⟨a3 har, a2⟩, a1 hj (by omega), trivial⟩⟩
  · rintro k i a l - ⟨a0, a1⟩ -
    exact ⟨by omega, fun hj hk => ⟨fun z => absurd z (by decide), a1 (by omega) (by omega), trivial⟩⟩
  · rintro k i S l - hS -
    obtain ⟨⟨-, f1⟩, -⟩ := aSm_fx hS
    exact ⟨by omega, fun hj hk => ⟨fun z => absurd z (by decide), trivial, trivial⟩⟩
  · rintro k i a l b j - - ⟨a0, a1⟩ - - - - ⟨b0, b1⟩
    exact ⟨by omega, fun hj hk => ⟨fun z => absurd z (by decide), a1 (by omega) (by omega), b1 hj (by omega)⟩⟩
  · intro k q i ha
    exact ⟨Nat.le_refl _, fun _ _ => trivial, Nat.zero_le _, fun z => by rw [ha] at z; cases z⟩
  · rintro k q i b j - - - ⟨b0, b1, b2, -⟩
    exact ⟨by omega, fun hj hk => ⟨fun z => absurd z (by decide), trivial, b1 hj hk⟩, by show tQn b + 1 ≤ _; omega, fun _ z => by cases z⟩
  · rintro k q i S l b j - - hS - ⟨b0, b1, b2, -⟩
    obtain ⟨⟨-, f1⟩, -⟩ := aSm_fx hS
    exact ⟨by omega, fun hj hk => ⟨fun z => absurd z (by decide), trivial, b1 hj hk⟩, by show tQn b + 1 ≤ _; omega, fun _ z => by cases z⟩
  · rintro k q i e l b j - - ⟨a0, a1⟩ - ⟨b0, b1, b2, -⟩
    exact ⟨by omega, fun hj hk => ⟨fun z => absurd z (by decide), a1 (by omega) hk, b1 hj hk⟩, by show tQn b + 1 ≤ _; omega, fun _ z => by cases z⟩
  · rintro k q i v b j - ⟨b0, b1, b2, -⟩
    exact ⟨by omega, fun hj hk => ⟨fun z => absurd z (by decide), trivial, b1 hj hk⟩, by show tQn b + 1 ≤ _; omega, fun _ z => by cases z⟩
end TXC
section TXR
variable {T len cnt j : Nat} {kk pp ee f fc : Nat → Int32} {xs : List tQ} {is : List (Nat × Nat)} {e : tT} {α : Nat → tY} {N S P A x0 : Nat} {g' : gG} {ρ' : Nat → tY} {τ : zSt} {ks : Nat → Nat} {qs : List Nat} {h0 m : Nat}
/-- a PROGRAM can be run -/
theorem tx_xE (hT : 2010 ≤ T) (hp : pgT T len cnt j kk pp ee f fc xs is e α) (hr : rPo T len cnt kk pp ee f xs is e N S P A x0 τ) : xmE cnt kk f pp ee (fun u => (mEnd f pp ee is e).2.2.2.1 u α) (fun u => (mEnd f pp ee is e).2.2.1 u α) (τ.2.2.1 32) (is.map Prod.fst ++ tW e) e (is.map Prod.fst) ((mE f pp ee e (is.map Prod.fst) (mIn is mI0)).2 α) := by
  obtain ⟨⟨kn, -, -, -, -, f3, r1⟩, -, -, -, nd, ok⟩ := tx_1 hT hp hr
  have nu := tx_rn hT hp hr
  obtain ⟨⟨p1, p1', p1''⟩, p2, p3, p4, ⟨p5, p5'⟩, ⟨⟨g1, g2, ⟨i0, g3⟩, ⟨g4, g4', g4''⟩, g5, g6, g7⟩, p6', p6'', p6'''⟩, p7, p8, p9, p10, p11, p12⟩ := hp
  obtain ⟨-, j', q3⟩ := aPr_d p2
  have c1 := (aE_c1 p8 (by omega) _ _ _ _ q3).2 (Nat.le_refl _) (by omega)
  obtain ⟨n1, n2, n3⟩ := List.nodup_append.mp nd
  exact ⟨⟨ok, hr.2.2.2.2.2.2.1⟩, ⟨g2, f3, r1, p6', kn, g4, g4', c1⟩, ⟨n1, n2, fun u hu z => n3 u z u hu rfl⟩, fun u hu => nu.2.2 u (List.mem_append_left _ hu), p6'''⟩
/-- **run(), the reference, of a PROGRAM** -/
theorem pg_run (hT : 240010 ≤ T) (hp : pgT T len cnt j kk pp ee f fc xs is e α) (hR : pgR T len cnt kk pp ee f xs is e α N S P A x0 g' ρ' τ) {n0 : Nat} (hn0 : n0 ≤ 20000) (hg : ∀ i y, is[i]? = some y → y.2 = 2 → (0 ≤ (τ.2.2.2 103 i).toInt ∧ (τ.2.2.2 103 i).toInt ≤ 1000) ∧ ∀ k : Nat, (k : Int) < (τ.2.2.2 103 i).toInt → xmB (τ.2.2.2 104 (1000 * i + k)) = true) (hb : ∀ i y, is[i]? = some y → y.2 = 0 → xmB (τ.2.2.2 103 i) = true) : ∃ τ', (∀ r, xmGo T f pp ee 80001 (xm0 (τ.2.2.2 103) (τ.2.2.2 104) is e n0) = .inl r → zF h0 qs ks T (m + 1311) 138 [.ref h0, .int (nI n0)] τ = some (some (.int (nI r.1)), τ') ∧ xFm τ τ' ∧ τ'.1 165 = nI n0 - nI r.2 ∧ τ'.1 163 = 0 ∧ 1 ≤ r.1 ∧ r.1 ≤ 6) ∧ ∀ r, xmGo T f pp ee 80001 (xm0 (τ.2.2.2 103) (τ.2.2.2 104) is e n0) = .inr r → zF h0 qs ks T (m + 1311) 138 [.ref h0, .int (nI n0)] τ = some (some (.int 0), τ') ∧ xFm τ τ' ∧ τ'.1 165 = nI n0 - nI r.2.1 ∧ τ'.1 163 = 1 ∧ τ'.2.1 166 = xmOut r.1 r.2.2 := by
  have w := tx_xE (by omega) hp hR.2.1
  have nu := tx_rn (by omega) hp hR.2.1
  obtain ⟨h66, hr, -⟩ := hR
  have hin : ∀ (i : Nat) (y : Nat × Nat), is[i]? = some y → (mEnd f pp ee is e).2.2.1 y.1 α = mB y.2 α := fun i y hy => congrFun (in_ty hp.2.2.2.2.2.1.1.2.2.2.2.2.1 hy) α
  obtain ⟨⟨p1, p1', p1''⟩, p2, p3, p4, ⟨p5, p5'⟩, ⟨⟨⟨g0, g1⟩, g2, ⟨i0, g3⟩, ⟨g4, g4', g4''⟩, g5, g6, g7⟩, p6', p6'', p6'''⟩, p7, p8, p9, p10, p11, p12⟩ := hp
  obtain ⟨r1, ⟨-, r42, r43, -, -⟩, -, r28, ⟨rN, rS, rP, rA⟩, tr, -, rix, -⟩ := hr
  have h2 : ∀ (i : Nat) (y : Nat × Nat), is[i]? = some y → y.2 ≤ 2 := fun i y hy => (g1 y (List.mem_of_getElem? hy)).2
  refine r_run (L := is.map Prod.fst ++ tW e) ⟨r1, ⟨by omega, by omega⟩, ⟨by have := nu.1; omega, nu.2.1⟩, by omega⟩ (by omega) (by omega) hn0 hT h66 g0 r42 (fun i y hy => ⟨(r28 i y hy).2, h2 i y hy⟩) (fun i y hy => ⟨h2 i y hy, ?_⟩) hg hb rix w p6'' r43 (rTr_lt g2 tr) tr
  rw [hin i y hy]
  have := h2 i y hy
  rcases (show y.2 = 0 ∨ y.2 = 1 ∨ y.2 = 2 by omega) with q | q | q <;> (rw [q]; rfl)
end TXR
