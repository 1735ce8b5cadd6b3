/-! type(): run() and INPUTS; what type() refuses -/
section TYG
variable {κ : oKv} {ks : Nat → Nat} {qs : List Nat} {T n n' x y lo hi hl : Nat} {a : Nat → Int32} {σ u : oSt} {τ v : zSt} {Q : Nat → Prop} {q0 : pgQt} {fs pf : List Value} {p tl cnt : Nat} {gt : Nat → Option Nat}
/-- the INPUTS' rows over run() -/
theorem tyG.rn (hM : hMq x lo hi hl σ) (hfr : ∀ q, σ.2.1 ≤ q → σ.1 q = none) (h : hKr x σ u) (M : ∃ ma va ra fm fv gr, lMv x u ma va ra fm fv gr) (G : tyG x Q σ) : tyG x Q u := by
  have ux := (h.xx hfr ⟨_, _, _, hM⟩).1
  obtain ⟨fs, ma, gm, ha, wn, ws, wa, ha2, ⟨a1, a2⟩, ⟨a3, a5, w1, w2, w3⟩, K, gm', u1, u2, u3⟩ := h
  obtain ⟨fs', ma', fm', va', hh, hp, wn', ws', wa', WN, WS, WA, ⟨b1, b2⟩, ⟨b3, -, -⟩, ⟨b6, b7, -⟩, ⟨⟨v1, v2, v3⟩, ⟨q1, q2, q3⟩, -⟩, -⟩ := hM
  rw [a1] at b1
  injection b1 with b1; injection b1 with b1; injection b1 with _ b1
  subst b1
  rw [a2] at b2
  injection b2 with b2; injection b2 with b2
  subst b2
  rw [a3] at b3
  injection b3 with b3; injection b3 with b3; injection b3 with _ b3
  subst b3
  rw [w1] at v1
  injection v1 with v1; injection v1 with v1
  subst v1
  rw [w2] at v2
  injection v2 with v2; injection v2 with v2
  subst v2
  rw [w3] at v3
  injection v3 with v3; injection v3 with v3
  subst v3
  rw [a5] at b6
  injection b6 with b6; injection b6 with b6
  subst b6
  obtain ⟨ma1, va1, ra1, fm1, fv1, gr1, ⟨⟨f1, c1, c2⟩, ⟨c3, c4, c5, c6⟩, c7, c8, c9, c10⟩, g2⟩ := G
  obtain ⟨ma2, va2, ra2, fm2, fv2, gr2, M⟩ := M
  obtain ⟨⟨f2, d1, d2⟩, ⟨d3, d4, d5, d6⟩, d7, d8, d9, d10⟩ := id M
  rw [a1] at c1
  injection c1 with c1; injection c1 with c1; injection c1 with _ c1
  subst c1
  rw [a2] at c2
  injection c2 with c2; injection c2 with c2
  subst c2
  rw [a3] at c3
  injection c3 with c3; injection c3 with c3; injection c3 with _ c3
  subst c3
  rw [ux, a1] at d1
  injection d1 with d1; injection d1 with d1; injection d1 with _ d1
  subst d1
  rw [a2] at d2
  injection d2 with d2; injection d2 with d2
  subst d2
  rw [u1] at d3
  injection d3 with d3; injection d3 with d3; injection d3 with _ d3
  subst d3
  rw [u3 3 (by omega), c6] at d6
  injection d6 with d6; injection d6 with d6
  subst d6
  rw [K.1 ra1 (Nat.lt_of_not_le (fun w => by rw [hfr ra1 w] at c8; cases c8)) (fun z => by rw [z, a3] at c8; cases c8) (fun z => by rw [z, b7] at c8; cases c8) (fun z => by
    rcases z with z | z | z
    · rw [z, q1] at c8; cases c8
    · rw [z, q2] at c8; cases c8
    · rw [z, q3] at c8; cases c8), c8] at d8
  injection d8 with d8; injection d8 with d8; injection d8 with _ d8; injection d8 with _ d8; injection d8 with d8; injection d8 with d8; injection d8 with d8; injection d8 with d8
  subst d8
  exact ⟨_, _, _, _, _, _, M, g2⟩
theorem lTy.rn (hM : hMq x (pgLo q0) hi hl σ) (hfr : ∀ q, σ.2.1 ≤ q → σ.1 q = none) (h : hKr x σ u) (M : ∃ ma va ra fm fv gr, lMv x u ma va ra fm fv gr) (hx : xFm τ v) (t : lTy x q0 σ τ) : lTy x q0 u v := t.to (fun Q _ G => ⟨tyA.rn hM hfr h, G.rn hM hfr h M⟩) ⟨fun k _ h2 => hx.1 k (by omega), hx.2.2.2 54 (by decide), hx.2.2.2 59 (by decide)⟩ (by
    obtain ⟨_, _, _, _, _, _, _, _, _, _, K, _⟩ := h
    exact K.2.2.1)
theorem lTy.gi {sz : Nat} (hfr : ∀ q, σ.2.1 ≤ q → σ.1 q = none) (h : lGo κ T sz x q0 σ τ u v) (hn : σ.2.1 ≤ u.2.1) (t : lTy x q0 σ τ) : lTy x q0 u v := by
  obtain ⟨-, -, -, ⟨g4, g5, g6, g6'⟩, g7, g8, -, g10⟩ := h
  exact t.to (fun Q hq G => ⟨tyA.gi G hfr g7 g8, tyG.gi G (fun y hy => (hq y hy).2) g10⟩) ⟨fun k _ _ => by rw [g6], g6' 54 (by decide) (by decide), g6' 59 (by decide) (by decide)⟩ hn
/-- type() before accepted() -/
theorem ty_67 (hx : σ.1 x = some (.inr (14, fs))) (f2 : fs[2]? = some (.ref p)) (f4 : fs[4]? = some .null) (h67 : τ.1 67 = 0) : lst (oF κ T (n + 1)) (zF y qs ks T (n' + 1)) x y a σ τ 5 = some (σ, τ) := by
  have e2 : ovr (ofd σ (some x) 14 2) = some (some p) := by rw [ofd_at hx, f2]; rfl
  have e4 : ovr (ofd σ (some x) 14 4) = some none := by rw [ofd_at hx, f4]; rfl
  refine lcpI_ok (r := -1) ?_ ?_
  · show oF κ T (n + 1) 189 [va_rf (some x), .int (a 1)] σ = _
    rw [oE_X12_type]
    unfold ob_X12_type
    rw [e2, obn_at, if_neg (fun z => by cases z), e4, obn_at, if_pos rfl]
  · rw [zE_type]
    unfold b_type
    by_cases c : τ.1 66 = 0
    · rw [if_pos c]
    · rw [if_neg c, if_pos h67]
/-- type() of no NAME -/
theorem ty_no (hx : σ.1 x = some (.inr (14, fs))) (f2 : fs[2]? = some (.ref p)) {c : Nat} (f4 : fs[4]? = some (.ref c)) (h66 : τ.1 66 = 1) (h67 : τ.1 67 = 1) (hp : σ.1 p = some (.inr (9, pf))) (p2 : pf[2]? = some (.ref tl)) (ht : oLs σ (some tl) cnt gt) (h50 : τ.1 50 = nI cnt) (hi : a 1 < 0 ∨ ¬ a 1 < nI cnt) : lst (oF κ T (n + 2)) (zF y qs ks T (n' + 1)) x y a σ τ 5 = some (σ, τ) := by
  have e2 : ovr (ofd σ (some x) 14 2) = some (some p) := by rw [ofd_at hx, f2]; rfl
  have e4 : ovr (ofd σ (some x) 14 4) = some (some c) := by rw [ofd_at hx, f4]; rfl
  have e9 : ovr (ofd σ (some p) 9 2) = some (some tl) := by rw [ofd_at hp, p2]; rfl
  obtain ⟨t1, t2, t3, -⟩ := id ht
  refine lcpI_ok (r := -1) ?_ ?_
  · show oF κ T (n + 2) 189 [va_rf (some x), .int (a 1)] σ = _
    rw [oE_X12_type]
    unfold ob_X12_type
    rw [e2, obn_at, if_neg (fun z => by cases z), e4, obn_at, if_neg (fun z => by cases z)]
    by_cases c0 : a 1 < 0
    · rw [if_pos c0]
    · rw [if_neg c0, obn_at, e9, obn_at, t3, obn_at, l_size (n := n) ht, oin_at, if_neg (hi.resolve_left c0)]
  · rw [zE_type]
    unfold b_type
    rw [h66, h67, if_neg (by decide), if_neg (by decide), h50]
    by_cases c0 : a 1 < 0
    · rw [if_pos c0]
    · rw [if_neg c0, if_neg (hi.resolve_left c0)]
end TYG
