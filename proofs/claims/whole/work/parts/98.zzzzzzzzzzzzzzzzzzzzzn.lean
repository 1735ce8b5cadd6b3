/-! the class's gather(): products and remainders -/
section KPR
variable {κ : oKv} {T n : Nat} {st : Nat} {l : Nat → Nat} {b0 : Nat} {nq : tQ → Int} {xs : List tQ} {Q : Nat → Prop} {σ σ' σ1 : oSt} {pg ch ty : Nat} {cf : List Value} {At : Nat → Nat} {mo : Nat} {g : gG} {ρ : Nat → tY} {lv ov : Int32} {na : gN → Nat} {S : List gN} {Ls : List Nat} {Ψ : kGh} {E : gN → Nat → Prop} {y : tY} {A : gTy} {w ra sa cap : Nat} {kd : Int32} {F : List kFc}
/-- cells are made while a CASE says something -/
theorem saS.nw {d e : Nat} (h : saS st l b0 nq xs Q pg ch cf na S Ls w ra sa cap kd σ F) (o : oNl σ σ1 d e) (N2 : ∀ z f, σ.2.1 ≤ z → σ1.1 z = some (.inr (6, f)) → False) : saS st l b0 nq xs Q pg ch cf na S Ls w ra sa cap kd σ1 F ∧ gKx st l b0 w ra sa σ σ1 ∧ gPo xs.length Ls σ σ1 d e := by
  obtain ⟨h1, h2, h3, h4, h5, h6, h7⟩ := id h
  have N6 : oN6 σ σ1 := fun z f hz e => (N2 z f hz e).elim
  obtain ⟨iv2, qn2⟩ := h2.go o N6
  obtain ⟨nt2, tu2⟩ := h3.nw h2 o N6 (fun z f hz e => (N2 z f hz e).elim)
  have kp2 := fun W => h2.kp (W := W) o N6
  have kx : gKx st l b0 w ra sa σ σ1 := gKx.of kp2 (o.tx h2.1)
  have lt : ∀ {x cc}, σ.1 x = some cc → x < σ.2.1 := fun h => Nat.lt_of_not_le (fun e => by rw [h2.1 _ e] at h; cases h)
  have tp : tmP xs.length σ1 Ls = tmP xs.length σ Ls := tmP_cg (fun a ha => by
    obtain ⟨b1, f, b2⟩ := h7.2 a ha
    exact tu2 a b1 (lt b2))
  refine ⟨h.go kx (h1.sp (kp2 (fun _ => False)) h2.1) iv2 nt2, kx, ?_⟩
  unfold gPo
  rw [tp, o.2.2]
  exact ⟨by dsimp only; omega, by dsimp only; omega⟩
/-- a Sum that was made just now makes no NAME -/
theorem cSm.n6 {L : List (Nat × Int32)} {p : Int64} (s : cSm σ1 σ.2.1 (σ.2.1 + 1) (σ.2.1 + 2) 2 L p) (o : oNl σ σ1 3 8) : ∀ z f, σ.2.1 ≤ z → σ1.1 z = some (.inr (6, f)) → False := fun z f hz e => by
  obtain ⟨g, h', q1, q2, q3, -⟩ := s
  rcases (by omega : z = σ.2.1 ∨ z = σ.2.1 + 1 ∨ z = σ.2.1 + 2 ∨ σ.2.1 + 3 ≤ z) with u | u | u | u
  · rw [u, q1] at e; cases e
  · rw [u, q2] at e; cases e
  · rw [u, q3] at e; cases e
  · rw [o.2.1 z (by rw [o.nx]; exact u)] at e; cases e
/-- and is a term -/
theorem cSm.tq {L : List (Nat × Int32)} {p : Int64} {u : kTe} (s : cSm σ1 σ.2.1 (σ.2.1 + 1) (σ.2.1 + 2) 2 L p) (o : oNl σ σ1 3 8) (iv : gIv st l b0 Q σ) (hp : p.toInt = u.2) (hb : -1125899906842624 ≤ u.2 ∧ u.2 ≤ 1125899906842624) (hL : (u.1 = none ∧ L = []) ∨ ∃ a v, u.1 = some (a, v.toInt) ∧ L = [(a, v)] ∧ (v.toInt = 1 ∨ v.toInt = -1)) : cTq st l b0 Q σ1 σ.2.1 u := by
  obtain ⟨-, qn⟩ := iv.go o (fun z f hz e => (s.n6 o z f hz e).elim)
  obtain ⟨-, -, ⟨i3, -⟩, i4, -⟩ := iv
  exact ⟨_, _, _, L, p, s, hp, ⟨hb, by omega, by omega, fun z => by have := i4 _ z; omega⟩, hL, qn _ (by omega), qn _ (by omega)⟩
/-- cells are made before -/
theorem kMd.pre {d e dn ds : Nat} {R : oRs} (h : tpB st l b0 nq xs Ψ.2.2.1 pg ch ty cf At mo g ρ lv ov Ls σ) (o : oNl σ σ1 d e) (N2 : ∀ z f, σ.2.1 ≤ z → σ1.1 z = some (.inr (6, f)) → False) (k : tpB st l b0 nq xs Ψ.2.2.1 pg ch ty cf At mo g ρ lv ov Ls σ1 → kMd st l b0 nq xs pg ch ty cf At mo g ρ lv ov Ψ Ls σ1 E A dn ds R) : kMd st l b0 nq xs pg ch ty cf At mo g ρ lv ov Ψ Ls σ E A (d + dn) (e + ds) R := by
  obtain ⟨t1, c1, k1, s1, e1⟩ := h.nw (W := fun _ => False) o (fun z f hz e => (N2 z f hz e).elim)
  obtain ⟨σ', kk, Q', r1, r2, r3, r4, ⟨r5, r6, r7⟩, r8⟩ := k t1
  exact ⟨σ', kk, Q', r1, r2, r3, fun x hx => r4 x (Nat.lt_of_lt_of_le hx s1.2.2.2), ⟨k1.tr r5, s1.tr r6, r7.trans e1⟩, c1.tr r8⟩
/-- new Sum() -/
theorem c_sm0 (hfr : ∀ q, σ.2.1 ≤ q → σ.1 q = none) : ∃ σ', oF κ T (n + 1) 8 [va_rf (some σ.2.1)] (onew σ (.inr (11, odef 11)) (oq 11).2.2) = some (none, σ') ∧ cSm σ' σ.2.1 (σ.2.1 + 1) (σ.2.1 + 2) 2 [] 0 ∧ oNl σ σ' 3 8 := by
  have n1 : (onew σ (.inr (11, odef 11)) (oq 11).2.2).2 = (σ.2.1 + 1, σ.2.2.1 + 1, σ.2.2.2 + 4) := by rw [oq_11]; rfl
  obtain ⟨σ', R, s1, s2, s3, s4⟩ := x_init (κ := κ) (T := T) (n := n) (σ := onew σ (.inr (11, odef 11)) (oq 11).2.2) (x := σ.2.1) (onew_eq _ _ _) (fun q hq => by
    rw [n1] at hq
    dsimp only at hq
    rw [onew_ne (by omega)]
    exact hfr q (by omega))
  rw [n1] at s1 s2 s3 s4
  refine ⟨σ', R, s1, fun x hx => ?_, fun q hq => ?_, ?_⟩
  · rw [s2 x (by omega) (by dsimp only; omega), onew_ne (by omega)]
  · rw [s4] at hq
    exact s3 q hq
  · rw [s4]
/-- **product()** -/
theorem c_prod {u1 a1 t1 c1 u2 a2 t2 c2 : Nat} {L1 L2 : List (Nat × Int32)} {p1 p2 : Int64} (hT : 2010 ≤ T) (h : tpB st l b0 nq xs Ψ.2.2.1 pg ch ty cf At mo g ρ lv ov Ls σ) (h1 : cSm σ u1 a1 t1 c1 L1 p1) (h2 : cSm σ u2 a2 t2 c2 L2 p2) (hb : -1125899906842624 ≤ p1.toInt * p2.toInt ∧ p1.toInt * p2.toInt ≤ 1125899906842624) : kMd st l b0 nq xs pg ch ty cf At mo g ρ lv ov Ψ Ls σ E (if L1.length = 0 ∧ L2.length = 0 then gEq (yB 0) (none, p1.toInt * p2.toInt) else gPl (yB 0)) 6 25 (oF κ T (n + 5) 18 [va_rf (some u1), va_rf (some u2)] σ) := by
  have e1 : ofd σ (some u1) 11 2 = some (.int (nI L1.length)) ∧ ofd σ (some u1) 11 3 = some (.long p1) ∧ L1.length < 2 ^ 31 := by
    obtain ⟨g, h', s1, -, -, s4, -⟩ := h1
    exact ⟨(ofd_at s1).trans rfl, (ofd_at s1).trans rfl, by omega⟩
  have e2 : ofd σ (some u2) 11 2 = some (.int (nI L2.length)) ∧ ofd σ (some u2) 11 3 = some (.long p2) ∧ L2.length < 2 ^ 31 := by
    obtain ⟨g, h', s1, -, -, s4, -⟩ := h2
    exact ⟨(ofd_at s1).trans rfl, (ofd_at s1).trans rfl, by omega⟩
  have z1 : nI L1.length = 0 ↔ L1.length = 0 := nI_eq e1.2.2 (show 0 < 2 ^ 31 by decide)
  have z2 : nI L2.length = 0 ↔ L2.length = 0 := nI_eq e2.2.2 (show 0 < 2 ^ 31 by decide)
  have K0 : kMd st l b0 nq xs pg ch ty cf At mo g ρ lv ov Ψ Ls σ E (gPl (yB 0)) 6 25 (oj_X0_product_18 T (oF κ T (n + 4)) κ (some u1) (some u2) σ) := by
    unfold oj_X0_product_18 oj_X0_product_19
    rw [if_pos rfl]
    obtain ⟨σ', kk, Q', r1, r2, r3, r4, r5, ⟨r6, r7⟩⟩ := c_kof0 (κ := κ) (T := T) (n := n + 2) (E := E) (y := yB 0) h (kd := 210) rfl
    rw [r1, orn_at]
    exact ⟨σ', kk, Q', rfl, r2, r3, r4, r5, by omega, by omega⟩
  rw [show n + 5 = (n + 4) + 1 from rfl, oE_X0_product]
  unfold ob_X0_product
  rw [e1.1, ovi_i, obn_at]
  by_cases c1' : L1.length = 0
  · rw [if_pos (z1.mpr c1'), e2.1, ovi_i, obn_at]
    by_cases c2' : L2.length = 0
    · rw [if_pos (z2.mpr c2'), if_pos ⟨c1', c2'⟩]
      unfold oj_X0_product_19
      rw [if_neg (by decide), e1.2.1, ovl_lg, obn_at, e2.2.1, ovl_lg, obn_at]
      obtain ⟨σ1, R, s1, o1⟩ := c_sof (κ := κ) (T := T) (n := n) (o := none) (v := 0) (p := p1 * p2) hT (fun y e => by cases e) (Or.inl rfl) h.1.1
      rw [if_pos rfl] at s1
      rw [R, orn_at]
      have hm : (p1 * p2).toInt = p1.toInt * p2.toInt := j_mul (by omega) (by omega)
      have tq : cTq st l b0 Ψ.2.2.1 σ1 σ.2.1 (none, p1.toInt * p2.toInt) := s1.tq o1 h.1 hm hb (Or.inl ⟨rfl, rfl⟩)
      have := kMd.pre (E := E) (A := gEq (yB 0) (none, p1.toInt * p2.toInt)) (dn := 3) (ds := 17) (R := (oF κ T (n + 4) 17 [.int 210, va_rf (some σ.2.1)] σ1)) h o1 (s1.n6 o1) (fun t => c_kof1 (κ := κ) (T := T) (n := n + 2) (y := yB 0) t rfl tq ⟨rfl, Or.inl ⟨rfl, rfl⟩⟩)
      obtain ⟨σ', kk, Q', r1, r2⟩ := this
      rw [r1, orn_at]
      exact ⟨σ', kk, Q', rfl, r2⟩
    · rw [if_neg (fun z => c2' (z2.mp z)), if_neg (fun z => c2' z.2)]
      exact K0
  · rw [if_neg (fun z => c1' (z1.mp z)), if_neg (fun z => c1' z.1)]
    exact K0
end KPR
