/-! the class's gather(): sayInstances() as a whole -/
section SAY
variable {κ : oKv} {T n : Nat} {st : Nat} {l : Nat → Nat} {b0 : Nat} {nq : tQ → Int} {xs : List tQ} {Q Q' : Nat → Prop} {σ σ' : oSt} {ch pg : Nat} {cf : List Value} {na : gN → Nat} {S : List gN} {Ls : List Nat} {w : Nat} {kd : Int32} {y : tY}
/-- terms stay where all but Knowns stays -/
theorem cTq.cg {su : Nat} {u : kTe} (h : cTq st l b0 Q σ su u) (ho : ∀ x cc, σ.1 x = some cc → (∀ fs, cc ≠ .inr (4, fs)) → σ'.1 x = some cc) (hq : ∀ x, qA st l b0 σ x → qA st l b0 σ' x) (hQ : ∀ x cc, σ.1 x = some cc → (Q' x ↔ Q x)) : cTq st l b0 Q' σ' su u := by
  obtain ⟨a, ta, c, Ls, pl, ⟨g, h', s1, s2, s3, s4, s5⟩, h2, ⟨h3, h3', h3'', h3q⟩, h4, q1, q2⟩ := h
  refine ⟨a, ta, c, Ls, pl, ⟨g, h', ho _ _ s1 (fun _ z => by cases z), ho _ _ s2 (fun _ z => by cases z), ho _ _ s3 (fun _ z => by cases z), s4, fun i b d e => ?_⟩, h2, ⟨h3, h3', h3'', fun z => h3q ((hQ _ _ s3).mp z)⟩, h4, hq _ q1, hq _ q2⟩
  obtain ⟨c1, c2, fs, c3⟩ := s5 i b d e
  exact ⟨c1, c2, fs, ho _ _ c3 (fun _ z => by cases z)⟩
set_option maxHeartbeats 1000000 in
/-- makeRoom() of a CASE that is being made -/
theorem c_mkS {m : Nat} (hm : m ≤ 432) (hw : σ.1 w = some (.inr (4, kF0 kd w none none))) (iv : gIv st l b0 Q σ) (nt : ntI st l b0 nq xs Q σ) (qr : qRw st l b0 nq xs Q pg σ) (hc : σ.1 ch = some (.inr (2, cf))) (sr : srO b0 st na S Ls σ) (ls : lsO b0 Ls σ) : ∃ σ1, oF κ T (n + 1) 15 [va_rf (some w), .int (nI m)] σ = some (none, σ1) ∧ saS st l b0 nq xs (fun z => Q z ∨ z = σ.2.1 ∨ z = σ.2.1 + 1) pg ch cf na S Ls w σ.2.1 (σ.2.1 + 1) m kd σ1 [] ∧ gKx st l b0 w σ.2.1 (σ.2.1 + 1) σ σ1 ∧ gPo xs.length Ls σ σ1 2 (2 * m) := by
  obtain ⟨σ1, R, r1, r2, r3, r4, r5, r6⟩ := c_mkR (κ := κ) (T := T) (n := n) (q := m) hw rfl (by omega) iv.1
  obtain ⟨i1, i2, i3, i4, i5, i6⟩ := id iv
  have lt : ∀ {x cc}, σ.1 x = some cc → x < σ.2.1 := fun h => Nat.lt_of_not_le (fun e => by rw [i1 _ e] at h; cases h)
  have lw := lt hw
  have s21 : σ1.2.1 = σ.2.1 + 2 := by rw [r6]
  have ho : ∀ x cc, σ.1 x = some cc → (∀ fs, cc ≠ .inr (4, fs)) → σ1.1 x = some cc := fun x cc e h4 => by
    rw [r4 x (lt e) (fun z => by rw [z, hw] at e; injection e with e; exact h4 _ e.symm)]; exact e
  have nm : ∀ a f, σ1.1 a = some (.inr (6, f)) → σ.1 a = some (.inr (6, f)) := fun a f e => by
    by_cases c : a < σ.2.1
    · rw [← r4 a c (fun z => by rw [z, r3] at e; cases e)]; exact e
    · rcases (by omega : a = σ.2.1 ∨ a = σ.2.1 + 1 ∨ σ.2.1 + 2 ≤ a) with z | z | z
      · rw [z, r1] at e; cases e
      · rw [z, r2] at e; cases e
      · rw [r5 a z] at e; cases e
  have tm : ∀ x, tmS b0 σ1 x → tmS b0 σ x := fun x ⟨a, f, e0, e, e5⟩ => ⟨a, f, e0, nm a f e, e5⟩
  have ld : ∀ x, ldS l σ1 x → ldS l σ x := fun x ⟨i, mc, k, hi, e⟩ => ⟨i, mc, k, hi, by rw [← r4 _ (i2 i hi) (fun z => by rw [z, r3] at e; cases e)]; exact e⟩
  have qq : ∀ x, qA st l b0 σ x → qA st l b0 σ1 x := fun x ⟨a, b, c⟩ => ⟨a, fun z => b (ld x z), fun z => c (tm x z)⟩
  have qn : ∀ x, σ.2.1 ≤ x → qA st l b0 σ1 x := fun x hx => ⟨by omega, fun z => by have := i6 x (ld x z); omega, fun z => by have := i5 x (tm x z); omega⟩
  have hQ : ∀ x cc, σ.1 x = some cc → ((Q x ∨ x = σ.2.1 ∨ x = σ.2.1 + 1) ↔ Q x) := fun x cc e => ⟨fun z => by
    rcases z with z | z | z
    · exact z
    · have := lt e; omega
    · have := lt e; omega, Or.inl⟩
  have kx : gKx st l b0 w σ.2.1 (σ.2.1 + 1) σ σ1 := by
    refine ⟨fun x cc e n1 _ _ q => ⟨by rw [r4 x (lt e) n1]; exact e, ?_⟩, fun x fs e => ⟨fs, ho x _ e (fun _ z => by cases z), rfl, fun _ _ => rfl⟩, by omega, fun x k fs e _ hn => by rw [r4 x (lt e) hn]; exact e, fun x y e _ _ => ho x _ e (fun _ z => by cases z), fun x hx e => by rw [r4 x hx (fun z => by rw [z, hw] at e; cases e)]; exact e⟩
    match cc, q with
    | .inr o, q => exact q
    | .inl z, q => exact qq x q
  have nt1 : ntI st l b0 nq xs (fun z => Q z ∨ z = σ.2.1 ∨ z = σ.2.1 + 1) σ1 := by
    refine ⟨fun a f hb e => ?_, fun a a' f f' t hb hb' e e' e5 e5' => nt.2 a a' f f' t hb hb' (nm a f e) (nm a' f' e') e5 e5'⟩
    obtain ⟨y1, y2⟩ := nt.1 a f hb (nm a f e)
    exact ⟨y1, y2.imp id (fun ⟨t, g, z1, z2, z3⟩ => ⟨t, g, z1, ho t _ z2 (fun _ z => by cases z), fun j x hx hs su hsu => (z3 j x hx hs su hsu).cg ho qq hQ⟩)⟩
  have iv1 : gIv st l b0 (fun z => Q z ∨ z = σ.2.1 ∨ z = σ.2.1 + 1) σ1 := ⟨fun q hq => r5 q (by omega), fun i hi => by have := i2 i hi; omega, ⟨by omega, by omega⟩, fun x hx => by
    rcases hx with z | z | z
    · have := i4 x z; omega
    · omega
    · omega, fun x hx => by have := i5 x (tm x hx); omega, fun x hx => by have := i6 x (ld x hx); omega⟩
  have qr1 : qRw st l b0 nq xs (fun z => Q z ∨ z = σ.2.1 ∨ z = σ.2.1 + 1) pg σ1 := by
    obtain ⟨pf, r4', r5', r6', r7', f4, f5, f6, f7, p0, p1, ⟨m4, m5, m6, m7⟩, ⟨⟨q4, q5, q6, q7⟩, n4, n5, n6, n7⟩, xl, pq⟩ := qr
    have nq' : ∀ r cc, σ.1 r = some cc → ¬ Q r → ¬ (Q r ∨ r = σ.2.1 ∨ r = σ.2.1 + 1) := fun r cc e nr z => nr ((hQ r cc e).mp z)
    exact ⟨pf, r4', r5', r6', r7', f4, f5, f6, f7, ho _ _ p0 (fun _ z => by cases z), p1, ⟨ho _ _ m4 (fun _ z => by cases z), ho _ _ m5 (fun _ z => by cases z), ho _ _ m6 (fun _ z => by cases z), ho _ _ m7 (fun _ z => by cases z)⟩, ⟨⟨qq _ q4, qq _ q5, qq _ q6, qq _ q7⟩, nq' _ _ m4 n4, nq' _ _ m5 n5, nq' _ _ m6 n6, nq' _ _ m7 n7⟩, xl, pq⟩
  have chw : ch ≠ w := fun z => by rw [z, hw] at hc; cases hc
  have lr : st ≠ σ.2.1 := by omega
  refine ⟨σ1, R, ⟨⟨_, _, _, r3, rfl, ⟨rfl, rfl, rfl, rfl, rfl, rfl, rfl⟩, ⟨r1, r2⟩, ⟨Nat.zero_le _, by omega, i3.1, by have := i3.1; omega, Or.inr (Or.inl rfl), Or.inr (Or.inr rfl)⟩, ⟨qn _ (Nat.le_refl _), qn _ (by omega)⟩, fun i x e => by cases e⟩, iv1, nt1, qr1, ⟨kx.2.2.2.1 _ _ _ hc (by decide) chw, chw⟩, sr.x kx lr, ls.x kx⟩, kx, ?_⟩
  have tp : tmP xs.length σ1 Ls = tmP xs.length σ Ls := tmP_cg (fun a ha => by
    obtain ⟨b1, f, b2⟩ := ls.2 a ha
    refine tmU_cg (by rw [r4 a (lt b2) (fun z => by rw [z, hw] at b2; cases b2)]) (fun f' t e e5 => ?_)
    obtain ⟨-, z | ⟨t', g, w1, w2, -⟩⟩ := nt.1 a f' b1 e
    · rw [z] at e5; cases e5
    · rw [w1] at e5
      injection e5 with e5
      injection e5 with e5
      rw [← e5, r4 t' (lt w2) (fun z => by rw [z, hw] at w2; cases w2)])
  unfold gPo
  rw [tp, r6]
  exact ⟨by dsimp only; omega, by dsimp only; omega⟩
/-- **sayInstances()** -/
theorem c_sayI (hT : 2010 ≤ T) (hkd : kd = cKd (yK y)) (hy : yK y = 2 ∨ yK y = 4 ∨ yK y = 5) (hnq : ∀ x, x ∈ xs → -1125899906842624 ≤ nq x ∧ nq x ≤ 1125899906842624) (c0 : cf[0]? = some (.ref pg)) (c7 : cf[7]? = some (.ref st)) (c8 : cf[8]? = some (.int (nI S.length))) (hS : S.length ≤ 72) (hw : σ.1 w = some (.inr (4, kF0 kd w none none))) (iv : gIv st l b0 Q σ) (nt : ntI st l b0 nq xs Q σ) (qr : qRw st l b0 nq xs Q pg σ) (hc : σ.1 ch = some (.inr (2, cf))) (sr : srO b0 st na S Ls σ) (ls : lsO b0 Ls σ) : ∃ σ', oF κ T (n + 6) 26 [va_rf (some ch), va_rf (some w)] σ = some (none, σ') ∧ saS st l b0 nq xs (fun z => Q z ∨ z = σ.2.1 ∨ z = σ.2.1 + 1) pg ch cf na S Ls w σ.2.1 (σ.2.1 + 1) (gIn nq xs y S).length kd σ' ((gIn nq xs y S).map (kFq na)) ∧ gKx st l b0 w σ.2.1 (σ.2.1 + 1) σ σ' ∧ gPo xs.length Ls σ σ' (2 + 3 * xs.length) (2 * (gIn nq xs y S).length + 8 * xs.length) := by
  have xl : xs.length ≤ 6 := by
    obtain ⟨pf, r4, r5, r6, r7, f4, f5, f6, f7, p0, p1, p2, p3, xl, pq⟩ := qr
    exact xl
  have il : (gIn nq xs y S).length ≤ 432 := by
    have gen : ∀ x2 : List tQ, (gIn nq x2 y S).length ≤ 72 * x2.length := fun x2 => by
      induction x2 with
      | nil => exact Nat.le_refl _
      | cons x x2 ih =>
        rw [gIn_c, List.length_append, List.length_cons]
        split
        · split
          · rw [List.length_map]; omega
          · show 1 + _ ≤ _; omega
        · show 0 + _ ≤ _; omega
    have := gen xs
    omega
  rw [oE_X0_sayInstances]
  unfold ob_X0_sayInstances
  have R4 := c_sa4 (κ := κ) (T := T) (S := S) (call := oF κ T (n + 5)) hkd hy qr hc c0 c8 hS hw rfl xs 0 0 T (Nat.zero_add _) (fun j => by rw [Nat.zero_add]) (by omega) (by omega)
  have R4 : ol_X0_sayInstances_4 T (oF κ T (n + 5)) κ T (some ch) (some w) 0 0 σ = _ := R4
  rw [R4, Nat.zero_add, oob_at hw, obn_at]
  obtain ⟨σ1, R1, G1, K1, P1⟩ := c_mkS (κ := κ) (T := T) (n := n + 4) il hw iv nt qr hc sr ls
  rw [R1, ocv_at]
  obtain ⟨σ2, R2, G2, K2, P2⟩ := c_sa71 (κ := κ) (T := T) (n := n) hT hkd hy hnq c0 c7 c8 hS xs 0 T σ1 [] (Nat.zero_add _) (fun j => by rw [Nat.zero_add]) (by omega) (by show 0 + _ ≤ _; omega) G1
  have R2 : ol_X0_sayInstances_71 T (oF κ T (n + 5)) κ T (some ch) (some w) 0 σ1 = _ := R2
  refine ⟨σ2, R2, G2, K1.tr K2, ?_⟩
  obtain ⟨u1, u2⟩ := P1.tr P2
  exact ⟨by omega, by omega⟩
end SAY
