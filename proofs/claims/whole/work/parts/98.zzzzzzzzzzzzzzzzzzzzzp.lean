/-! the class's gather(): remainder() -/
theorem lg_le0 (p : Int64) : lg_cmp p 0 ≤ 0 ↔ p.toInt ≤ 0 := by
  have h := l_gt p 0
  have z : (0 : Int64).toInt = 0 := rfl
  rw [z] at h
  constructor
  · intro q
    have : ¬ (0 : Int32) < lg_cmp p 0 := Int32.not_lt.mpr q
    have : ¬ 0 < p.toInt := fun w => this (h.mpr w)
    omega
  · intro q
    exact Int32.not_lt.mp (fun w => by have := h.mp w; omega)
section KRM
variable {κ : oKv} {T n : Nat} {st : Nat} {l : Nat → Nat} {b0 : Nat} {nq : tQ → Int} {xs : List tQ} {σ : oSt} {pg ch ty : Nat} {cf : List Value} {At : Nat → Nat} {mo : Nat} {g : gG} {ρ : Nat → tY} {lv ov : Int32} {Ls : List Nat} {Ψ : kGh} {E : gN → Nat → Prop} {x su : Nat} {fs fu : List Value} {al : Int32} {p : Int64}
theorem c_rem0 (h : tpB st l b0 nq xs Ψ.2.2.1 pg ch ty cf At mo g ρ lv ov Ls σ) (hx : σ.1 x = some (.inr (7, fs))) (h6 : fs[6]? = some (.int al)) (h19 : fs[19]? = some (.ref su)) (hu : σ.1 su = some (.inr (11, fu))) (u3 : fu[3]? = some (.long p)) (hn : ¬ (al = 2 ∧ 0 < p.toInt)) : kMd st l b0 nq xs pg ch ty cf At mo g ρ lv ov Ψ Ls σ E (gPl (yB 0)) 1 15 (oF κ T (n + 2) 19 [va_rf (some x)] σ) := by
  have lt : ∀ {x cc}, σ.1 x = some cc → x ≠ σ.2.1 := fun e z => by rw [z, h.1.1 _ (Nat.le_refl _)] at e; cases e
  have f6 : ofd (onew σ (.inr (4, kF0 210 σ.2.1 none none)) 15) (some x) 7 6 = some (.int al) := (ofd_at ((onew_ne (lt hx)).trans hx)).trans h6
  have f19 : ofd (onew σ (.inr (4, kF0 210 σ.2.1 none none)) 15) (some x) 7 19 = some (.ref su) := (ofd_at ((onew_ne (lt hx)).trans hx)).trans h19
  have f3 : ofd (onew σ (.inr (4, kF0 210 σ.2.1 none none)) 15) (some su) 11 3 = some (.long p) := (ofd_at ((onew_ne (lt hu)).trans hu)).trans u3
  rw [show n + 2 = (n + 1) + 1 from rfl, oE_X0_remainder]
  unfold ob_X0_remainder
  rw [olet_at, obn_at, c_kn (n := n), ocv_at, f6, ovi_i, obn_at]
  by_cases c : al = 2
  · rw [if_pos c, f19, ovr_rf, obn_at, f3, ovl_lg, obn_at, if_pos ((lg_le0 p).mpr (by have : ¬ 0 < p.toInt := fun z => hn ⟨c, z⟩; omega))]
    exact h.k0 rfl
  · rw [if_neg c]
    exact h.k0 rfl
/-- **remainder()** by a number above 0 -/
theorem c_rem1 (h : tpB st l b0 nq xs Ψ.2.2.1 pg ch ty cf At mo g ρ lv ov Ls σ) (hx : σ.1 x = some (.inr (7, fs))) (h6 : fs[6]? = some (.int 2)) (h19 : fs[19]? = some (.ref su)) (hu : σ.1 su = some (.inr (11, fu))) (u3 : fu[3]? = some (.long p)) (hp : 0 < p.toInt) (hq : cTq st l b0 Ψ.2.2.1 σ su (none, p.toInt)) : kMd st l b0 nq xs pg ch ty cf At mo g ρ lv ov Ψ Ls σ E (.inl (yB 0, [(4, (none, 0)), (1, (none, p.toInt))]), []) 6 27 (oF κ T (n + 2) 19 [va_rf (some x)] σ) := by
  have hfr := h.1.1
  obtain ⟨σ1, e1⟩ : ∃ s, s = onew σ (.inr (4, kF0 210 σ.2.1 none none)) 15 := ⟨_, rfl⟩
  obtain ⟨t1, c1, k1, s1, ec1⟩ := h.nw (σ' := σ1) (d := 1) (e := 15) (W := fun _ => False) (by rw [e1]; exact oNl.new hfr) (fun x fs hx e => by
    rw [e1] at e
    by_cases z : x = σ.2.1
    · rw [z, onew_eq] at e; cases e
    · rw [onew_ne z, hfr x hx] at e; cases e)
  have hw1 : σ1.1 σ.2.1 = some (.inr (4, kF0 210 σ.2.1 none none)) := by rw [e1]; exact onew_eq _ _ _
  have n1 : σ1.2.1 = σ.2.1 + 1 := by rw [e1]; rfl
  have hx1 := s1.1 _ _ _ hx (by decide) (by decide)
  have hu1 := s1.1 _ _ _ hu (by decide) (by decide)
  obtain ⟨i1, i2, i3, ⟨v, i4⟩, ⟨f, i5⟩, i6, i7⟩ := id t1
  obtain ⟨σ2, R2, G2, K2, P2⟩ := c_mkS (κ := κ) (T := T) (n := n) (m := 2) (na := Ψ.1) (S := []) (by omega) hw1 i1 i2 i3 i4 ⟨f, i5, fun i s e => by cases e⟩ i6
  have R2 : oF κ T (n + 1) 15 [va_rf (some σ.2.1), .int 2] σ1 = some (none, σ2) := R2
  rw [n1] at G2 K2
  have hQ2 : ∀ x, x < σ.2.1 → ((Ψ.2.2.1 x ∨ x = σ.2.1 + 1 ∨ x = σ.2.1 + 1 + 1) ↔ Ψ.2.2.1 x) := fun x hx => ⟨fun z => by
    rcases z with z | z | z
    · exact z
    · omega
    · omega, Or.inl⟩
  obtain ⟨σ3, R3, M3, O3⟩ := c_sm0 (κ := κ) (T := T) (n := n) (σ := σ2) G2.2.1.1
  obtain ⟨G3, K3, P3⟩ := G2.nw O3 (M3.n6 O3)
  have tq3 : cTq st l b0 (fun z => Ψ.2.2.1 z ∨ z = σ.2.1 + 1 ∨ z = σ.2.1 + 1 + 1) σ3 σ2.2.1 (none, 0) := M3.tq O3 G2.2.1 rfl (by decide) (Or.inl ⟨rfl, rfl⟩)
  obtain ⟨σ4, R4, G4, K4, P4⟩ := G3.say (κ := κ) (T := T) (n := n) (x := (4, (none, 0))) (by decide) (by show 4 ≤ 4; omega) tq3
  have R4 : oF κ T (n + 1) 16 [va_rf (some σ.2.1), .int 301, va_rf (some σ2.2.1)] σ3 = some (none, σ4) := R4
  obtain ⟨K4', S4'⟩ := ((K2.tr K3).tr K4).fp k1 s1 ⟨by omega, by omega, by omega⟩ hfr
  have hx4 := S4'.1 _ _ _ hx (by decide) (by decide)
  have tq4 : cTq st l b0 (fun z => Ψ.2.2.1 z ∨ z = σ.2.1 + 1 ∨ z = σ.2.1 + 1 + 1) σ4 su (none, p.toInt) := hq.sp K4' hQ2 hfr
  obtain ⟨σ5, R5, G5, K5, P5⟩ := G4.say (κ := κ) (T := T) (n := n) (x := (1, (none, p.toInt))) (by decide) (by show 1 ≤ 4; omega) tq4
  have R5 : oF κ T (n + 1) 16 [va_rf (some σ.2.1), .int 60, va_rf (some su)] σ4 = some (none, σ5) := R5
  obtain ⟨K5', S5'⟩ := (((K2.tr K3).tr K4).tr K5).fp k1 s1 ⟨by omega, by omega, by omega⟩ hfr
  have ow : ∀ {s : oSt} {F : List kFc} {Q}, saS st l b0 nq xs Q pg ch (cf.set 8 (.int v)) Ψ.1 [] Ls σ.2.1 (σ.2.1 + 1) (σ.2.1 + 1 + 1) 2 210 s F → oob s (some σ.2.1) 4 = some σ.2.1 := fun {s F Q} q => by
    obtain ⟨⟨fs, hr, gs, w1, -⟩, -⟩ := q
    exact oob_at w1
  obtain ⟨q1, q2, q3, q4, ⟨q5, q5'⟩, ⟨f6, q6, -⟩, q7⟩ := id G5
  obtain ⟨oq1, oq2⟩ := q1.oq
  rw [show n + 2 = (n + 1) + 1 from rfl, oE_X0_remainder]
  unfold ob_X0_remainder
  rw [olet_at, obn_at, c_kn (n := n), ocv_at, ← e1, ofd_at hx1, h6, ovi_i, obn_at, if_pos rfl, ofd_at hx1, h19, ovr_rf, obn_at, ofd_at hu1, u3, ovl_lg, obn_at, if_neg (fun z => by have := (lg_le0 p).mp z; omega), oob_at hw1, obn_at, R2, ocv_at, olet_at, obn_at, R3, ocv_at, ow G3, obn_at, R4, ocv_at, ofd_at hx4, h19, ovr_rf, obn_at, ow G4, obn_at, R5, ocv_at]
  refine ⟨σ5, σ.2.1, _, rfl, ⟨⟨rfl, fun z => by
    rcases z with z | z | z
    · exact Nat.lt_irrefl _ (h.1.2.2.2.1 _ z)
    · omega
    · omega⟩, [(4, (none, 0)), (1, (none, p.toInt))], oq1, oq2, rfl, fun i c e => ?_⟩, ⟨q2, q3, q4, ⟨v, q5⟩, ⟨f6, q6⟩, q7, h.2.2.2.2.2.2.sh S5' (by obtain ⟨f, z⟩ := h.2.2.2.2.1; exact ⟨_, z⟩)⟩, hQ2, ⟨K5', S5', by rw [q5, ← ec1, i4]⟩, ?_⟩
  · match i, e with
    | 0, e => injection e with e; rw [← e]; exact ⟨(none, 0), rfl, rfl, Or.inl ⟨rfl, rfl⟩⟩
    | 1, e => injection e with e; rw [← e]; exact ⟨(none, p.toInt), rfl, rfl, Or.inl ⟨rfl, rfl⟩⟩
    | i + 2, e => cases e
  · obtain ⟨a1, a2⟩ := ((P2.tr P3).tr P4).tr P5
    obtain ⟨b1, b2⟩ := c1
    exact ⟨by omega, by omega⟩
end KRM
