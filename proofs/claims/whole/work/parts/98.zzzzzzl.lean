/-! the class: Typer(words) -/
theorem nI_mul (a b : Nat) : nI a * nI b = nI (a * b) := (Int32.ofNat_mul a b).symm
theorem odef_12 : odef 12 = [.null, .null, .null, .null, .null, .null, .int 0, .int 0, .int 0, .int 0] := by decide +kernel
theorem oq_12 : (oq 12).2.2 = 10 := by decide +kernel
/-- the graph of int, bool, array, list alone -/
def gY4 : gG := (fun t => t + 2, fun _ => 0, fun _ => 0, fun t => t, 4)
theorem gY4_K : gK gY4 := ⟨⟨fun _ => 0, fun t ht => ⟨ht, Or.inl rfl, by show 0 + xN gY4.n (gRoot gY4) ≤ gY4.n; rw [Nat.zero_add]; exact xN_n _ _⟩⟩, fun t ht => ⟨fun z => by have z : t + 2 = 1 := z; omega, Or.inl rfl⟩⟩
theorem gY4_C : gC gY4 := fun t ht z => by
  have z : t + 2 = 1 := z
  omega
theorem gY4_T {s : mS} (h : s.1 = []) : gT gY4 mB s := by
  have al : ∀ α, mAll s.1 α := fun α x hx => by rw [h] at hx; cases hx
  have gs : ∀ α : Nat → tY, gS gY4 (fun c => mB c α) := fun α t ht => ⟨rfl, fun z => by have z : t + 2 = 1 := z; omega, fun k z => by
    have z : t + 2 = k + 2 := z
    have e : t = k := by omega
    rw [e]
    rfl⟩
  refine ⟨fun α _ => gs α, fun ρ hρ => ⟨fun _ => yB 0, al _, fun c hc => ?_⟩, fun α α' _ => ⟨⟨fun _ => al _, fun _ => al _⟩, fun _ _ => rfl⟩⟩
  exact (hρ c hc).2.2 c rfl
section CTI
variable {κ : oKv} {T n m cnt p : Nat} {σ : oSt} {fs : List Value}
theorem ti_row {c : oC} {k q : Nat} (hp : σ.1 p = some (.inr (12, fs))) (hl : fs.length = 10) (hk : k < 10) (hlt : p < σ.2.1) : ∃ σ', opf (onew σ c q) (some p) 12 k (va_rf (some σ.2.1)) = some σ' ∧ σ'.1 p = some (.inr (12, fs.set k (.ref σ.2.1))) ∧ σ'.1 σ.2.1 = some c ∧ (∀ a, a ≠ p → a ≠ σ.2.1 → σ'.1 a = σ.1 a) ∧ σ'.2 = (σ.2.1 + 1, σ.2.2.1 + 1, σ.2.2.2 + q) := by
  have hp' : (onew σ c q).1 p = some (.inr (12, fs)) := (onew_ne (by omega)).trans hp
  refine ⟨_, opf_at hp' (by omega), oput_eq _ _ _, (oput_ne (by omega)).trans (onew_eq _ _ _), fun a h1 h2 => (oput_ne h1).trans (onew_ne h2), rfl⟩
theorem ti_put {k : Nat} {x : Value} (hp : σ.1 p = some (.inr (12, fs))) (hl : fs.length = 10) (hk : k < 10) : ∃ σ', opf σ (some p) 12 k x = some σ' ∧ σ'.1 p = some (.inr (12, fs.set k x)) ∧ (∀ a, a ≠ p → σ'.1 a = σ.1 a) ∧ σ'.2 = σ.2 := ⟨_, opf_at hp (by omega), oput_eq _ _ _, fun a h1 => oput_ne h1, rfl⟩
set_option maxHeartbeats 2000000 in
theorem c_tinit (hc : cnt ≤ 2000) (hm : 2 ≤ m) : ∃ σ' F, oF κ T m 147 [va_rf (some σ.2.1), .int (nI cnt)] (onew σ (.inr (12, odef 12)) (oq 12).2.2) = some (none, σ') ∧ yT σ.2.1 (fun i => σ.2.1 + 1 + i) (4 * cnt + 8) F (nI 4) 0 (-1) (-1) σ' ∧ cGr F gY4 ∧ (∀ a, a < σ.2.1 → σ'.1 a = σ.1 a) ∧ (∀ a, σ.2.1 + 7 ≤ a → σ'.1 a = σ.1 a) ∧ σ'.2 = (σ.2.1 + 7, σ.2.2.1 + 7, σ.2.2.2 + 74 + 32 * cnt) := by
  obtain ⟨m', rfl⟩ : ∃ m', m = m' + 1 + 1 := ⟨m - 2, by omega⟩
  have e4 : (4 : Int32) * nI cnt + 8 = nI (4 * cnt + 8) := by
    rw [show (4 : Int32) = nI 4 from rfl, nI_mul, show (8 : Int32) = nI 8 from rfl, nI_add]
  have e12 : (3 : Int32) * nI (4 * cnt + 8) = nI (3 * (4 * cnt + 8)) := by rw [show (3 : Int32) = nI 3 from rfl, nI_mul]
  have c4 := nI_clamp (show 4 * cnt + 8 < 2 ^ 31 by omega)
  have c12 := nI_clamp (show 3 * (4 * cnt + 8) < 2 ^ 31 by omega)
  have n4 : onn (nI (4 * cnt + 8)) = true := by
    unfold onn
    rw [c4, decide_eq_true (nI_neg1 (by omega)), decide_eq_true (show 4 * cnt + 8 ≤ 60000000 by omega)]
    rfl
  have n12 : onn (nI (3 * (4 * cnt + 8))) = true := by
    unfold onn
    rw [c12, decide_eq_true (nI_neg1 (by omega)), decide_eq_true (show 3 * (4 * cnt + 8) ≤ 60000000 by omega)]
    rfl
  rw [oE_X10_init]
  unfold ob_X10_init
  rw [oq_12, odef_12, e4, e12, c4, c12, n4, n12]
  simp only [ogd, if_true, olet]
  generalize hy : σ.2.1 = y
  have h0 : (onew σ (.inr (12, [.null, .null, .null, .null, .null, .null, .int 0, .int 0, .int 0, .int 0])) 10).1 y = some (.inr (12, [.null, .null, .null, .null, .null, .null, .int 0, .int 0, .int 0, .int 0])) := by rw [← hy]; exact onew_eq _ _ _
  have h02 : (onew σ (.inr (12, [.null, .null, .null, .null, .null, .null, .int 0, .int 0, .int 0, .int 0])) 10).2 = (y + 1, σ.2.2.1 + 1, σ.2.2.2 + 10) := by rw [← hy]; rfl
  have h03 : ∀ a, a ≠ y → (onew σ (.inr (12, [.null, .null, .null, .null, .null, .null, .int 0, .int 0, .int 0, .int 0])) 10).1 a = σ.1 a := fun a ha => onew_ne (by omega)
  generalize onew σ (.inr (12, [.null, .null, .null, .null, .null, .null, .int 0, .int 0, .int 0, .int 0])) 10 = s0 at h0 h02 h03
  obtain ⟨s1, a1, a2, a3, a4⟩ := ti_put (k := 8) (x := .int (-1)) h0 rfl (by decide)
  obtain ⟨s2, b1, b2, b3, b4⟩ := ti_put (k := 9) (x := .int (-1)) a2 rfl (by decide)
  have q2 : s2.2 = (y + 1, σ.2.2.1 + 1, σ.2.2.2 + 10) := by rw [b4, a4, h02]
  obtain ⟨s3, d1, d2, d3, d4, d5⟩ := ti_row (c := .inl (.int, 4 * cnt + 8, .inl (fun _ => 0))) (q := 4 * cnt + 8) (k := 0) b2 rfl (by decide) (by rw [q2]; exact Nat.lt_succ_self y)
  rw [q2] at d1 d2 d3 d4 d5
  obtain ⟨s4, f1, f2, f3, f4, f5⟩ := ti_row (c := .inl (.int, 4 * cnt + 8, .inl (fun _ => 0))) (q := 4 * cnt + 8) (k := 1) d2 rfl (by decide) (by rw [d5]; show y < y + 1 + 1; omega)
  rw [d5] at f1 f2 f3 f4 f5
  obtain ⟨s5, g1, g2, g3, g4, g5⟩ := ti_row (c := .inl (.int, 4 * cnt + 8, .inl (fun _ => 0))) (q := 4 * cnt + 8) (k := 2) f2 rfl (by decide) (by rw [f5]; show y < y + 1 + 1 + 1; omega)
  rw [f5] at g1 g2 g3 g4 g5
  obtain ⟨s6, i1, i2, i3, i4, i5⟩ := ti_row (c := .inl (.int, 4 * cnt + 8, .inl (fun _ => 0))) (q := 4 * cnt + 8) (k := 3) g2 rfl (by decide) (by rw [g5]; show y < y + 1 + 1 + 1 + 1; omega)
  rw [g5] at i1 i2 i3 i4 i5
  obtain ⟨s7, j1, j2, j3, j4, j5⟩ := ti_row (c := .inl (.int, 4 * cnt + 8, .inl (fun _ => 0))) (q := 4 * cnt + 8) (k := 4) i2 rfl (by decide) (by rw [i5]; show y < y + 1 + 1 + 1 + 1 + 1; omega)
  rw [i5] at j1 j2 j3 j4 j5
  obtain ⟨s8, k1, k2, k3, k4, k5⟩ := ti_row (c := .inl (.int, 3 * (4 * cnt + 8), .inl (fun _ => 0))) (q := 3 * (4 * cnt + 8)) (k := 5) j2 rfl (by decide) (by rw [j5]; show y < y + 1 + 1 + 1 + 1 + 1 + 1; omega)
  rw [j5] at k1 k2 k3 k4 k5
  have Y0 : yT y (fun i => y + 1 + i) (4 * cnt + 8) (fun _ _ => 0) (nI 0) 0 (-1) (-1) s8 := by
    refine ⟨k2, fun i hi => ?_, ⟨fun i hi => by show y + 1 + i ≠ y; omega, fun i j _ _ e => by have e : y + 1 + i = y + 1 + j := e; omega⟩, by omega, by omega⟩
    have c0 : s8.1 (y + 1) = some (.inl (.int, 4 * cnt + 8, .inl (fun _ => 0))) := (k4 _ (by omega) (by show y + 1 ≠ y + 1 + 1 + 1 + 1 + 1 + 1; omega)).trans ((j4 _ (by omega) (by show y + 1 ≠ y + 1 + 1 + 1 + 1 + 1; omega)).trans ((i4 _ (by omega) (by show y + 1 ≠ y + 1 + 1 + 1 + 1; omega)).trans ((g4 _ (by omega) (by show y + 1 ≠ y + 1 + 1 + 1; omega)).trans ((f4 _ (by omega) (by show y + 1 ≠ y + 1 + 1; omega)).trans d3))))
    have c1 : s8.1 (y + 1 + 1) = some (.inl (.int, 4 * cnt + 8, .inl (fun _ => 0))) := (k4 _ (by omega) (by show y + 1 + 1 ≠ y + 1 + 1 + 1 + 1 + 1 + 1; omega)).trans ((j4 _ (by omega) (by show y + 1 + 1 ≠ y + 1 + 1 + 1 + 1 + 1; omega)).trans ((i4 _ (by omega) (by show y + 1 + 1 ≠ y + 1 + 1 + 1 + 1; omega)).trans ((g4 _ (by omega) (by show y + 1 + 1 ≠ y + 1 + 1 + 1; omega)).trans f3)))
    have c2 : s8.1 (y + 1 + 1 + 1) = some (.inl (.int, 4 * cnt + 8, .inl (fun _ => 0))) := (k4 _ (by omega) (by show y + 1 + 1 + 1 ≠ y + 1 + 1 + 1 + 1 + 1 + 1; omega)).trans ((j4 _ (by omega) (by show y + 1 + 1 + 1 ≠ y + 1 + 1 + 1 + 1 + 1; omega)).trans ((i4 _ (by omega) (by show y + 1 + 1 + 1 ≠ y + 1 + 1 + 1 + 1; omega)).trans g3))
    have c3 : s8.1 (y + 1 + 1 + 1 + 1) = some (.inl (.int, 4 * cnt + 8, .inl (fun _ => 0))) := (k4 _ (by omega) (by show y + 1 + 1 + 1 + 1 ≠ y + 1 + 1 + 1 + 1 + 1 + 1; omega)).trans ((j4 _ (by omega) (by show y + 1 + 1 + 1 + 1 ≠ y + 1 + 1 + 1 + 1 + 1; omega)).trans i3)
    have c4' : s8.1 (y + 1 + 1 + 1 + 1 + 1) = some (.inl (.int, 4 * cnt + 8, .inl (fun _ => 0))) := (k4 _ (by omega) (by show y + 1 + 1 + 1 + 1 + 1 ≠ y + 1 + 1 + 1 + 1 + 1 + 1; omega)).trans j3
    match i, hi with
    | 0, _ => exact c0
    | 1, _ => exact c1
    | 2, _ => exact c2
    | 3, _ => exact c3
    | 4, _ => exact c4'
    | 5, _ => exact k3
  obtain ⟨t1, l1, l2, l3⟩ := c_make (κ := κ) (T := T) (n := m') Y0 (by omega) 210
  rw [if_neg (show ¬ 0 = 4 * cnt + 8 by omega), if_neg (show ¬ 0 = 4 * cnt + 8 by omega)] at l2
  obtain ⟨t2, o1, o2, o3⟩ := c_make (κ := κ) (T := T) (n := m') l2 (by omega) 202
  rw [if_neg (show ¬ 0 + 1 = 4 * cnt + 8 by omega), if_neg (show ¬ 0 + 1 = 4 * cnt + 8 by omega)] at o2
  obtain ⟨t3, p1, p2, p3⟩ := c_make (κ := κ) (T := T) (n := m') o2 (by omega) 200
  rw [if_neg (show ¬ 0 + 1 + 1 = 4 * cnt + 8 by omega), if_neg (show ¬ 0 + 1 + 1 = 4 * cnt + 8 by omega)] at p2
  obtain ⟨t4, r1, r2, r3⟩ := c_make (κ := κ) (T := T) (n := m') p2 (by omega) 213
  rw [if_neg (show ¬ 0 + 1 + 1 + 1 = 4 * cnt + 8 by omega), if_neg (show ¬ 0 + 1 + 1 + 1 = 4 * cnt + 8 by omega)] at r2
  have fr := ((l3.tr o3).tr p3).tr r3
  have old : ∀ a, a < y ∨ y + 7 ≤ a → t4.1 a = σ.1 a := fun a ha => by
    rw [fr.1 a (by omega) (fun i hi => by show a ≠ y + 1 + i; omega), k4 a (by omega) (by show a ≠ y + 1 + 1 + 1 + 1 + 1 + 1; omega), j4 a (by omega) (by show a ≠ y + 1 + 1 + 1 + 1 + 1; omega), i4 a (by omega) (by show a ≠ y + 1 + 1 + 1 + 1; omega), g4 a (by omega) (by show a ≠ y + 1 + 1 + 1; omega), f4 a (by omega) (by show a ≠ y + 1 + 1; omega), d4 a (by omega) (by show a ≠ y + 1; omega), b3 a (by omega), a3 a (by omega), h03 a (by omega)]
  refine ⟨t4, _, ?_, r2, ⟨⟨Nat.le_refl 4, fun t _ => rfl, fun t h1 h2 => by have h2 : t < 4 := h2; omega⟩, fun t ht => ?_⟩, fun a ha => old a (Or.inl ha), fun a ha => old a (Or.inr ha), ?_⟩
  · rw [obn_at, a1, obn_at, b1, obn_at]
    simp only [q2, d1, obn_at, d5, f1, f5, g1, g5, i1, i5, j1, j5, k1, Y0.ob, l1, oin_at, l2.ob, o1, o2.ob, p1, p2.ob, r1]
  · have ht : t < 4 := ht
    match t, ht with
    | 0, _ => exact ⟨rfl, fun z => (by cases z), rfl⟩
    | 1, _ => exact ⟨rfl, fun z => (by cases z), rfl⟩
    | 2, _ => exact ⟨rfl, fun z => (by cases z), rfl⟩
    | 3, _ => exact ⟨rfl, fun z => (by cases z), rfl⟩
  · rw [fr.2.1, k5]
    show (y + 1 + 1 + 1 + 1 + 1 + 1 + 1, _, _) = _
    refine Prod.ext rfl (Prod.ext rfl ?_)
    show σ.2.2.2 + 10 + (4 * cnt + 8) + (4 * cnt + 8) + (4 * cnt + 8) + (4 * cnt + 8) + (4 * cnt + 8) + 3 * (4 * cnt + 8) = σ.2.2.2 + 74 + 32 * cnt
    omega
end CTI
/-! the class's infer answers the type that it notes -/
def oEd (x1 : Option Nat) (r : oRs) : Prop := ∀ v σ', r = some (some (.int v), σ') → ofd σ' x1 7 8 = some (.int v)
section OED
variable {x1 : Option Nat}
theorem oEd.b {α : Type} {x : Option α} {f : α → oRs} (h : ∀ a, oEd x1 (f a)) : oEd x1 (obn x f) := by
  cases x with
  | none => intro v σ' e; cases e
  | some a => exact h a
theorem oEd.i {r : oRs} {f : Int32 → oSt → oRs} (h : ∀ x s, oEd x1 (f x s)) : oEd x1 (oin r f) := by
  unfold oin
  split
  · exact h _ _
  · intro v σ' e; cases e
theorem oEd.c {r : oRs} {f : oSt → oRs} (h : ∀ s, oEd x1 (f s)) : oEd x1 (ocv r f) := by
  unfold ocv
  split
  · exact h _
  · intro v σ' e; cases e
theorem oEd.r {r : oRs} {f : Option Nat → oSt → oRs} (h : ∀ x s, oEd x1 (f x s)) : oEd x1 (orn r f) := by
  unfold orn
  split
  · exact h _ _
  · exact h _ _
  · intro v σ' e; cases e
theorem oEd.g {b : Bool} {r : oRs} (h : oEd x1 r) : oEd x1 (ogd b r) := by
  unfold ogd
  split
  · exact h
  · intro v σ' e; cases e
theorem oEd.f {p : Prop} [Decidable p] {r r' : oRs} (h : oEd x1 r) (h' : oEd x1 r') : oEd x1 (if p then r else r') := by
  split
  · exact h
  · exact h'
theorem oEd.j {n : Nat} {call : oCl} {κ : oKv} (s : oSt) : oEd x1 (oj_X10_infer_351 n call κ x1 s) := fun v σ' e => by
  unfold oj_X10_infer_351 at e
  cases h : ofd s x1 7 8 with
  | none => rw [h] at e; cases e
  | some w =>
    rw [h] at e
    cases w with
    | int a =>
      have e : some (some (Value.int a), s) = some (some (Value.int v), σ') := e
      injection e with e
      injection e with e1 e2
      rw [← e2, h, ← e1]
    | _ => cases e
end OED
theorem c_inf8 {κ : oKv} {T n : Nat} {x0 x1 : Option Nat} {σ σ' : oSt} {v fl : Int32} (h : oF κ T n 156 [va_rf x0, va_rf x1] σ = some (some (.int v), σ')) (h8 : ofd σ x0 12 8 = some (.int fl)) (hf : fl < 0) : ofd σ' x1 7 8 = some (.int v) := by
  cases n with
  | zero => cases h
  | succ n =>
    rw [oE_X10_infer] at h
    unfold ob_X10_infer at h
    rw [h8, ovi_i, obn_at, if_pos hf] at h
    refine (?_ : oEd x1 _) v σ' h
    refine oEd.b fun _ => ?_
    repeat' first
      | exact oEd.j _
      | refine oEd.b fun _ => ?_
      | refine oEd.i fun _ _ => ?_
      | refine oEd.c fun _ => ?_
      | refine oEd.r fun _ _ => ?_
      | refine oEd.g ?_
      | refine oEd.f ?_ ?_
