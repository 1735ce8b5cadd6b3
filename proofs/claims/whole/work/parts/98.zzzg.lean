/-! the class's parser: Parser(words) -/
/-- where the parser's cells are -/
def pA (w r v ka pa ea n0 : Nat) (k : Nat) : Nat := match k with
  | 0 => n0
  | 1 => w
  | 2 => r
  | 3 => v
  | 4 => ka
  | 5 => pa
  | 6 => ea
  | 7 => n0 + 1
  | 8 => n0 + 2
  | 9 => n0 + 3
  | 10 => n0 + 4
  | 11 => n0 + 5
  | 12 => n0 + 6
  | _ => n0 + 7
/-- no NAMES, no functions -/
def pD (κ : oKv) : cDt := ((κ.2.2.1, κ.2.2.1, 0, 0, 0, 0), (fun _ => none), (fun _ => none), (fun _ => none))
theorem odef_9p : odef 9 = [.null, .null, .null, .null, .null, .null, .null, .null, .int 0, .int 0, .null, .int 0, .int 0, .int 0, .int 0, .int 0, .int 0, .int 0] := by decide +kernel
theorem oq_9 : (oq 9).2.2 = 18 := by decide +kernel
theorem oq_6n : (oq 6).1 = "LiquidTongue$Name" := by decide +kernel
section CRR
variable {κ : oKv} {sz T n m len cnt : Nat} {kk pp ee f : Nat → Int32} {σ : oSt} {p w r v ka pa ea : Nat} {fs : List Value}
theorem pi_row {c : oC} {k q : Nat} (hp : σ.1 p = some (.inr (9, fs))) (hl : fs.length = 18) (hk : k < 18) (hlt : p < σ.2.1) : ∃ σ', opf (onew σ c q) (some p) 9 k (va_rf (some σ.2.1)) = some σ' ∧ σ'.1 p = some (.inr (9, fs.set k (.ref σ.2.1))) ∧ σ'.1 σ.2.1 = some c ∧ (∀ a, a ≠ p → a ≠ σ.2.1 → σ'.1 a = σ.1 a) ∧ σ'.2 = (σ.2.1 + 1, σ.2.2.1 + 1, σ.2.2.2 + q) := by
  have hp' : (onew σ c q).1 p = some (.inr (9, fs)) := (onew_ne (by omega)).trans hp
  refine ⟨_, opf_at hp' (by omega), oput_eq _ _ _, (oput_ne (by omega)).trans (onew_eq _ _ _), fun a h1 h2 => (oput_ne h1).trans (onew_ne h2), rfl⟩
theorem pi_lst {k : Nat} (hp : σ.1 p = some (.inr (9, fs))) (hl : fs.length = 18) (hk : k < 18) (hlt : p < σ.2.1) : ∃ σ1 σ', oF κ T (n + 3) 224 [va_rf (some σ.2.1)] (onew σ (.inr (1, odef 1)) 3) = some (none, σ1) ∧ opf σ1 (some p) 9 k (va_rf (some σ.2.1)) = some σ' ∧ σ'.1 p = some (.inr (9, fs.set k (.ref σ.2.1))) ∧ σ'.1 σ.2.1 = some (.inr (1, [.int 0, .ref κ.2.2.1, .int 0])) ∧ (∀ a, a ≠ p → a ≠ σ.2.1 → σ'.1 a = σ.1 a) ∧ σ'.2 = (σ.2.1 + 1, σ.2.2.1 + 1, σ.2.2.2 + 3) := by
  have e := l_init (κ := κ) (T := T) (n := n) (x := σ.2.1) (σ := onew σ (.inr (1, odef 1)) 3) (onew_eq _ _ _)
  have hp' : (oput (onew σ (.inr (1, odef 1)) 3) σ.2.1 (.inr (1, [.int 0, .ref κ.2.2.1, .int 0]))).1 p = some (.inr (9, fs)) := (oput_ne (by omega)).trans ((onew_ne (by omega)).trans hp)
  refine ⟨_, _, e, opf_at hp' (by omega), oput_eq _ _ _, (oput_ne (by omega)).trans (oput_eq _ _ _), fun a h1 h2 => (oput_ne h1).trans ((oput_ne h2).trans (onew_ne h2)), rfl⟩
theorem pi_put {k : Nat} {x : Value} (hp : σ.1 p = some (.inr (9, fs))) (hl : fs.length = 18) (hk : k < 18) : ∃ σ', opf σ (some p) 9 k x = some σ' ∧ σ'.1 p = some (.inr (9, fs.set k x)) ∧ (∀ a, a ≠ p → σ'.1 a = σ.1 a) ∧ σ'.2 = σ.2 := ⟨_, opf_at hp (by omega), oput_eq _ _ _, fun a h1 => oput_ne h1, rfl⟩
set_option maxHeartbeats 2000000 in
theorem c_pinit (hfr : ∀ q, σ.2.1 ≤ q → σ.1 q = none) (hlow : ∀ q, q < sz → σ.1 q = none) (hsz : sz ≤ σ.2.1) (hκ : κ.2.2.1 < sz) (hw : σ.1 w = some (.inr (13, [.ref r, .ref ka, .ref pa, .ref ea, .int (nI cnt), .int (-1)]))) (ht : cTz σ r v len f) (hk : σ.1 ka = some (.inl (.int, len + 1, .inl kk))) (hp : σ.1 pa = some (.inl (.int, len + 1, .inl pp))) (he : σ.1 ea = some (.inl (.int, len + 1, .inl ee))) (hc : cnt ≤ len ∧ len ≤ 2000) (hwd : (∀ j, j < cnt → ∃ a e, pp j = nI a ∧ ee j = nI e ∧ a < e ∧ e ≤ len) ∧ kk cnt = 0 ∧ pp cnt = nI len) (hm : 4 ≤ m) : ∃ σ', oF κ T m 103 [va_rf (some σ.2.1), va_rf (some w)] (onew σ (.inr (9, odef 9)) (oq 9).2.2) = some (none, σ') ∧ cV κ sz len cnt kk pp ee f (pA w r v ka pa ea σ.2.1) (nI 0) (nI 0) .null σ' (pD κ) 0 0 0 0 (-1) (-1) (-1) ∧ cRw (pA w r v ka pa ea σ.2.1) σ' (fun _ => 0) (fun _ => 0) (fun _ => 0) (fun _ => 0) ∧ (∀ a, a < σ.2.1 → σ'.1 a = σ.1 a) ∧ σ'.2 = (σ.2.1 + 8, σ.2.2.1 + 8, σ.2.2.2 + 60) := by
  obtain ⟨m', rfl⟩ : ∃ m', m = m' + 3 + 1 := ⟨m - 4, by omega⟩
  rw [oE_X7_init]
  unfold ob_X7_init
  have c12 : (12 : Int32).toNatClampNeg = 12 := by decide
  have c6 : (6 : Int32).toNatClampNeg = 6 := by decide
  have g12 : onn 12 = true := by decide
  have g6 : onn 6 = true := by decide
  rw [c12, c6, oq_6n, oq_1, oq_9]
  have h0 : (onew σ (.inr (9, odef 9)) 18).1 σ.2.1 = some (.inr (9, odef 9)) := onew_eq _ _ _
  have k0 : ∀ a, a ≠ σ.2.1 → (onew σ (.inr (9, odef 9)) 18).1 a = σ.1 a := fun a ha => onew_ne ha
  have z0 : (onew σ (.inr (9, odef 9)) 18).2 = (σ.2.1 + 1, σ.2.2.1 + 1, σ.2.2.2 + 18) := rfl
  have l0 : (odef 9).length = 18 := by rw [odef_9p]; rfl
  generalize onew σ (.inr (9, odef 9)) 18 = σ0 at h0 k0 z0 ⊢
  have n0 : σ0.2.1 = σ.2.1 + 1 := by rw [z0]
  obtain ⟨σ1, a1, p1, b1, k1, z1⟩ := pi_row (c := .inl (.object "LiquidTongue$Name", 12, .inr (.inr (.inr (.inr (fun _ => none)))))) (k := 1) (q := 12) h0 l0 (by decide) (by omega)
  rw [obn_at, ogd_at g12, olet_at, a1, obn_at, olet_at, obn_at]
  have n1 : σ1.2.1 = σ.2.1 + 2 := by rw [z1]; show σ0.2.1 + 1 = _; omega
  obtain ⟨σ2a, σ2, a2, a2b, p2, b2, k2, z2⟩ := pi_lst (κ := κ) (T := T) (n := m') (k := 2) p1 (by rw [List.length_set]; exact l0) (by decide) (by omega)
  rw [a2, ocv_at, a2b, obn_at, olet_at, obn_at]
  have n2 : σ2.2.1 = σ.2.1 + 3 := by rw [z2]; show σ1.2.1 + 1 = _; omega
  obtain ⟨σ3a, σ3, a3, a3b, p3, b3, k3, z3⟩ := pi_lst (κ := κ) (T := T) (n := m') (k := 3) p2 (by simp only [List.length_set]; exact l0) (by decide) (by omega)
  rw [a3, ocv_at, a3b, obn_at, ogd_at g6, olet_at]
  have n3 : σ3.2.1 = σ.2.1 + 4 := by rw [z3]; show σ2.2.1 + 1 = _; omega
  obtain ⟨σ4, a4, p4, b4, k4, z4⟩ := pi_row (c := .inl (.int, 6, .inl (fun _ => 0))) (k := 4) (q := 6) p3 (by simp only [List.length_set]; exact l0) (by decide) (by omega)
  rw [a4, obn_at, ogd_at g6, olet_at]
  have n4 : σ4.2.1 = σ.2.1 + 5 := by rw [z4]; show σ3.2.1 + 1 = _; omega
  obtain ⟨σ5, a5, p5, b5, k5, z5⟩ := pi_row (c := .inl (.int, 6, .inl (fun _ => 0))) (k := 5) (q := 6) p4 (by simp only [List.length_set]; exact l0) (by decide) (by omega)
  rw [a5, obn_at, ogd_at g6, olet_at]
  have n5 : σ5.2.1 = σ.2.1 + 6 := by rw [z5]; show σ4.2.1 + 1 = _; omega
  obtain ⟨σ6, a6, p6, b6, k6, z6⟩ := pi_row (c := .inl (.int, 6, .inl (fun _ => 0))) (k := 6) (q := 6) p5 (by simp only [List.length_set]; exact l0) (by decide) (by omega)
  rw [a6, obn_at, ogd_at g6, olet_at]
  have n6 : σ6.2.1 = σ.2.1 + 7 := by rw [z6]; show σ5.2.1 + 1 = _; omega
  obtain ⟨σ7, a7, p7, b7, k7, z7⟩ := pi_row (c := .inl (.int, 6, .inl (fun _ => 0))) (k := 7) (q := 6) p6 (by simp only [List.length_set]; exact l0) (by decide) (by omega)
  rw [a7, obn_at]
  obtain ⟨σ8, a8, p8, k8, z8⟩ := pi_put (k := 15) (x := .int (-1)) p7 (by simp only [List.length_set]; exact l0) (by decide)
  obtain ⟨σ9, a9, p9, k9, z9⟩ := pi_put (k := 16) (x := .int (-1)) p8 (by simp only [List.length_set]; exact l0) (by decide)
  obtain ⟨σa, aa, p10, ka', za⟩ := pi_put (k := 17) (x := .int (-1)) p9 (by simp only [List.length_set]; exact l0) (by decide)
  obtain ⟨σb, ab, p11, kb, zb⟩ := pi_put (k := 0) (x := va_rf (some w)) p10 (by simp only [List.length_set]; exact l0) (by decide)
  rw [a8, obn_at, a9, obn_at, aa, obn_at, ab, obn_at]
  rw [n0] at b1 k1
  rw [n1] at b2 k2
  rw [n2] at b3 k3
  rw [n3] at b4 k4
  rw [n4] at b5 k5
  rw [n5] at b6 k6
  rw [n6] at b7 k7
  have KB : ∀ a, a ≠ σ.2.1 → σb.1 a = σ7.1 a := fun a ha => by rw [kb a ha, ka' a ha, k9 a ha, k8 a ha]
  have zF : σb.2 = (σ.2.1 + 8, σ.2.2.1 + 8, σ.2.2.2 + 60) := by
    rw [zb, za, z9, z8, z7]
    show (σ6.2.1 + 1, σ6.2.2.1 + 1, σ6.2.2.2 + 6) = _
    rw [z6]
    show (σ5.2.1 + 1 + 1, σ5.2.2.1 + 1 + 1, σ5.2.2.2 + 6 + 6) = _
    rw [z5]
    show (σ4.2.1 + 1 + 1 + 1, σ4.2.2.1 + 1 + 1 + 1, σ4.2.2.2 + 6 + 6 + 6) = _
    rw [z4]
    show (σ3.2.1 + 1 + 1 + 1 + 1, σ3.2.2.1 + 1 + 1 + 1 + 1, σ3.2.2.2 + 6 + 6 + 6 + 6) = _
    rw [z3]
    show (σ2.2.1 + 1 + 1 + 1 + 1 + 1, σ2.2.2.1 + 1 + 1 + 1 + 1 + 1, σ2.2.2.2 + 3 + 6 + 6 + 6 + 6) = _
    rw [z2]
    show (σ1.2.1 + 1 + 1 + 1 + 1 + 1 + 1, σ1.2.2.1 + 1 + 1 + 1 + 1 + 1 + 1, σ1.2.2.2 + 3 + 3 + 6 + 6 + 6 + 6) = _
    rw [z1]
    show (σ0.2.1 + 1 + 1 + 1 + 1 + 1 + 1 + 1, σ0.2.2.1 + 1 + 1 + 1 + 1 + 1 + 1 + 1, σ0.2.2.2 + 12 + 3 + 3 + 6 + 6 + 6 + 6) = _
    rw [z0]
  have nF : σb.2.1 = σ.2.1 + 8 := by rw [zF]
  have low : ∀ a, a < σ.2.1 → σb.1 a = σ.1 a := fun a ha => by
    rw [KB a (by omega), k7 a (by omega) (by omega), k6 a (by omega) (by omega), k5 a (by omega) (by omega), k4 a (by omega) (by omega), k3 a (by omega) (by omega), k2 a (by omega) (by omega), k1 a (by omega) (by omega), k0 a (by omega)]
  have frB : ∀ q, σb.2.1 ≤ q → σb.1 q = none := fun q hq => by
    rw [KB q (by omega), k7 q (by omega) (by omega), k6 q (by omega) (by omega), k5 q (by omega) (by omega), k4 q (by omega) (by omega), k3 q (by omega) (by omega), k2 q (by omega) (by omega), k1 q (by omega) (by omega), k0 q (by omega)]
    exact hfr q (by omega)
  have r7 : σb.1 (σ.2.1 + 1) = some (.inl (.object "LiquidTongue$Name", 12, .inr (.inr (.inr (.inr (fun _ => none)))))) := by
    rw [KB _ (by omega), k7 _ (by omega) (by omega), k6 _ (by omega) (by omega), k5 _ (by omega) (by omega), k4 _ (by omega) (by omega), k3 _ (by omega) (by omega), k2 _ (by omega) (by omega)]; exact b1
  have r8 : σb.1 (σ.2.1 + 2) = some (.inr (1, [.int 0, .ref κ.2.2.1, .int 0])) := by
    rw [KB _ (by omega), k7 _ (by omega) (by omega), k6 _ (by omega) (by omega), k5 _ (by omega) (by omega), k4 _ (by omega) (by omega), k3 _ (by omega) (by omega)]; exact b2
  have r9 : σb.1 (σ.2.1 + 3) = some (.inr (1, [.int 0, .ref κ.2.2.1, .int 0])) := by
    rw [KB _ (by omega), k7 _ (by omega) (by omega), k6 _ (by omega) (by omega), k5 _ (by omega) (by omega), k4 _ (by omega) (by omega)]; exact b3
  have r10 : σb.1 (σ.2.1 + 4) = some (.inl (.int, 6, .inl (fun _ => 0))) := by
    rw [KB _ (by omega), k7 _ (by omega) (by omega), k6 _ (by omega) (by omega), k5 _ (by omega) (by omega)]; exact b4
  have r11 : σb.1 (σ.2.1 + 5) = some (.inl (.int, 6, .inl (fun _ => 0))) := by
    rw [KB _ (by omega), k7 _ (by omega) (by omega), k6 _ (by omega) (by omega)]; exact b5
  have r12 : σb.1 (σ.2.1 + 6) = some (.inl (.int, 6, .inl (fun _ => 0))) := by
    rw [KB _ (by omega), k7 _ (by omega) (by omega)]; exact b6
  have r13 : σb.1 (σ.2.1 + 7) = some (.inl (.int, 6, .inl (fun _ => 0))) := by
    rw [KB _ (by omega)]; exact b7
  have lw := alt hfr hw
  have lk := alt hfr hk
  have lp := alt hfr hp
  have le' := alt hfr he
  obtain ⟨fr', hr⟩ := ht.r
  have lr := alt hfr hr
  have lv : v < σ.2.1 := by
    rcases ht.v with ⟨x', y⟩ | ⟨x', y⟩
    · exact alt hfr y
    · exact alt hfr y
  have lowκ : σb.1 κ.2.2.1 = none := (low _ (by omega)).trans (hlow _ hκ)
  refine ⟨σb, rfl, ⟨⟨⟨frB, fun q hq => (low q (by omega)).trans (hlow q hq), by omega, hκ⟩, ⟨(low w lw).trans hw, ht.keep (low r lr) (low v lv), (low ka lk).trans hk, (low pa lp).trans hp, (low ea le').trans he, hc⟩, r7, ⟨⟨0, r8, Or.inl ⟨rfl, rfl, rfl, lowκ⟩, fun j hj => absurd hj (Nat.not_lt_zero j)⟩, ⟨0, r9, Or.inl ⟨rfl, rfl, rfl, lowκ⟩, fun j hj => absurd hj (Nat.not_lt_zero j)⟩, (show σ.2.1 + 2 ≠ σ.2.1 + 3 by omega), Or.inr rfl, by show (0 : Nat) ≤ _; omega, by show (0 : Nat) ≤ _; omega⟩, hwd⟩, ?_, Nat.zero_le _, Nat.zero_le _, Nat.le_refl _, Nat.le_refl _⟩, ⟨⟨r10, r11, r12, r13⟩, ⟨by show ka < σ.2.1 + 4; omega, by show pa < σ.2.1 + 4; omega, by show ea < σ.2.1 + 4; omega, by show σ.2.1 + 4 < σ.2.1 + 5; omega, by show σ.2.1 + 5 < σ.2.1 + 6; omega, by show σ.2.1 + 6 < σ.2.1 + 7; omega⟩⟩, low, zF⟩
  show σb.1 σ.2.1 = _
  rw [p11, n0, n1, n2, n3, n4, n5, n6, odef_9p]
  rfl
end CRR
