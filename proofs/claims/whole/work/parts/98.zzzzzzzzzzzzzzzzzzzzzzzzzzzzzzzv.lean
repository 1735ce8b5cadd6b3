/-! run(), the class: quotients -/
theorem x_xs (x y : Int64) : (0 ≤ lg_cmp (x ^^^ y) 0) ↔ ((0 ≤ x.toInt) ↔ (0 ≤ y.toInt)) := by
  rw [l_ge]
  have m : ∀ z : Int64, z.toBitVec.msb = decide (z.toInt < 0) := fun z => BitVec.msb_eq_toInt
  have e := m (x ^^^ y)
  rw [Int64.toBitVec_xor, BitVec.msb_xor, m x, m y] at e
  show (0 : Int) ≤ _ ↔ _
  by_cases c1 : x.toInt < 0
  · by_cases c2 : y.toInt < 0
    · rw [decide_eq_true c1, decide_eq_true c2] at e
      have := of_decide_eq_false e.symm
      constructor <;> intro _ <;> omega
    · rw [decide_eq_true c1, decide_eq_false c2] at e
      have := of_decide_eq_true e.symm
      constructor <;> intro _ <;> omega
  · by_cases c2 : y.toInt < 0
    · rw [decide_eq_false c1, decide_eq_true c2] at e
      have := of_decide_eq_true e.symm
      constructor <;> intro _ <;> omega
    · rw [decide_eq_false c1, decide_eq_false c2] at e
      have := of_decide_eq_false e.symm
      constructor <;> intro _ <;> omega
section HQU
variable {κ : oKv} {T n : Nat} {σ : oSt}
theorem h_fl {a b : Int64} (ha : xmB a = true) (hb : xmB b = true) (hz : b ≠ 0) : oF κ T (n + 1) 243 [.long a, .long b] σ = some (some (.long (Int64.ofInt (a.toInt.fdiv b.toInt))), σ) ∧ oF κ T (n + 1) 244 [.long a, .long b] σ = some (some (.long (Int64.ofInt (a.toInt.fmod b.toInt))), σ) := by
  have ha := xmB_iff.mp ha
  have hb := xmB_iff.mp hb
  have hz' : b.toInt ≠ 0 := fun z => hz (Int64.toInt_inj.mp z)
  have d1 := x_div (a := a) (b := b) (by omega)
  have nb := Int.natAbs_tdiv_le_natAbs a.toInt b.toInt
  have fb := fdiv_bd a.toInt b.toInt
  have mb := fmod_bd (a := a.toInt) hz'
  have nd : decide (¬ b = 0) = true := decide_eq_true hz
  have tm : a.toInt.tdiv b.toInt * b.toInt = a.toInt - a.toInt.tmod b.toInt := by
    have q := Int.tmod_add_tdiv_mul a.toInt b.toInt
    omega
  have tmb : (a.toInt.tmod b.toInt).natAbs ≤ a.toInt.natAbs := by rw [Int.natAbs_tmod]; exact Nat.mod_le _ _
  have m1 : (a / b * b).toInt = a.toInt - a.toInt.tmod b.toInt := by
    rw [j_mul (by rw [d1]; omega) (by rw [d1]; omega), d1, tm]
  have m2 : (a - a / b * b).toInt = a.toInt.tmod b.toInt := by
    rw [j_sub (by rw [m1]; omega) (by rw [m1]; omega), m1]
    omega
  have dv : b.toInt ∣ a.toInt ↔ a.toInt.tmod b.toInt = 0 := ⟨Int.tmod_eq_zero_of_dvd, Int.dvd_of_tmod_eq_zero⟩
  have fq := Int.fdiv_eq_tdiv (a := a.toInt) (b := b.toInt)
  have fm := Int.fmod_def a.toInt b.toInt
  have e0 : (lg_cmp (a / b * b) a = 0) ↔ b.toInt ∣ a.toInt := by
    rw [lg_eq, dv, ← Int64.toInt_inj, m1]
    omega
  have e1 : (lg_cmp (a - a / b * b) 0 = 0) ↔ b.toInt ∣ a.toInt := by
    rw [lg_eq, dv, ← m2]
    exact ⟨fun z => by rw [z]; rfl, fun z => Int64.toInt_inj.mp z⟩
  have q0 : ∀ x : Int, x.natAbs ≤ 2199023255553 → (Int64.ofInt x).toInt = x := fun x hx => Int64.toInt_ofInt_of_le (by omega) (by omega)
  have cm : b.toInt * a.toInt.tdiv b.toInt = a.toInt - a.toInt.tmod b.toInt := by rw [Int.mul_comm]; exact tm
  have fin0 : a.toInt.fdiv b.toInt = a.toInt.tdiv b.toInt → a / b = Int64.ofInt (a.toInt.fdiv b.toInt) ∧ a - a / b * b = Int64.ofInt (a.toInt.fmod b.toInt) := fun e => ⟨Int64.toInt_inj.mp (by rw [q0 _ (by omega), d1, e]), Int64.toInt_inj.mp (by rw [q0 _ (by omega), m2, fm, e, cm]; omega)⟩
  have fin1 : a.toInt.fdiv b.toInt = a.toInt.tdiv b.toInt - 1 → a / b - 1 = Int64.ofInt (a.toInt.fdiv b.toInt) ∧ a - a / b * b + b = Int64.ofInt (a.toInt.fmod b.toInt) := fun e => ⟨Int64.toInt_inj.mp (by
    rw [q0 _ (by omega), j_sub (by rw [d1, show (1 : Int64).toInt = 1 from rfl]; omega) (by rw [d1, show (1 : Int64).toInt = 1 from rfl]; omega), d1, e]
    rfl), Int64.toInt_inj.mp (by
    rw [q0 _ (by omega), j_add (by rw [m2]; omega) (by rw [m2]; omega), m2, fm, e, Int.mul_sub, cm, Int.mul_one]; omega)⟩
  rw [oE_J9_floorDiv_f86c9, oE_J9_floorMod_f86c9]
  unfold ob_J9_floorDiv_f86c9 ob_J9_floorMod_f86c9
  rw [ogd_at nd, ogd_at nd]
  by_cases c : (0 ≤ a.toInt) ↔ (0 ≤ b.toInt)
  · rw [if_pos ((x_xs a b).mpr c), if_pos ((x_xs a b).mpr c)]
    obtain ⟨r1, r2⟩ := fin0 (by
      rw [fq]
      by_cases c0 : b.toInt ∣ a.toInt
      · rw [if_pos c0]; omega
      · rw [if_neg c0]
        by_cases c1 : 0 ≤ a.toInt
        · rw [if_pos c1, if_pos (c.mp c1)]; omega
        · have c2 : ¬ 0 ≤ b.toInt := fun w => c1 (c.mpr w)
          have sb : b.toInt.sign = -1 := Int.sign_eq_neg_one_of_neg (by omega)
          rw [if_neg c1, if_neg c2, sb]; omega)
    rw [r2, r1]
    exact ⟨rfl, rfl⟩
  · rw [if_neg (fun w => c ((x_xs a b).mp w)), if_neg (fun w => c ((x_xs a b).mp w))]
    by_cases c0 : b.toInt ∣ a.toInt
    · rw [if_pos (e0.mpr c0), if_pos (e1.mpr c0)]
      obtain ⟨r1, r2⟩ := fin0 (by rw [fq, if_pos c0]; omega)
      rw [r2, r1]
      exact ⟨rfl, rfl⟩
    · rw [if_neg (fun w => c0 (e0.mp w)), if_neg (fun w => c0 (e1.mp w))]
      obtain ⟨r1, r2⟩ := fin1 (by
        rw [fq, if_neg c0]
        by_cases c1 : 0 ≤ a.toInt
        · have c2 : ¬ 0 ≤ b.toInt := fun w => c ⟨fun _ => w, fun _ => c1⟩
          rw [if_pos c1, if_neg c2]
        · have c2 : 0 ≤ b.toInt := by
            by_cases w : 0 ≤ b.toInt
            · exact w
            · exact absurd ⟨fun z => absurd z c1, fun z => absurd z w⟩ c
          have sb : b.toInt.sign = 1 := Int.sign_eq_one_of_pos (by omega)
          rw [if_neg c1, if_pos c2, sb])
      rw [r2, r1]
      exact ⟨rfl, rfl⟩
end HQU
