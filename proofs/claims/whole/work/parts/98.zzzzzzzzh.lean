/-! INPUTS: set(), setElement() -/
section SET
variable {κ : oKv} {T n x a N ma va ra i : Nat} {v : Int32} {fm : List Value} {fv : Nat → Int64} {gr : Nat → Option Nat} {σ : oSt}
theorem c_fI {call : oCl} (hN : N < 2 ^ 31) : ∀ (d k t : Nat) (σ : oSt) (f : Nat → Int32), k + d = N → d < t → σ.1 a = some (.inl (.int, N, .inl f)) → ol_J7_fill_53178_5 T call κ t (some a) v (nI k) (nI N) σ = some (none, oput σ a (.inl (.int, N, .inl (fun i => if k ≤ i ∧ i < N then v else f i))))
  | 0, k, t, σ, f, hk, ht, h => by
    obtain ⟨t, rfl⟩ : ∃ t', t = t' + 1 := ⟨t - 1, by omega⟩
    rw [ol_J7_fill_53178_5, if_pos (nI_le (by omega) (by omega))]
    have : (fun i => if k ≤ i ∧ i < N then v else f i) = f := funext fun i => if_neg (by omega)
    rw [this, oput_same h]
  | d + 1, k, t, σ, f, hk, ht, h => by
    obtain ⟨t, rfl⟩ : ∃ t', t = t' + 1 := ⟨t - 1, by omega⟩
    have zi : zin (nI k) N = true := decide_eq_true ⟨by rw [nI_toInt (by omega)]; omega, by rw [nI_toInt (by omega)]; omega⟩
    rw [ol_J7_fill_53178_5, if_neg (nI_ge (by omega) (by omega)), osi_at h zi, obn_at, nI_clamp (show k < 2 ^ 31 by omega), nI_p1, c_fI hN d (k + 1) t _ _ (by omega) (by omega) (oput_eq _ _ _), oput_oput]
    have : (fun i => if k + 1 ≤ i ∧ i < N then v else upd f k v i) = (fun i => if k ≤ i ∧ i < N then v else f i) := funext fun i => by
      by_cases c : i = k
      · rw [if_neg (by omega), c, upd_at, if_pos (by omega)]
      · rw [upd_ne _ _ c]
        by_cases c2 : k ≤ i ∧ i < N
        · rw [if_pos (by omega), if_pos c2]
        · rw [if_neg (by omega), if_neg c2]
    rw [this]
theorem c_fillI {f : Nat → Int32} (hT : 1010 ≤ T) (h : σ.1 a = some (.inl (.int, 1000, .inl f))) : oF κ T (n + 1) 242 [va_rf (some a), .int v] σ = some (none, oput σ a (.inl (.int, 1000, .inl (fun i => if 0 ≤ i ∧ i < 1000 then v else f i)))) := by
  rw [oE_J7_fill_53178]
  unfold ob_J7_fill_53178
  have e : oln2 κ σ (some a) = some (nI 1000) := by simp only [oln2, h]; rfl
  rw [e, obn_at]
  exact c_fI (N := 1000) (by decide) 1000 0 T σ f rfl (by omega) h
theorem zin_6 (hi : i < 6) : zin (nI i) 6 = true := decide_eq_true ⟨by rw [nI_toInt (by omega)]; omega, by rw [nI_toInt (by omega)]; omega⟩
theorem lMv.osj (h : lMv x σ ma va ra fm fv gr) (hi : i < 6) (w : Int64) : osj σ (some va) (nI i) w = some (oput σ va (.inl (.long, 6, .inr (.inl (vp_updL fv i w))))) := by
  have h7 := h.2.2.1
  simp only [Jvm.Pilot.CLiquidTongueLaw_law_r5199_589327.osj, h7, zin_6 hi, and_self, if_true, nI_clamp (show i < 2 ^ 31 by omega)]
theorem lMv.oar (h : lMv x σ ma va ra fm fv gr) (hi : i < 6) : oar σ (some ra) (nI i) = some (gr i) := by
  have h8 := h.2.2.2.1
  simp only [Jvm.Pilot.CLiquidTongueLaw_law_r5199_589327.oar, h8, zin_6 hi, if_true, nI_clamp (show i < 2 ^ 31 by omega)]
theorem lMv.f2 (h : lMv x σ ma va ra fm fv gr) : ovr (ofd σ (some ma) 5 2) = some (some va) ∧ ovr (ofd σ (some ma) 5 3) = some (some ra) ∧ oob σ (some ma) 5 = some ma := by
  obtain ⟨-, ⟨h1, -, h2, h3⟩, -⟩ := h
  exact ⟨by rw [ofd_at h1, h2]; rfl, by rw [ofd_at h1, h3]; rfl, oob_at h1⟩
/-- the cells are different ones -/
theorem lMv.ne (h : lMv x σ ma va ra fm fv gr) : (va ≠ x ∧ va ≠ ma ∧ va ≠ ra) ∧ (ra ≠ x ∧ ra ≠ ma) ∧ ∀ i b, i < 6 → gr i = some b → b ≠ x ∧ b ≠ ma ∧ b ≠ va ∧ b ≠ ra := by
  obtain ⟨⟨fs, h0, -⟩, ⟨h1, -⟩, h7, h8, h9, -⟩ := h
  refine ⟨⟨fun z => ?_, fun z => ?_, fun z => ?_⟩, ⟨fun z => ?_, fun z => ?_⟩, fun i b hi e => ?_⟩
  · rw [z, h0] at h7; cases h7
  · rw [z, h1] at h7; cases h7
  · rw [z, h8] at h7; cases h7
  · rw [z, h0] at h8; cases h8
  · rw [z, h1] at h8; cases h8
  · obtain ⟨h, e1⟩ := h9 i b hi e
    refine ⟨fun z => ?_, fun z => ?_, fun z => ?_, fun z => ?_⟩
    · rw [z, h0] at e1; cases e1
    · rw [z, h1] at e1; cases e1
    · rw [z, h7] at e1; cases e1
    · rw [z, h8] at e1; cases e1
/-- a number or a truth is given -/
theorem c_set0 {bs : Int32} (h : lMv x σ ma va ra fm fv gr) (hi : i < 6) (hb : bs ≠ 200) : oF κ T (n + 1) 74 [va_rf (some ma), .int (nI i), .int bs, .int v] σ = some (some (.int 1), oput σ va (.inl (.long, 6, .inr (.inl (vp_updL fv i (if bs = 202 then (if v = 0 then v.toInt64 else 1) else v.toInt64)))))) := by
  rw [oE_X3_set]
  unfold ob_X3_set oj_X3_set_50 oj_X3_set_70 oj_X3_set_72
  rw [if_neg hb, h.f2.1, obn_at]
  by_cases c : bs = 202
  · rw [if_pos c, if_pos c]
    by_cases c2 : v = 0
    · rw [if_pos c2, if_pos c2, h.osj hi, obn_at]
    · rw [if_neg c2, if_neg c2, h.osj hi, obn_at]
  · rw [if_neg c, if_neg c, h.osj hi, obn_at]
/-- the state behind a number or a truth -/
theorem lMv.put (h : lMv x σ ma va ra fm fv gr) (fv' : Nat → Int64) : lMv x (oput σ va (.inl (.long, 6, .inr (.inl fv')))) ma va ra fm fv' gr := by
  obtain ⟨⟨n1, n2, n3⟩, ⟨n4, n5⟩, n6⟩ := h.ne
  obtain ⟨⟨fs, h0, h0'⟩, ⟨h1, h1'⟩, h7, h8, h9, h10⟩ := h
  refine ⟨⟨fs, (oput_ne n1.symm).trans h0, h0'⟩, ⟨(oput_ne n2.symm).trans h1, h1'⟩, oput_eq _ _ _, (oput_ne n3.symm).trans h8, fun i b hi e => ?_, h10⟩
  obtain ⟨hh, e1⟩ := h9 i b hi e
  exact ⟨hh, (oput_ne (n6 i b hi e).2.2.1).trans e1⟩
/-- an array's length is given: its row is all 0 -/
theorem c_set2 (hT : 1010 ≤ T) (h : lMv x σ ma va ra fm fv gr) (hi : i < 6) (hfr : ∀ q, σ.2.1 ≤ q → σ.1 q = none) (h0 : ¬ v < 0) (h1 : v ≤ 1000) : ∃ σ' gr' b hz, oF κ T (n + 2) 74 [va_rf (some ma), .int (nI i), .int 200, .int v] σ = some (some (.int 1), σ') ∧ lMv x σ' ma va ra fm (vp_updL fv i v.toInt64) gr' ∧ (gr' i = some b ∧ (gr i = some b ∨ σ.2.1 ≤ b)) ∧ σ'.1 b = some (.inl (.int, 1000, .inl hz)) ∧ (∀ k, k < 1000 → hz k = 0) ∧ (∀ j, j ≠ i → gr' j = gr j) ∧ (∀ j c, j < 6 → j ≠ i → gr j = some c → σ'.1 c = σ.1 c) ∧ (∀ q, q < σ.2.1 → q ≠ va → q ≠ ra → (∀ c, gr i = some c → q ≠ c) → σ'.1 q = σ.1 q) ∧ (∀ q, σ'.2.1 ≤ q → σ'.1 q = none) ∧ (σ.2.1 ≤ σ'.2.1 ∧ σ'.2.2.1 ≤ σ.2.2.1 + 1 ∧ σ'.2.2.2 ≤ σ.2.2.2 + 1000) := by
  -- behind the row: fill, and the length
  have go : ∀ (σ1 : oSt) (gr1 : Nat → Option Nat) (b : Nat), lMv x σ1 ma va ra fm fv gr1 → gr1 i = some b → ∃ hz, oj_X3_set_40 T (oF κ T (n + 1)) κ (some ma) (nI i) 200 v σ1 = some (some (.int 1), oput (oput σ1 b (.inl (.int, 1000, .inl hz))) va (.inl (.long, 6, .inr (.inl (vp_updL fv i v.toInt64))))) ∧ (∀ k, k < 1000 → hz k = 0) ∧ lMv x (oput (oput σ1 b (.inl (.int, 1000, .inl hz))) va (.inl (.long, 6, .inr (.inl (vp_updL fv i v.toInt64))))) ma va ra fm (vp_updL fv i v.toInt64) gr1 := fun σ1 gr1 b hm hb => by
    obtain ⟨⟨n1, n2, n3⟩, ⟨n4, n5⟩, n6⟩ := hm.ne
    obtain ⟨nb1, nb2, nb3, nb4⟩ := n6 i b hi hb
    obtain ⟨hh, e1⟩ := hm.2.2.2.2.1 i b hi hb
    have M2 : lMv x (oput σ1 b (.inl (.int, 1000, .inl (fun j => if 0 ≤ j ∧ j < 1000 then (0 : Int32) else hh j)))) ma va ra fm fv gr1 := by
      obtain ⟨⟨fs, h0, h0'⟩, ⟨h1, h1'⟩, h7, h8, h9, h10⟩ := hm
      refine ⟨⟨fs, (oput_ne nb1.symm).trans h0, h0'⟩, ⟨(oput_ne nb2.symm).trans h1, h1'⟩, (oput_ne nb3.symm).trans h7, (oput_ne nb4.symm).trans h8, fun j c hj e => ?_, h10⟩
      by_cases z : c = b
      · rw [z]; exact ⟨_, oput_eq _ _ _⟩
      · rw [oput_ne z]; exact h9 j c hj e
    refine ⟨_, ?_, fun k hk => if_pos ⟨Nat.zero_le _, hk⟩, M2.put _⟩
    unfold oj_X3_set_40 oj_X3_set_50 oj_X3_set_70 oj_X3_set_72
    rw [hm.f2.2.1, obn_at, hm.oar hi, obn_at, hb, c_fillI hT e1, ocv_at, M2.f2.1, obn_at, if_neg (by decide), M2.osj hi, obn_at]
  have pre : oF κ T (n + 2) 74 [va_rf (some ma), .int (nI i), .int 200, .int v] σ = if gr i = none then (ogd (onn 1000) (olet (onew σ (.inl (.int, (1000 : Int32).toNatClampNeg, .inl (fun _ => 0))) (1000 : Int32).toNatClampNeg) fun s11 => obn (osr s11 (some ra) (nI i) (some σ.2.1)) fun s14 => oj_X3_set_40 T (oF κ T (n + 1)) κ (some ma) (nI i) 200 v s14)) else oj_X3_set_40 T (oF κ T (n + 1)) κ (some ma) (nI i) 200 v σ := by
    rw [show n + 2 = (n + 1) + 1 from rfl, oE_X3_set]
    unfold ob_X3_set
    rw [if_pos rfl, if_neg h0, if_pos h1, h.f2.2.1, obn_at, h.oar hi, obn_at]
    by_cases c : gr i = none
    · rw [if_pos c, if_pos c, obn_at]
    · rw [if_neg c, if_neg c]
  obtain ⟨⟨n1, n2, n3⟩, ⟨n4, n5⟩, n6⟩ := h.ne
  cases hg : gr i with
  | some b =>
    rw [hg, if_neg (by simp)] at pre
    obtain ⟨hz, g1, g2, g3⟩ := go σ gr b h hg
    obtain ⟨nb1, nb2, nb3, nb4⟩ := n6 i b hi hg
    have bl : b < σ.2.1 := by
      obtain ⟨hh, e1⟩ := h.2.2.2.2.1 i b hi hg
      exact alt hfr e1
    have vl := alt hfr h.2.2.1
    refine ⟨_, gr, b, hz, pre.trans g1, g3, ⟨hg, Or.inl rfl⟩, (oput_ne nb3).trans (oput_eq _ _ _), g2, fun _ _ => rfl, fun j c hj hji e => ?_, fun q hq a1 a2 a3 => ?_, fun q hq => ?_, Nat.le_refl _, Nat.le_succ _, Nat.le_add_right _ _⟩
    · have hcb : c ≠ b := fun z => hji (h.2.2.2.2.2 j i b hj hi (by rw [e, z]) hg)
      exact (oput_ne (n6 j c hj e).2.2.1).trans (oput_ne hcb)
    · exact (oput_ne a1).trans (oput_ne (a3 b rfl))
    · have hq : σ.2.1 ≤ q := hq
      rw [oput_ne (by omega), oput_ne (by omega)]
      exact hfr q hq
  | none =>
    rw [hg, if_pos rfl, ogd_at (by decide), olet_at] at pre
    generalize hs : onew σ (.inl (.int, (1000 : Int32).toNatClampNeg, .inl (fun _ => 0))) (1000 : Int32).toNatClampNeg = s11 at pre
    have k11 : ∀ q, q ≠ σ.2.1 → s11.1 q = σ.1 q := fun q hq => by rw [← hs]; exact onew_ne hq
    have a11 : s11.1 σ.2.1 = some (.inl (.int, 1000, .inl (fun _ => 0))) := by rw [← hs]; exact onew_eq _ _ _
    have t11 : s11.2 = (σ.2.1 + 1, σ.2.2.1 + 1, σ.2.2.2 + 1000) := by rw [← hs]; rfl
    obtain ⟨⟨fs, h0x, h0'⟩, ⟨h1m, h1'⟩, h7, h8, h9, h10⟩ := id h
    have xl := alt hfr h0x
    have ml := alt hfr h1m
    have vl := alt hfr h7
    have rl := alt hfr h8
    have r11 : s11.1 ra = some (.inl (.array .int, 6, .inr (.inr (.inr (.inr gr))))) := (k11 ra (by omega)).trans h8
    have so : osr s11 (some ra) (nI i) (some σ.2.1) = some (oput s11 ra (.inl (.array .int, 6, .inr (.inr (.inr (.inr (va_up gr i (some σ.2.1)))))))) := by
      simp only [osr, r11, zin_6 hi, a11, if_true, nI_clamp (show i < 2 ^ 31 by omega)]
    have up : ∀ j, va_up gr i (some σ.2.1) j = if j = i then some σ.2.1 else gr j := fun j => rfl
    have M1 : lMv x (oput s11 ra (.inl (.array .int, 6, .inr (.inr (.inr (.inr (va_up gr i (some σ.2.1)))))))) ma va ra fm fv (va_up gr i (some σ.2.1)) := by
      refine ⟨⟨fs, (oput_ne n4.symm).trans ((k11 x (by omega)).trans h0x), h0'⟩, ⟨(oput_ne n5.symm).trans ((k11 ma (by omega)).trans h1m), h1'⟩, (oput_ne n3).trans ((k11 va (by omega)).trans h7), oput_eq _ _ _, fun j c hj e => ?_, fun j k c hj hk e1 e2 => ?_⟩
      · rw [up] at e
        by_cases z : j = i
        · rw [if_pos z] at e
          injection e with e
          subst e
          exact ⟨_, (oput_ne (by omega)).trans a11⟩
        · rw [if_neg z] at e
          obtain ⟨hh, q⟩ := h9 j c hj e
          have cl := alt hfr q
          exact ⟨hh, (oput_ne (n6 j c hj e).2.2.2).trans ((k11 c (by omega)).trans q)⟩
      · rw [up] at e1 e2
        by_cases z1 : j = i
        · by_cases z2 : k = i
          · rw [z1, z2]
          · rw [if_pos z1] at e1
            rw [if_neg z2] at e2
            injection e1 with e1
            obtain ⟨hh, q⟩ := h9 k c hk e2
            have := alt hfr q
            omega
        · by_cases z2 : k = i
          · rw [if_neg z1] at e1
            rw [if_pos z2] at e2
            injection e2 with e2
            obtain ⟨hh, q⟩ := h9 j c hj e1
            have := alt hfr q
            omega
          · rw [if_neg z1] at e1
            rw [if_neg z2] at e2
            exact h10 j k c hj hk e1 e2
    obtain ⟨hz, g1, g2, g3⟩ := go _ _ σ.2.1 M1 (by rw [up, if_pos rfl])
    rw [so, obn_at] at pre
    refine ⟨_, _, σ.2.1, hz, pre.trans g1, g3, ⟨by rw [up, if_pos rfl], Or.inr (Nat.le_refl _)⟩, (oput_ne (by omega)).trans (oput_eq _ _ _), g2, fun j hj => by rw [up, if_neg hj], fun j c hj hji e => ?_, fun q hq a1 a2 a3 => ?_, fun q hq => ?_, ?_, ?_, ?_⟩
    · obtain ⟨hh, q⟩ := h9 j c hj e
      have cl := alt hfr q
      exact (oput_ne (n6 j c hj e).2.2.1).trans ((oput_ne (by omega)).trans ((oput_ne (n6 j c hj e).2.2.2).trans (k11 c (by omega))))
    · exact (oput_ne a1).trans ((oput_ne (by omega)).trans ((oput_ne a2).trans (k11 q (by omega))))
    · have hq : s11.2.1 ≤ q := hq
      rw [t11] at hq
      have hq : σ.2.1 + 1 ≤ q := hq
      rw [oput_ne (by omega), oput_ne (by omega), oput_ne (by omega), k11 q (by omega)]
      exact hfr q (by omega)
    · show σ.2.1 ≤ s11.2.1
      rw [t11]; exact Nat.le_succ _
    · show s11.2.2.1 ≤ _
      rw [t11]; exact Nat.le_refl _
    · show s11.2.2.2 ≤ _
      rw [t11]; exact Nat.le_refl _
end SET
