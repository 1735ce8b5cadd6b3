/-! the class's parser: the rows of QUALS, a QUAL's term -/
/-- the four rows -/
def cRw (A : Nat → Nat) (σ : oSt) (fb fr fz fn : Nat → Int32) : Prop := (σ.1 (A 10) = some (.inl (.int, 6, .inl fb)) ∧ σ.1 (A 11) = some (.inl (.int, 6, .inl fr)) ∧ σ.1 (A 12) = some (.inl (.int, 6, .inl fz)) ∧ σ.1 (A 13) = some (.inl (.int, 6, .inl fn))) ∧ (A 4 < A 10 ∧ A 5 < A 10 ∧ A 6 < A 10 ∧ A 10 < A 11 ∧ A 11 < A 12 ∧ A 12 < A 13)
/-- a QUAL's term: whether - stands first, whether * stands, its NUMBER -/
def aQu (kk : Nat → Int32) (j : Nat) : aR (Bool × Bool × Option (Bool × Nat)) := aR.on (.inr ((), if aIs kk 45 j = true then j + 1 else j)) fun _ j1 =>
  if aIs kk 42 j1 = true then
    (if (aIs kk 45 (j1 + 1) || aIs kk 43 (j1 + 1)) = true then (aMs kk 2 (j1 + 2)).on fun _ j3 => .inr ((aIs kk 45 j, true, some (aIs kk 45 (j1 + 1), j1 + 2)), j3)
    else .inr ((aIs kk 45 j, true, none), j1 + 1))
  else (aMs kk 2 j1).on fun _ j3 => .inr ((aIs kk 45 j, false, some (aIs kk 45 j, j1)), j3)
theorem aQt_u (kk : Nat → Int32) (g r j : Nat) : aQt kk g r j = (aQu kk j).on fun x j3 => (aMs kk 59 j3).on fun _ j4 => .inr ((g, r, x), j4) := by
  unfold aQt aQu
  simp only [aR.on]
  generalize (if aIs kk 45 j = true then j + 1 else j) = j1
  by_cases c : aIs kk 42 j1 = true
  · rw [if_pos c, if_pos c]
    by_cases d : (aIs kk 45 (j1 + 1) || aIs kk 43 (j1 + 1)) = true
    · rw [if_pos d, if_pos d]
      cases aMs kk 2 (j1 + 2) <;> rfl
    · rw [if_neg d, if_neg d]
  · rw [if_neg c, if_neg c]
    cases aMs kk 2 j1 <;> rfl
def zSr (x : Bool × Bool × Option (Bool × Nat)) : Int32 := if x.2.1 = true then sg x.1 else 0
def zNu (T : Nat) (f pp ee : Nat → Int32) (d : Option (Bool × Nat)) : Int32 := match d with
  | none => 0
  | some (g, w) => sg g * nW T (fun j => f j &&& 255) pp ee w
section CRM
variable {κ : oKv} {sz T n m len cnt : Nat} {kk pp ee f : Nat → Int32} {A : Nat → Nat} {nq ni : Int32} {rt : Value} {σ σ' : oSt} {D D' : cDt} {at' cd q : Nat} {cn am bd nf ff : Int32} {s : Sum Nat Nat} {nm nm' : Nat → Option Nat} {ν : nSt} {lo e i : Nat} {fb fr fz fn g : Nat → Int32}
/-- a row of QUALS changed -/
theorem w_row {k : Nat} {v : Int32} (h : cV κ sz len cnt kk pp ee f A nq ni rt σ D at' cd cn am bd nf ff) (hR : σ.1 (A k) = some (.inl (.int, 6, .inl g))) (h4 : A 4 < A k ∧ A 5 < A k ∧ A 6 < A k) (hq : q < 6) : ∃ σ', osi σ (some (A k)) .int (nI q) v = some σ' ∧ cV κ sz len cnt kk pp ee f A nq ni rt σ' D at' cd cn am bd nf ff ∧ σ'.1 (A k) = some (.inl (.int, 6, .inl (upd g q v))) ∧ (∀ a, a ≠ A k → σ'.1 a = σ.1 a) ∧ σ'.2 = σ.2 := by
  have e := osi_at (v := v) hR (zin_n hq (by decide))
  rw [nI_clamp (show q < 2 ^ 31 by omega)] at e
  have lk := alt h.1.1.1 hR
  refine ⟨_, e, ?_, oput_eq _ _ _, fun a ha => oput_ne ha, rfl⟩
  have hh := h
  obtain ⟨⟨⟨a1, a2, a3, a4⟩, ⟨b1, b2, b3, b4, b5, b6, b7⟩, c1, ⟨⟨mc, d1⟩, ⟨mc', d2⟩, d3, d4, d5, d6⟩, e1⟩, h0, -⟩ := h
  refine hh.gn (fun a ha => oput_ne (fun z => ?_)) (oput_ne (fun z => ?_)) (fun a fs ea => ⟨fs, by rw [oput_ne (fun z => by rw [z, hR] at ea; cases ea)]; exact ea⟩) (fun a fs ea => ⟨fs, by rw [oput_ne (fun z => by rw [z, hR] at ea; cases ea)]; exact ea⟩) (fun x hx => by have hx' : σ.2.1 ≤ x := hx; rw [oput_ne (by omega)]; exact a1 x hx) (fun x hx => by rw [oput_ne (fun z => by rw [← z, a2 x hx] at hR; cases hR)]; exact a2 x hx) (Nat.le_refl _)
  · unfold cSt at ha
    rcases ha with y | y | y | y | y | y | y | y | y | y | y
    · rw [← z, y, b1] at hR; cases hR
    · obtain ⟨fs', w⟩ := b2.r
      rw [← z, y, w] at hR; cases hR
    · rcases b2.v with ⟨fs', w⟩ | ⟨x', w⟩
      · rw [← z, y, w] at hR; cases hR
      · rw [← z, y, w] at hR; cases hR
    · omega
    · omega
    · omega
    · rw [← z, y, c1] at hR; cases hR
    · rw [← z, y, d1.1] at hR; cases hR
    · rw [← z, y, d2.1] at hR; cases hR
    · rcases d1.2.1 with ⟨-, -, -, w⟩ | ⟨w, -⟩
      · rw [← z, y, w] at hR; cases hR
      · rw [← z, y, w] at hR; cases hR
    · rcases d2.2.1 with ⟨-, -, -, w⟩ | ⟨w, -⟩
      · rw [← z, y, w] at hR; cases hR
      · rw [← z, y, w] at hR; cases hR
  · rw [z, hR] at h0; cases h0
theorem cRw.k0 (h : cRw A σ fb fr fz fn) {ps : List Value} (h0 : σ.1 (A 0) = some (.inr (9, ps))) (hk : ∀ a, a ≠ A 0 → σ'.1 a = σ.1 a) : cRw A σ' fb fr fz fn := by
  obtain ⟨⟨a1, a2, a3, a4⟩, b⟩ := h
  exact ⟨⟨(hk _ (fun z => by rw [z, h0] at a1; cases a1)).trans a1, (hk _ (fun z => by rw [z, h0] at a2; cases a2)).trans a2, (hk _ (fun z => by rw [z, h0] at a3; cases a3)).trans a3, (hk _ (fun z => by rw [z, h0] at a4; cases a4)).trans a4⟩, b⟩
/-- the NUMBER behind, with a sign -/
theorem c_q78 {gs : Bool} (h : cV κ sz len cnt kk pp ee f A nq ni rt σ D at' cd cn am bd nf ff) (ho : cO pp cnt at' bd s) (hR : cRw A σ fb fr fz fn) (hnq : nq = nI q) (hq : q < 6) (hm : 6 ≤ m) (hT : 2010 ≤ T) : ∃ σ' at2 bd2 fn', oj_X7_readQualTerm_78 T (oF κ T m) κ (some (A 0)) (sg gs) σ = some (none, σ') ∧ cV κ sz len cnt kk pp ee f A nq ni rt σ' D at2 cd cn am bd2 nf ff ∧ cO pp cnt at2 bd2 (aTo s (aMs kk 2)) ∧ (∀ a, a ≠ A 0 → a ≠ A 13 → σ'.1 a = σ.1 a) ∧ σ'.2 = σ.2 ∧ at' ≤ at2 ∧ cRw A σ' fb fr fz fn' ∧ (∀ j, j ≠ q → fn' j = fn j) ∧ (∀ i, s = .inr i → aIs kk 2 i = true → fn' q = sg gs * nW T (fun j => f j &&& 255) pp ee i) := by
  unfold oj_X7_readQualTerm_78
  rw [oob_at h.2.1, obn_at, c_kind (n := m) h ho (by omega), oin_at]
  by_cases c : cK kk s = 2
  · obtain ⟨i, hs, hk⟩ := cK_c (c := 2) c (by decide) (by decide)
    subst hs
    have hat := (ho.at rfl).1
    subst hat
    have hlt := kk_lt h ho.2.2 hk (by decide) (by decide)
    rw [if_pos c]
    have f7 : ofd σ (some (A 0)) 9 7 = some (.ref (A 13)) := by rw [ofd_at h.2.1]; rfl
    have f8 : ofd σ (some (A 0)) 9 8 = some (.int (nI q)) := by rw [ofd_at h.2.1, hnq]; rfl
    have f0 : ofd σ (some (A 0)) 9 0 = some (.ref (A 1)) := by rw [ofd_at h.2.1]; rfl
    have f11 : ofd σ (some (A 0)) 9 11 = some (.int (nI at')) := by rw [ofd_at h.2.1]; rfl
    have b1 := h.1.2.1.1
    have b2 := h.1.2.1.2.1
    have b4 := h.1.2.1.2.2.2.1
    have b5 := h.1.2.1.2.2.2.2.1
    have b6 := h.1.2.1.2.2.2.2.2
    obtain ⟨w1, w2, w3, w4⟩ := h.wl hlt
    obtain ⟨m5, hm5⟩ : ∃ m5, m = m5 + 5 := ⟨m - 5, by omega⟩
    have tv := (b2.tx (by omega)).tv (κ := κ)
    have NV : oF κ T m 110 [va_rf (some (A 1)), .int (nI at')] σ = some (some (.int (nW T (fun j => f j &&& 255) pp ee at')), σ) := by
      rw [hm5, n_num (n := m5) (c := at') (cap := len + 1) b1 b4 b5 tv.tx tv.1 (by omega) (by omega) w1 w2 (by omega) (by omega) (by omega) hT]
      unfold nW
      rw [w1, w2, nI_clamp (show wA pp at' < 2 ^ 31 by omega), nI_clamp (show wA pp at' + wL pp ee at' < 2 ^ 31 by omega)]
    obtain ⟨⟨r1, r2, r3, r4⟩, r5⟩ := hR
    obtain ⟨σ1, x1, v1, e1, k1, z1⟩ := w_row (k := 13) (v := sg gs * nW T (fun j => f j &&& 255) pp ee at') h r4 ⟨by omega, by omega, by omega⟩ hq
    rw [f7, ovr_rf, obn_at, f8, ovi_i, obn_at, f0, ovr_rf, obn_at, f11, ovi_i, obn_at, oob_at b1, obn_at, NV, oin_at, x1, obn_at]
    unfold oj_X7_readQualTerm_108
    obtain ⟨σ2, at2, bd2, y1, v2, o2, q2, z2, k2, y5⟩ := c_expect (κ := κ) (T := T) (k := 2) (n := m) v1 ho (by decide) (by omega)
    have y1' : oF κ T m 108 [va_rf (some (A 0)), .int 2] σ1 = some (none, σ2) := y1
    rw [oob_at v1.2.1, obn_at, y1', ocv_at]
    have R1 : cRw A σ1 fb fr fz (upd fn q (sg gs * nW T (fun j => f j &&& 255) pp ee at')) := ⟨⟨(k1 _ (by omega)).trans r1, (k1 _ (by omega)).trans r2, (k1 _ (by omega)).trans r3, e1⟩, r5⟩
    refine ⟨σ2, at2, bd2, _, rfl, v2, o2, fun a h1 h2 => by rw [k2 a h1, k1 a h2], z2.trans z1, y5, R1.k0 v1.2.1 k2, fun j hj => upd_ne _ _ hj, fun i hi _ => ?_⟩
    injection hi with hi
    subst hi
    exact upd_at _ _ _
  · rw [if_neg c]
    unfold oj_X7_readQualTerm_108
    obtain ⟨σ2, at2, bd2, y1, v2, o2, q2, z2, k2, y5⟩ := c_expect (κ := κ) (T := T) (k := 2) (n := m) h ho (by decide) (by omega)
    have y1' : oF κ T m 108 [va_rf (some (A 0)), .int 2] σ = some (none, σ2) := y1
    rw [oob_at h.2.1, obn_at, y1', ocv_at]
    exact ⟨σ2, at2, bd2, fn, rfl, v2, o2, fun a h1 _ => k2 a h1, z2, y5, hR.k0 h.2.1 k2, fun _ _ => rfl, fun i hi g => absurd (show cK kk s = 2 by rw [hi]; exact of_decide_eq_true g) c⟩
/-- behind the first sign -/
theorem c_q17 {gs : Bool} {F : Nat → aR (Bool × Bool × Option (Bool × Nat))} (hF : ∀ j1, F j1 = if aIs kk 42 j1 = true then (if (aIs kk 45 (j1 + 1) || aIs kk 43 (j1 + 1)) = true then (aMs kk 2 (j1 + 2)).on fun _ j3 => .inr ((gs, true, some (aIs kk 45 (j1 + 1), j1 + 2)), j3) else .inr ((gs, true, none), j1 + 1)) else (aMs kk 2 j1).on fun _ j3 => .inr ((gs, false, some (gs, j1)), j3)) (h : cV κ sz len cnt kk pp ee f A nq ni rt σ D at' cd cn am bd nf ff) (ho : cO pp cnt at' bd s) (hR : cRw A σ fb fr fz fn) (hz : fz q = 0 ∧ fn q = 0) (hnq : nq = nI q) (hq : q < 6) (hm : 6 ≤ m) (hT : 2010 ≤ T) : ∃ σ' at2 bd2 fz' fn', oj_X7_readQualTerm_17 T (oF κ T m) κ (some (A 0)) (sg gs) σ = some (none, σ') ∧ cV κ sz len cnt kk pp ee f A nq ni rt σ' D at2 cd cn am bd2 nf ff ∧ cO pp cnt at2 bd2 (aTo s F) ∧ (∀ a, a ≠ A 0 → a ≠ A 12 → a ≠ A 13 → σ'.1 a = σ.1 a) ∧ σ'.2 = σ.2 ∧ at' ≤ at2 ∧ cRw A σ' fb fr fz' fn' ∧ (∀ j, j ≠ q → fz' j = fz j ∧ fn' j = fn j) ∧ (∀ i x j, s = .inr i → F i = .inr (x, j) → fz' q = zSr x ∧ fn' q = zNu T f pp ee x.2.2) := by
  unfold oj_X7_readQualTerm_17
  rw [oob_at h.2.1, obn_at, c_kind (n := m) h ho (by omega), oin_at]
  by_cases c : cK kk s = 42
  · obtain ⟨i, hs, hk⟩ := cK_c (c := 42) c (by decide) (by decide)
    subst hs
    have hat := (ho.at rfl).1
    subst hat
    have hlt := kk_lt h ho.2.2 hk (by decide) (by decide)
    have hi42 : aIs kk 42 at' = true := decide_eq_true hk
    rw [if_pos c]
    have f6 : ofd σ (some (A 0)) 9 6 = some (.ref (A 12)) := by rw [ofd_at h.2.1]; rfl
    have f8 : ofd σ (some (A 0)) 9 8 = some (.int (nI q)) := by rw [ofd_at h.2.1, hnq]; rfl
    obtain ⟨⟨r1, r2, r3, r4⟩, r5⟩ := hR
    obtain ⟨σ1, x1, v1, e1, k1, z1⟩ := w_row (k := 12) (v := sg gs) h r3 ⟨by omega, by omega, by omega⟩ hq
    rw [f6, ovr_rf, obn_at, f8, ovi_i, obn_at, x1, obn_at, oob_at v1.2.1, obn_at]
    have R1 : cRw A σ1 fb fr (upd fz q (sg gs)) fn := ⟨⟨(k1 _ (by omega)).trans r1, (k1 _ (by omega)).trans r2, e1, (k1 _ (by omega)).trans r4⟩, r5⟩
    obtain ⟨σ2, a2, v2, o2, q2, z2, k2⟩ := w_next (κ := κ) (T := T) (n := m) v1 ho hlt (by omega)
    have R2 := R1.k0 v1.2.1 k2
    have ck : cK kk (.inr (at' + 1)) = kk (at' + 1) := rfl
    rw [a2, ocv_at, oob_at v2.2.1, obn_at, c_kind (n := m) v2 o2 (by omega), oin_at, ck]
    -- a sign and a NUMBER
    have SG : ∀ (gg : Bool), gg = aIs kk 45 (at' + 1) → (aIs kk 45 (at' + 1) || aIs kk 43 (at' + 1)) = true → ∃ σ' at2 bd2 fz' fn', oj_X7_readQualTerm_59 T (oF κ T m) κ (some (A 0)) σ2 = some (none, σ') ∧ cV κ sz len cnt kk pp ee f A nq ni rt σ' D at2 cd cn am bd2 nf ff ∧ cO pp cnt at2 bd2 (aTo (.inr at') F) ∧ (∀ a, a ≠ A 0 → a ≠ A 12 → a ≠ A 13 → σ'.1 a = σ.1 a) ∧ σ'.2 = σ.2 ∧ at' ≤ at2 ∧ cRw A σ' fb fr fz' fn' ∧ (∀ j, j ≠ q → fz' j = fz j ∧ fn' j = fn j) ∧ (∀ i x j, (Sum.inr at' : Sum Nat Nat) = .inr i → F i = .inr (x, j) → fz' q = zSr x ∧ fn' q = zNu T f pp ee x.2.2) := fun gg hgg hor => by
      unfold oj_X7_readQualTerm_59
      rw [oob_at v2.2.1, obn_at, c_kind (n := m) v2 o2 (by omega), oin_at, ck]
      have hlt2 : at' + 1 < cnt := by
        rw [Bool.or_eq_true] at hor
        rcases hor with y | y
        · exact kk_lt v2 o2.2.2 (of_decide_eq_true y) (by decide) (by decide)
        · exact kk_lt v2 o2.2.2 (of_decide_eq_true y) (by decide) (by decide)
      obtain ⟨σ3, a3, v3, o3, q3, z3, k3⟩ := w_next (κ := κ) (T := T) (n := m) v2 o2 hlt2 (by omega)
      have R3 := R2.k0 v2.2.1 k3
      obtain ⟨σ4, at4, bd4, fn4, b1, v4, o4, k4, z4, b5, R4, b6, b7⟩ := c_q78 (κ := κ) (T := T) (m := m) (gs := gg) v3 o3 R3 hnq hq hm hT
      have EQ : (if kk (at' + 1) = 43 then oj_X7_readQualTerm_73 T (oF κ T m) κ (some (A 0)) 1 σ2 else oj_X7_readQualTerm_73 T (oF κ T m) κ (some (A 0)) (-1) σ2) = some (none, σ4) := by
        by_cases c43 : kk (at' + 1) = 43
        · rw [if_pos c43]
          have g0 : gg = false := by
            rw [hgg, Bool.eq_false_iff]
            exact fun z => absurd ((of_decide_eq_true z : kk (at' + 1) = nI 45).symm.trans c43) (by decide)
          unfold oj_X7_readQualTerm_73
          rw [oob_at v2.2.1, obn_at, a3, ocv_at]
          rw [g0] at b1
          exact b1
        · rw [if_neg c43]
          have g1 : gg = true := by
            rw [Bool.or_eq_true] at hor
            rcases hor with y | y
            · rw [hgg]; exact y
            · exact absurd (of_decide_eq_true y) c43
          unfold oj_X7_readQualTerm_73
          rw [oob_at v2.2.1, obn_at, a3, ocv_at]
          rw [g1] at b1
          exact b1
      have eF : F at' = (aMs kk 2 (at' + 2)).on fun _ j3 => .inr ((gs, true, some (aIs kk 45 (at' + 1), at' + 2)), j3) := by rw [hF, if_pos hi42, if_pos hor]
      have st : aTo (.inr at') F = aTo (.inr (at' + 2)) (aMs kk 2) := by
        rw [aTo_ok, aTo_ok, eF]
        cases aMs kk 2 (at' + 2) <;> rfl
      refine ⟨σ4, at4, bd4, _, fn4, EQ, v4, by rw [st]; exact o4, fun a h1 h2 h3 => by rw [k4 a h1 h3, k3 a h1, k2 a h1, k1 a h2], (z4.trans (z3.trans (z2.trans z1))), by omega, R4, fun j hj => ⟨upd_ne _ _ hj, b6 j hj⟩, fun i x j hi hx => ?_⟩
      injection hi with hi
      subst hi
      rw [eF] at hx
      obtain ⟨_, j3, h1, hx⟩ := on_inr hx
      injection hx with hx
      injection hx with hx1 hx2
      subst hx1
      refine ⟨upd_at _ _ _, ?_⟩
      rw [b7 (at' + 2) rfl (aMs_inr h1).1, hgg]
      rfl
    by_cases c43 : aIs kk 43 (at' + 1) = true
    · rw [if_pos (show kk (at' + 1) = 43 from of_decide_eq_true c43)]
      exact SG _ rfl (by rw [c43, Bool.or_true])
    rw [if_neg (show ¬ kk (at' + 1) = 43 from fun z => c43 (decide_eq_true z)), oob_at v2.2.1, obn_at, c_kind (n := m) v2 o2 (by omega), oin_at, ck]
    by_cases c45 : aIs kk 45 (at' + 1) = true
    · rw [if_pos (show kk (at' + 1) = 45 from of_decide_eq_true c45)]
      exact SG _ rfl (by rw [c45, Bool.true_or])
    rw [if_neg (show ¬ kk (at' + 1) = 45 from fun z => c45 (decide_eq_true z))]
    have eF : F at' = .inr ((gs, true, none), at' + 1) := by rw [hF, if_pos hi42, if_neg (by rw [Bool.or_eq_true]; exact fun z => z.elim c45 c43)]
    refine ⟨σ2, at' + 1, bd, _, fn, rfl, v2, by rw [aTo_ok, eF]; exact o2, fun a h1 h2 _ => by rw [k2 a h1, k1 a h2], z2.trans z1, Nat.le_succ _, R2, fun j hj => ⟨upd_ne _ _ hj, rfl⟩, fun i x j hi hx => ?_⟩
    injection hi with hi
    subst hi
    rw [eF] at hx
    injection hx with hx
    injection hx with hx1 hx2
    subst hx1
    exact ⟨upd_at _ _ _, hz.2⟩
  · rw [if_neg c]
    have n42 : ∀ i, s = .inr i → ¬ aIs kk 42 i = true := fun i hi z => c (by rw [hi]; exact of_decide_eq_true z)
    have eF : ∀ i, s = .inr i → F i = (aMs kk 2 i).on fun _ j3 => .inr ((gs, false, some (gs, i)), j3) := fun i hi => by rw [hF, if_neg (n42 i hi)]
    have st : aTo s F = aTo s (aMs kk 2) := by
      cases s with
      | inl j => rfl
      | inr i =>
        rw [aTo_ok, aTo_ok, eF i rfl]
        cases aMs kk 2 i <;> rfl
    obtain ⟨σ4, at4, bd4, fn4, b1, v4, o4, k4, z4, b5, R4, b6, b7⟩ := c_q78 (κ := κ) (T := T) (m := m) (gs := gs) h ho hR hnq hq hm hT
    refine ⟨σ4, at4, bd4, fz, fn4, b1, v4, by rw [st]; exact o4, fun a h1 _ h3 => k4 a h1 h3, z4, b5, R4, fun j hj => ⟨rfl, b6 j hj⟩, fun i x j hi hx => ?_⟩
    rw [eF i hi] at hx
    obtain ⟨_, j3, h1, hx⟩ := on_inr hx
    injection hx with hx
    injection hx with hx1 hx2
    subst hx1
    exact ⟨hz.1, b7 i hi (aMs_inr h1).1⟩
/-- readQualTerm -/
theorem c_qterm (h : cV κ sz len cnt kk pp ee f A nq ni rt σ D at' cd cn am bd nf ff) (ho : cO pp cnt at' bd s) (hR : cRw A σ fb fr fz fn) (hz : fz q = 0 ∧ fn q = 0) (hnq : nq = nI q) (hq : q < 6) (hm : 6 ≤ m) (hT : 2010 ≤ T) : ∃ σ' at2 bd2 fz' fn', oF κ T (m + 1) 111 [va_rf (some (A 0))] σ = some (none, σ') ∧ cV κ sz len cnt kk pp ee f A nq ni rt σ' D at2 cd cn am bd2 nf ff ∧ cO pp cnt at2 bd2 (aTo s (aQu kk)) ∧ (∀ a, a ≠ A 0 → a ≠ A 12 → a ≠ A 13 → σ'.1 a = σ.1 a) ∧ σ'.2 = σ.2 ∧ at' ≤ at2 ∧ cRw A σ' fb fr fz' fn' ∧ (∀ j, j ≠ q → fz' j = fz j ∧ fn' j = fn j) ∧ (∀ i x j, s = .inr i → aQu kk i = .inr (x, j) → fz' q = zSr x ∧ fn' q = zNu T f pp ee x.2.2) := by
  rw [oE_X7_readQualTerm]
  unfold ob_X7_readQualTerm
  rw [oob_at h.2.1, obn_at, c_kind (n := m) h ho (by omega), oin_at]
  by_cases c : cK kk s = 45
  · obtain ⟨i, hs, hk⟩ := cK_c (c := 45) c (by decide) (by decide)
    subst hs
    have hat := (ho.at rfl).1
    subst hat
    have hlt := kk_lt h ho.2.2 hk (by decide) (by decide)
    have hi45 : aIs kk 45 at' = true := decide_eq_true hk
    obtain ⟨σ1, a1, v1, o1, q1, z1, k1⟩ := w_next (κ := κ) (T := T) (n := m) h ho hlt (by omega)
    rw [if_pos c, oob_at h.2.1, obn_at, a1, ocv_at]
    obtain ⟨σ2, at2, bd2, fz2, fn2, b1, v2, o2, k2, z2, b5, R2, b6, b7⟩ := c_q17 (κ := κ) (T := T) (m := m) (gs := true) (F := fun j1 => if aIs kk 42 j1 = true then (if (aIs kk 45 (j1 + 1) || aIs kk 43 (j1 + 1)) = true then (aMs kk 2 (j1 + 2)).on fun _ j3 => .inr ((true, true, some (aIs kk 45 (j1 + 1), j1 + 2)), j3) else .inr ((true, true, none), j1 + 1)) else (aMs kk 2 j1).on fun _ j3 => .inr ((true, false, some (true, j1)), j3)) (fun _ => rfl) v1 o1 (hR.k0 h.2.1 k1) hz hnq hq hm hT
    have eQ : aQu kk at' = (fun j1 => if aIs kk 42 j1 = true then (if (aIs kk 45 (j1 + 1) || aIs kk 43 (j1 + 1)) = true then (aMs kk 2 (j1 + 2)).on fun _ j3 => .inr ((true, true, some (aIs kk 45 (j1 + 1), j1 + 2)), j3) else .inr ((true, true, none), j1 + 1)) else (aMs kk 2 j1).on fun _ j3 => .inr ((true, false, some (true, j1)), j3) : Nat → aR (Bool × Bool × Option (Bool × Nat))) (at' + 1) := by
      unfold aQu
      rw [hi45, if_pos rfl]
      rfl
    refine ⟨σ2, at2, bd2, fz2, fn2, b1, v2, by rw [aTo_ok, eQ]; exact o2, fun a h1 h2 h3 => by rw [k2 a h1 h2 h3, k1 a h1], z2.trans z1, by omega, R2, b6, fun i x j hi hx => ?_⟩
    injection hi with hi
    subst hi
    rw [eQ] at hx
    exact b7 (at' + 1) x j rfl hx
  · rw [if_neg c]
    obtain ⟨σ2, at2, bd2, fz2, fn2, b1, v2, o2, k2, z2, b5, R2, b6, b7⟩ := c_q17 (κ := κ) (T := T) (m := m) (gs := false) (F := fun j1 => if aIs kk 42 j1 = true then (if (aIs kk 45 (j1 + 1) || aIs kk 43 (j1 + 1)) = true then (aMs kk 2 (j1 + 2)).on fun _ j3 => .inr ((false, true, some (aIs kk 45 (j1 + 1), j1 + 2)), j3) else .inr ((false, true, none), j1 + 1)) else (aMs kk 2 j1).on fun _ j3 => .inr ((false, false, some (false, j1)), j3)) (fun _ => rfl) h ho hR hz hnq hq hm hT
    have eQ : ∀ i, s = .inr i → aQu kk i = (fun j1 => if aIs kk 42 j1 = true then (if (aIs kk 45 (j1 + 1) || aIs kk 43 (j1 + 1)) = true then (aMs kk 2 (j1 + 2)).on fun _ j3 => .inr ((false, true, some (aIs kk 45 (j1 + 1), j1 + 2)), j3) else .inr ((false, true, none), j1 + 1)) else (aMs kk 2 j1).on fun _ j3 => .inr ((false, false, some (false, j1)), j3) : Nat → aR (Bool × Bool × Option (Bool × Nat))) i := fun i hi => by
      have n45 : aIs kk 45 i = false := by rw [Bool.eq_false_iff]; exact fun z => c (by rw [hi]; exact of_decide_eq_true z)
      unfold aQu
      rw [n45, if_neg (by decide)]
      rfl
    have st : aTo s (aQu kk) = aTo s (fun j1 => if aIs kk 42 j1 = true then (if (aIs kk 45 (j1 + 1) || aIs kk 43 (j1 + 1)) = true then (aMs kk 2 (j1 + 2)).on fun _ j3 => .inr ((false, true, some (aIs kk 45 (j1 + 1), j1 + 2)), j3) else .inr ((false, true, none), j1 + 1)) else (aMs kk 2 j1).on fun _ j3 => .inr ((false, false, some (false, j1)), j3) : Nat → aR (Bool × Bool × Option (Bool × Nat))) := by
      cases s with
      | inl j => rfl
      | inr i => rw [aTo_ok, aTo_ok, eQ i rfl]
    exact ⟨σ2, at2, bd2, fz2, fn2, b1, v2, by rw [st]; exact o2, k2, z2, b5, R2, b6, fun i x j hi hx => b7 i x j hi ((eQ i hi).symm.trans hx)⟩
end CRM
