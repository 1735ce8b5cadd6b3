/-! the class's gather(): fit() as a whole -/
section GFI
variable {κ : oKv} {T : Nat} {st : Nat} {l : Nat → Nat} {b0 : Nat} {nq : tQ → Int} {xs : List tQ} {CN : Nat → gCd → Prop} {ch g0 : Nat} {Ψ : kGh} {Dn : Nat → Prop} {cf : List Value} {Γ : uGm} {C Bd : Int} {rt : Nat → gTm} {tN : Nat → tY}
theorem gTf_no {A2 : List (gN × gTe)} {x : gN} (h : ∀ p, p ∈ A2 → p.1 ≠ x) : gTf A2 x = none := by
  unfold gTf
  rw [List.find?_eq_none.mpr (fun p hp => by simpa using h p hp)]
  rfl
theorem wfT.no {S : List gN} {A : gTy} {m : gTm} (h : wfT Γ C Bd rt S A) (e : A.1 = .inr m) : gTf A.2 (mPn m) = none ∧ m.2.1.length + yDp m.2.2.1 ≤ 100 := by
  unfold wfT at h
  rw [e] at h
  refine ⟨gTf_no (fun p hp z => ?_), h.1.2.2.1⟩
  have := (h.2.1.2 p hp).1
  rw [z] at this
  exact h.1.2.1.nm this
theorem fCn_0 (a b : tY) : fCn (.inner 0 () () a b) = (if gMs a = true then 13 else 4) + fCn a + fCn b := rfl
theorem fCp_0 (a b : tY) (p q : Nat) : fCp (.inner 0 () () a b) p q = if gMs a = true then 54 + t15 p + t15 q + 2 * p + 2 * q + fCp a q p + fCp b (p + 1) (q + 1) else 2 * t15 p + 2 * t15 q + fCp a q p + fCp b p q := rfl
theorem kRl.pq {σ : oSt} {Ψ : kGh} {E : gN → Nat → Prop} {k : Nat} {A : gTy} (h : kRl st l b0 nq xs Ψ σ E k A) : kRp st l b0 nq xs Ψ σ E k A (gDq A) := by
  cases e : A.1 with
  | inl x =>
    unfold kRl at h
    unfold kRp
    rw [e] at h ⊢
    exact h
  | inr m => exact h.p e (by unfold gDq; rw [e])
theorem gDq_tk {A : gTy} {m : gTm} (e : A.1 = .inr m) : gDq A = m.2.1.count true ∧ gDq (gTk A) = m.2.1.count true ∧ gDq (gAn A) = m.2.1.count true + 1 := by
  refine ⟨by unfold gDq; rw [e], ?_, ?_⟩
  · unfold gDq gTk
    rw [e]
    show (m.2.1 ++ [false]).count true = _
    rw [List.count_append]; rfl
  · unfold gDq gAn
    rw [e]
    show (m.2.1 ++ [true]).count true = _
    rw [List.count_append]; rfl
set_option maxHeartbeats 2000000 in
/-- **fit()**: its loop -/
theorem c_fitL (hT : 2010 ≤ T) (hQ : rtQ Γ rt) (hC : 0 ≤ C) (hDn : ∀ a, g0 ≤ a → Dn a) : ∀ (y : tY) (A B : gTy) (sc : List gEn) (Sc : List sEn) (s : Option Nat) (Es : List (gN × Nat)) (ka kb i t n : Nat) (σ : oSt) (ln : Nat → Nat) (ct : Nat → Nat → Option Nat) (cs : Nat) (Fs : List gFit) (p q : Nat), gSy A = y → gSy B = y → yW y → wfT Γ C Bd rt (nmS sc) A → wfT Γ C Bd rt (nmS sc) B → (∃ m, B.1 = .inr m ∧ m.2.2.2.1 = []) → scW Γ C Bd rt tN (scN sc) → (∀ k p, Sum.inr (k, p) ∈ nmS sc → ySz y < ySz (mGo (rt k) p).2.2.1) → i + yDp y ≤ 60 → yDp y < t → 7 + yDp y ≤ n → g0 ≤ σ.2.1 → scR st l b0 nq xs Ψ σ CN Sc s sc Es → (∀ a, Sum.inl a ∈ Sc → Dn a) → kRp st l b0 nq xs Ψ σ (fun y b => (y, b) ∈ Es) ka A p → kRp st l b0 nq xs Ψ σ (fun y b => (y, b) ∈ Es) kb B q → ln 0 + yLs y + 1 ≤ 12100 → gaS κ st l b0 nq xs CN ch Ψ Dn cf σ ln ct cs Fs → ∃ σ' ln' ct' cs', ol_X0_fit_12 T (oF κ T n) κ t (some ch) (some ka) (some kb) s (nI i) σ = some (none, σ') ∧ gaS κ st l b0 nq xs CN ch Ψ Dn cf σ' ln' ct' cs' (Fs ++ gFi y A B sc) ∧ (∀ W, gKp st l b0 W σ σ') ∧ gCs cs cs' σ σ' (fCn y) (fCp y p q) ∧ lXp l σ σ' ∧ (ln' 3 = ln 3 ∧ ct' 3 = ct 3 ∧ ln' 0 ≤ ln 0 + yLs y) := by
  intro y
  induction y with
  | leaf =>
    intro A B sc Sc s Es ka kb i t n σ ln ct cs Fs p q _ _ hw
    cases hw
  | inner k u v a b IHa IHb =>
    cases u
    cases v
    intro A B sc Sc s Es ka kb i t n σ ln ct cs Fs p q eA eB hw wA wB hB hsc hz hi ht hn hg hS hD kA kB hl G
    obtain ⟨mB, fB, nB⟩ := hB
    obtain ⟨t, rfl⟩ : ∃ t', t = t' + 1 := ⟨t - 1, by omega⟩
    obtain ⟨n, rfl⟩ : ∃ n', n = n' + 6 := ⟨n - 6, by omega⟩
    obtain ⟨wa, Ga, qa⟩ := kA.rl.kd
    obtain ⟨wb, Gb, qb⟩ := kB.rl.kd
    rw [eA] at qa
    rw [eB] at qb
    obtain ⟨fa, ga, ia, a1, a0, -⟩ := qa.f
    obtain ⟨fb, gb, ib, b1, b0', -⟩ := qb.f
    have i60 : ¬ (60 : Int32) < nI i := fun z => by
      have := nI_le (a := i) (b := 60) (by omega) (by omega)
      exact absurd (Int32.lt_of_lt_of_le z this) (Int32.lt_irrefl)
    rw [ol_X0_fit_12, if_neg i60, ofd_at a1, a0, ovi_i, obn_at]
    by_cases zk : k = 0
    case neg =>
      rw [if_neg (fun e => zk (by have e : k + 1 = 1 := (cKd_206 hw).mp e; omega))]
      have yl1 : yLs (.inner k () () a b) ≤ 1 := by unfold yLs; rw [if_neg zk]; split <;> omega
      obtain ⟨σ', ln', ct', cs', r1, r2, r3, r4, r4x, r5⟩ := c_fit0 (T := T) (n := n) (ka := ka) (kb := kb) (A := A) eB zk hw ⟨mB, fB⟩ hS hD kA.rl kB.rl (by omega) G
      exact ⟨σ', ln', ct', cs', r1, r2, r3, r4.mo (Nat.zero_le _) (Nat.zero_le _), r4x, r5⟩
    case pos =>
    subst zk
    have hwab : yW a ∧ yW b := by
      have h := hw
      unfold yW at h
      rw [if_pos rfl] at h
      exact h
    have kAk : yK (gSy A) = 1 := by rw [eA]; rfl
    have kBk : yK (gSy B) = 1 := by rw [eB]; rfl
    obtain ⟨mA, fA, -⟩ := wA.fn kAk
    have yA : mA.2.2.1 = .inner 0 () () a b := by unfold gSy at eA; rw [fA] at eA; exact eA
    have yB : mB.2.2.1 = .inner 0 () () a b := by unfold gSy at eB; rw [fB] at eB; exact eB
    have sA : gSy (gTk A) = a ∧ gSy (gAn A) = b := by have := gSy_tk fA; rw [eA] at this; exact this
    have sB : gSy (gTk B) = a ∧ gSy (gAn B) = b := by have := gSy_tk fB; rw [eB] at this; exact this
    have lA : yL (gSy A) = a := by rw [eA]; rfl
    have lB : yL (gSy B) = a := by rw [eB]; rfl
    have sz : ySz (.inner 0 () () a b) = ySz a + ySz b + 1 := rfl
    rw [sz] at hz
    have dp : yDp (.inner 0 () () a b) = max (yDp a) (yDp b) + 1 := rfl
    rw [dp] at hi ht hn
    have ls : yLs (.inner 0 () () a b) = yLs a + yLs b := rfl
    rw [ls] at hl
    obtain ⟨nA, dA⟩ := wA.no fA
    obtain ⟨nB', dB⟩ := wB.no fB
    have pA : gPn A = mPn mA := by unfold gPn; rw [fA]
    have pB : gPn B = mPn mB := by unfold gPn; rw [fB]
    have pB' : gPn B = .inr (mB.1, mB.2.1) := by rw [pB]; unfold mPn; rw [nB]
    have e206 : cKd (yK (.inner 0 () () a b : tY)) = 206 := by show cKd 1 = 206; decide
    rw [if_pos e206, ofd_at b1, b0', ovi_i, obn_at, if_pos e206, oob_at b1, obn_at]
    have iv := G.1
    -- taken() of both
    obtain ⟨σ1, k1, d1, s1, R1, O1, N1, d13, s15, K1⟩ := c_tkP (κ := κ) (T := T) (n := n + 4) fB yB kB iv
    have kp1 := iv.kp (W := fun _ => False) O1 N1
    rw [R1, orn_at]
    have kA1 := kA.sp kp1 (gAg.rf _ _) iv.1
    have kB1 := kB.sp kp1 (gAg.rf _ _) iv.1
    have a11 := kp1.ob a1 (by decide) (by decide) (by decide) (by decide)
    rw [oob_at a11, obn_at]
    have G1 := G.nw O1 N1
    obtain ⟨σ2, k2, d2, s2, R2, O2, N2, d23, s25, K2⟩ := c_tkP (κ := κ) (T := T) (n := n + 4) fA yA kA1 G1.1
    have kp2 := G1.1.kp (W := fun _ => False) O2 N2
    rw [R2, orn_at]
    have G2 := G1.nw O2 N2
    have kp02 : ∀ W, gKp st l b0 W σ σ2 := fun W => ((iv.kp O1 N1).tr (G1.1.kp O2 N2))
    rw [oob_at G2.2.2.2.1.1, obn_at]
    -- what they take
    have K1' := K1.sp kp2 (gAg.rf _ _) G1.1.1
    have hS2 := hS.sp (kp02 (fun _ => False)) (gAg.rf _ _) iv.1 Sc s sc Es (fun _ _ z => z)
    have nTk : ∃ m, (gTk A).1 = .inr m ∧ m.2.2.2.1 = [] := ⟨mTk mA, by unfold gTk; rw [fA], rfl⟩
    have nx2 : σ2.2.1 = σ.2.1 + d1 + d2 := by rw [O2.nx, O1.nx]
    obtain ⟨σ3, ln3, ct3, cs3, R3, G3, kp3, c3, x3, u3⟩ := IHa (gTk B) (gTk A) sc Sc s Es k1 k2 0 T (n + 5) σ2 ln ct cs Fs q p sB.1 sA.1 hwab.1 (wB.tk kBk) (wA.tk kAk) nTk hsc (fun k p h => by have := hz k p h; omega) (by omega) (by omega) (by omega) (by omega) hS2 hD K1' K2 (by omega) G2
    have R3' : oF κ T (n + 6) 12 [va_rf (some ch), va_rf (some k1), va_rf (some k2), va_rf s] σ2 = some (none, σ3) := by
      rw [oE_X0_fit]
      exact R3
    rw [R3', ocv_at]
    have kp03 : ∀ W, gKp st l b0 W σ σ3 := fun W => (kp02 W).tr (kp3 W)
    have kA3 := kA.sp (kp03 (fun _ => False)) (gAg.rf _ _) iv.1
    have kB3 := kB.sp (kp03 (fun _ => False)) (gAg.rf _ _) iv.1
    have hS3 := hS.sp (kp03 (fun _ => False)) (gAg.rf _ _) iv.1 Sc s sc Es (fun _ _ z => z)
    have K13 := K1'.sp (kp3 (fun _ => False)) (gAg.rf _ _) G2.1.1
    have iv3 := G3.1
    have a13 := (kp03 (fun _ => False)).ob a1 (by decide) (by decide) (by decide) (by decide)
    have kB3' := kB3.rl
    unfold kRl at kB3'
    rw [fB] at kB3'
    obtain ⟨o1, o2, GB, o3, o4, o5⟩ := kB3'
    obtain ⟨⟨⟨fw, gs, w1, ⟨w2, w3, w4, w7⟩, w5, w51, w52⟩, w6⟩, -, -⟩ := o2.fn yB
    obtain ⟨fb3, gb3, ib3, b13, b03, b23, -⟩ := o3.f
    rw [ofd_at b13, b23, ovr_rf, obn_at, ofd_at w1, w2, ovr_rf, obn_at, oob_at w5, obn_at, c_meas w5 w52.1, oin_at, isM_g hwab.1]
    have en : nmS (gNm (gPn B) (gTk B) sc) = if gMs a = true then gPn B :: nmS sc else nmS sc := by rw [nmS_nm, sB.1]
    have eS : scN (gNm (gPn B) (gTk B) sc) = if gMs a = true then (gPn B, gTk B) :: scN sc else scN sc := by rw [scN_nm, sB.1]
    have gB : mB = mGo (rt mB.1) mB.2.1 := by
      unfold wfT at wB
      rw [fB] at wB
      exact wB.1.1
    have u1 : uNm Γ (gPn B) := by
      have := hQ mB.1 mB.2.1 (by rw [← gB, yB]; rfl)
      rw [← gB] at this
      rw [pB]
      exact this
    have new : gPn B ∉ nmS sc := fun h => by
      rw [pB'] at h
      have := hz _ _ h
      rw [← gB, yB, sz] at this
      omega
    have sub : ∀ s, s ∈ nmS sc → s ∈ nmS (gNm (gPn B) (gTk B) sc) := fun s hs => by
      rw [en]
      split
      · exact List.mem_cons_of_mem _ hs
      · exact hs
    have own : gMs a = true → gPn B ∈ nmS (gNm (gPn B) (gTk B) sc) := fun h => by rw [en, if_pos h]; exact List.mem_cons_self ..
    have hw' : scW Γ C Bd rt tN (scN (gNm (gPn B) (gTk B) sc)) := by
      rw [eS]
      split
      · rename_i gl
        exact ⟨new, u1, ⟨wB.tk kBk, by rw [sB.1]; exact gl, by
          rw [sB.1, pB']
          show a = yL (mGo (rt mB.1) mB.2.1).2.2.1
          rw [← gB, yB]
          rfl, fun kp e => by
          rw [pB'] at e
          injection e with e
          rw [← e]
          show yK (mGo (rt mB.1) mB.2.1).2.2.1 = 1
          rw [← gB, yB]
          rfl⟩, hsc⟩
      · exact hsc
    have wB' : wfT Γ C Bd rt (nmS (gNm (gPn B) (gTk B) sc)) (gAn B) := wB.an hQ kBk sub (fun h => own (by rw [lB] at h; exact h))
    have nAn : ∃ m, (gAn B).1 = .inr m ∧ m.2.2.2.1 = [] := ⟨mAn mB, by unfold gAn; rw [fB], by show mB.2.2.2.1.tail = []; rw [nB]; rfl⟩
    have hz' : ∀ k p, Sum.inr (k, p) ∈ nmS (gNm (gPn B) (gTk B) sc) → ySz b < ySz (mGo (rt k) p).2.2.1 := fun k p h => by
      rw [en] at h
      have : Sum.inr (k, p) ∈ nmS sc ∨ Sum.inr (k, p) = gPn B := by
        split at h
        · exact (List.mem_cons.mp h).symm
        · exact Or.inl h
      rcases this with h | h
      · have := hz k p h; omega
      · rw [pB'] at h
        injection h with h
        injection h with h1 h2
        rw [h1, h2, ← gB, yB, sz]
        omega
    have eFi : gFi (.inner 0 () () a b) A B sc = gFi a (gTk B) (gTk A) sc ++ gFi b (if gMs a = true ∧ gPn A ≠ gPn B then gPu (gAn A) (gPn A) (some (gPn B, 1), 0) else gAn A) (gAn B) (gNm (gPn B) (gTk B) sc) := rfl
    have c03 : gCs cs cs3 σ σ3 (d1 + d2 + fCn a) (s1 + s2 + fCp a q p) := ((O1.cs cs).tr (O2.cs cs)).tr c3
    rw [eFi, fCn_0, fCp_0, ls]
    cases hm : gMs a with
    | false =>
      rw [show b01 false = 0 from rfl, if_pos rfl, if_neg (show ¬ (false = true) by decide)]
      unfold oj_X0_fit_122
      rw [oob_at a13, obn_at]
      have nf : ∀ {P : Prop}, gMs a = true → P := fun h => by rw [hm] at h; cases h
      obtain ⟨σ4, k4, d4, s4, R4, O4, N4, d43, s45, K4⟩ := c_an0P (κ := κ) (T := T) (n := n + 4) (E := fun y b => (y, b) ∈ Es) fA yA kA3 (fun h => nf h) iv3
      rw [R4, orn_at]
      have kp4 := iv3.kp (W := fun _ => False) O4 N4
      have G4 := G3.nw O4 N4
      have kB4 := kB3.sp kp4 (gAg.rf _ _) iv3.1
      rw [oob_at (kp4.ob b13 (by decide) (by decide) (by decide) (by decide)), obn_at]
      obtain ⟨σ5, k5, d5, s5, R5, O5, N5, d53, s55, K5⟩ := c_an0P (κ := κ) (T := T) (n := n + 4) (E := fun y b => (y, b) ∈ Es) fB yB kB4 (fun h => nf h) G4.1
      rw [R5, orn_at, nI_p1]
      have kp5 := G4.1.kp (W := fun _ => False) O5 N5
      have G5 := G4.nw O5 N5
      have esc : gNm (gPn B) (gTk B) sc = sc := by unfold gNm; rw [sB.1, hm]; rfl
      have eif : (if false = true ∧ gPn A ≠ gPn B then gPu (gAn A) (gPn A) (some (gPn B, 1), 0) else gAn A) = gAn A := if_neg (fun z => by cases z.1)
      rw [eif]
      rw [esc] at wB' hw' hz' sub ⊢
      have hS5 := (hS3.sp kp4 (gAg.rf _ _) iv3.1 Sc s sc Es (fun _ _ z => z)).sp kp5 (gAg.rf _ _) G4.1.1 Sc s sc Es (fun _ _ z => z)
      obtain ⟨σ6, ln6, ct6, cs6, R6, G6, kp6, c6, x6, u6⟩ := IHb (gAn A) (gAn B) sc Sc s Es k4 k5 (i + 1) t (n + 6) σ5 ln3 ct3 cs3 _ p q sA.2 sB.2 hwab.2 (wA.an hQ kAk sub (fun h => by rw [lA] at h; exact nf h)) wB' nAn hw' hz' (by omega) (by omega) (by omega) (by rw [O5.nx, O4.nx]; have := (kp03 (fun _ => False)).2.2.2; omega) hS5 hD (K4.sp kp5 (gAg.rf _ _) G4.1.1) K5 (by omega) G5
      refine ⟨σ6, ln6, ct6, cs6, R6, by rw [← List.append_assoc]; exact G6, fun W => (((kp03 W).tr (iv3.kp O4 N4)).tr (G4.1.kp O5 N5)).tr (kp6 W), ?_, ((((O1.xp iv N1).tr (O2.xp G1.1 N2)).tr x3).tr ((O4.xp iv3 N4).tr (O5.xp G4.1 N5))).tr x6, u6.1.trans u3.1, u6.2.1.trans u3.2.1, by omega⟩
      have tp := t15_le p
      have tq := t15_le q
      exact (((c03.tr (O4.cs cs3)).tr (O5.cs cs3)).tr c6).mo (by omega) (by rw [if_neg (show ¬ (false = true) by decide)]; omega)
    | true =>
      rw [hm] at en eS own
      simp only [if_true] at en eS own
      rw [show b01 true = 1 from rfl, if_neg (by decide), olet_at, if_pos (show true = true by rfl)]
      have k1f : ∃ f1, σ3.1 k1 = some (.inr (4, f1)) ∧ f1[0]? = some (.int (cKd (yK a))) := by
        obtain ⟨w, GG, q⟩ := K13.rl.kd
        rw [sB.1] at q
        obtain ⟨f1, g1, i1, q1, q0, -⟩ := q.f
        exact ⟨f1, q1, q0⟩
      obtain ⟨f1, k11, k10⟩ := k1f
      have ne : ∀ {x cc}, σ3.1 x = some cc → x ≠ σ3.2.1 := fun h e => by rw [e, iv3.1 _ (Nat.le_refl _)] at h; cases h
      rw [ofd_at ((onew_ne (ne k11)).trans k11), k10, ovi_i, obn_at, obn_at, c_nm7, ocv_at, opf_at (onew_eq _ _ _) (by simp), obn_at, onew_put]
      -- the new NAME
      generalize eN : onew σ3 (.inr (6, [va_rf none, .int 0, .int 0, .int (cKd (yK a)), .null, .null, .int 0, .int 0].set 4 (va_rf (some k1)))) 8 = σ4
      have O4 : oNl σ3 σ4 1 8 := by rw [← eN]; exact oNl.new iv3.1
      have n4 : σ4.1 σ3.2.1 = some (.inr (6, [va_rf none, .int 0, .int 0, .int (cKd (yK a)), .ref k1, .null, .int 0, .int 0])) := by rw [← eN, onew_eq]; rfl
      have N4 : oN6 σ3 σ4 := fun x fs hx e => by
        by_cases z : x = σ3.2.1
        · rw [z, n4] at e
          injection e with e
          injection e with e
          injection e with _ e
          rw [← e]
          exact ⟨rfl, rfl⟩
        · rw [← eN, onew_ne z, iv3.1 x hx] at e; cases e
      have G4 := G3.nw O4 N4
      have kp4 := iv3.kp (W := fun _ => False) O4 N4
      rw [olet_at, obn_at, c_sc2, ocv_at]
      -- the new Scope
      generalize eC : onew σ4 (.inr (10, [.ref σ3.2.1, va_rf none, .int 0, va_rf s])) 4 = σ5
      have O5 : oNl σ4 σ5 1 4 := by rw [← eC]; exact oNl.new G4.1.1
      have n5 : σ5.1 σ4.2.1 = some (.inr (10, [.ref σ3.2.1, va_rf none, .int 0, va_rf s])) := by rw [← eC, onew_eq]
      have N5 : oN6 σ4 σ5 := fun x fs hx e => by
        by_cases z : x = σ4.2.1
        · rw [z, n5] at e; cases e
        · rw [← eC, onew_ne z, G4.1.1 x hx] at e; cases e
      have G5 := G4.nw O5 N5
      have kp5 := G4.1.kp (W := fun _ => False) O5 N5
      have nm5 : σ5.1 σ3.2.1 = some (.inr (6, [va_rf none, .int 0, .int 0, .int (cKd (yK a)), .ref k1, .null, .int 0, .int 0])) := by
        rw [O5.1 _ (by rw [O4.nx]; omega)]; exact n4
      -- its term
      obtain ⟨σ6, R6, S6, O6⟩ := c_sof (κ := κ) (T := T) (n := n + 2) (o := some σ3.2.1) (v := 1) (p := 0) (by omega) (fun x e => by injection e with e; rw [← e]; exact ⟨_, nm5⟩) (Or.inr (Or.inl rfl)) G5.1.1
      rw [if_neg (by decide)] at S6
      have S6 : cSm σ6 σ5.2.1 (σ5.2.1 + 1) (σ5.2.1 + 2) 2 [(σ3.2.1, 1)] 0 := S6
      have N6 : oN6 σ5 σ6 := fun x fs hx e => by
        obtain ⟨g, h', q1, q2, q3, -⟩ := S6
        rcases (by omega : x = σ5.2.1 ∨ x = σ5.2.1 + 1 ∨ x = σ5.2.1 + 2 ∨ σ5.2.1 + 3 ≤ x) with z | z | z | z
        · rw [z, q1] at e; cases e
        · rw [z, q2] at e; cases e
        · rw [z, q3] at e; cases e
        · rw [O6.2.1 x (by rw [O6.nx]; exact z)] at e; cases e
      have G6 := G5.nw O6 N6
      have kp6 := G5.1.kp (W := fun _ => False) O6 N6
      obtain ⟨-, qn6⟩ := G5.1.go O6 N6
      have kp36 : ∀ W, gKp st l b0 W σ3 σ6 := fun W => ((iv3.kp O4 N4).tr (G4.1.kp O5 N5)).tr (G5.1.kp O6 N6)
      have u6 : cTq st l b0 Ψ.2.2.1 σ6 σ5.2.1 (some (σ3.2.1, 1), 0) := by
        have b5 := G5.1.2.2.1.1
        have nQ : ¬ Ψ.2.2.1 (σ5.2.1 + 2) := fun z => by have := G5.1.2.2.2.1 _ z; omega
        exact ⟨_, _, _, _, _, S6, rfl, ⟨⟨by show (-1125899906842624 : Int) ≤ 0; decide, by show (0 : Int) ≤ 1125899906842624; decide⟩, by omega, by omega, nQ⟩, Or.inr ⟨σ3.2.1, 1, rfl, rfl, Or.inl rfl⟩, qn6 _ (by omega), qn6 _ (by omega)⟩
      have R6 : oF κ T (n + 6) 11 [va_rf (some σ3.2.1), .int 1, .long 0] σ5 = some (some (va_rf (some σ5.2.1)), σ6) := R6
      rw [R6, orn_at]
      -- the Scope stands for what is known
      have sc4 : σ4.2.1 = σ3.2.1 + 1 := O4.nx
      have esc : gNm (gPn B) (gTk B) sc = .inl (gPn B, gTk B) :: sc := by unfold gNm; rw [sB.1, hm]; rfl
      have hS6 : scR st l b0 nq xs Ψ σ6 CN (.inl σ3.2.1 :: Sc) (some σ4.2.1) (.inl (gPn B, gTk B) :: sc) ((gPn B, σ3.2.1) :: Es) := by
        refine ⟨σ4.2.1, s, _, cKd (yK a), ⟨rfl, kp6.ob n5 (by decide) (by decide) (by decide) (by decide)⟩, ⟨by rw [O6.1 _ (by rw [O5.nx]; omega)]; exact nm5, rfl, rfl⟩, Or.inr ⟨by rw [isM_g hwab.1]; exact hm, gPn B, gTk B, k1, sc, Es, ⟨rfl, rfl, (fun p hp z => by
          obtain ⟨fp, e⟩ := hS3.oe Sc s sc Es p hp
          rw [z, iv3.1 _ (Nat.le_refl _)] at e
          cases e), fun u e => by
          have e' : gPn B = .inr (mB.1, mB.2.1) := by
            unfold gPn
            rw [fB]
            show mPn mB = _
            unfold mPn
            rw [nB]
          rw [e'] at e
          cases e⟩, rfl, by rw [sB.1], (K13.sp (kp36 (fun _ => False)) (gAg.rf _ _) iv3.1).rl, hS3.sp (kp36 (fun _ => False)) (gAg.rf _ _) iv3.1 Sc s sc Es (fun _ _ z => z)⟩⟩
      have hD6 : ∀ x, Sum.inl x ∈ (.inl σ3.2.1 :: Sc : List sEn) → Dn x := fun x hx => by
        rcases List.mem_cons.mp hx with z | z
        · have : x = σ3.2.1 := Sum.inl.inj z
          rw [this]
          exact hDn _ (by have := (kp03 (fun _ => False)).2.2.2; omega)
        · exact hD x z
      have mE : ∀ (x : gN) (c : Nat), (x, c) ∈ Es → (x, c) ∈ ((gPn B, σ3.2.1) :: Es) := fun x c h => List.mem_cons_of_mem _ h
      have kA6 := (kA3.sp (kp36 (fun _ => False)) (gAg.rf _ _) iv3.1).mo mE
      have kB6 := (kB3.sp (kp36 (fun _ => False)) (gAg.rf _ _) iv3.1).mo mE
      unfold oj_X0_fit_122
      rw [oob_at ((kp36 (fun _ => False)).ob a13 (by decide) (by decide) (by decide) (by decide)), obn_at]
      -- answered()
      obtain ⟨σ7, k7, d7, s7, R7, O7, N7, d73, s75, K7⟩ := c_an1P (κ := κ) (T := T) (n := n + 4) (A' := if gMs a = true ∧ gPn A ≠ gPn B then gPu (gAn A) (gPn A) (some (gPn B, 1), 0) else gAn A) fA yA hm kA6 nA (by omega) (by omega) u6 (by
        by_cases c : gMs a = true ∧ gPn A ≠ gPn B
        · rw [if_pos c, pA]
          exact Or.inl ⟨_, rfl, rfl, Or.inr ⟨gPn B, σ3.2.1, 1, rfl, rfl, List.mem_cons_self ..⟩⟩
        · rw [if_neg c]
          have : gPn A = gPn B := Classical.byContradiction fun w => c ⟨hm, w⟩
          rw [pA] at this
          refine Or.inr ⟨rfl, σ3.2.1, rfl, ?_⟩
          rw [this]
          exact List.mem_cons_self ..) G6.1
      rw [R7, orn_at]
      have kp7 := G6.1.kp (W := fun _ => False) O7 N7
      have G7 := G6.nw O7 N7
      rw [oob_at (kp7.ob ((kp36 (fun _ => False)).ob b13 (by decide) (by decide) (by decide) (by decide)) (by decide) (by decide) (by decide) (by decide)), obn_at]
      have kB7 := kB6.sp kp7 (gAg.rf _ _) G6.1.1
      obtain ⟨σ8, k8, d8, s8, R8, O8, N8, d83, s85, K8⟩ := c_an1P (κ := κ) (T := T) (n := n + 4) (A' := gAn B) fB yB hm kB7 nB' (by omega) (by omega) (u6.sp kp7 (fun _ _ => Iff.rfl) G6.1.1) (Or.inr ⟨rfl, σ3.2.1, rfl, by rw [← pB]; exact List.mem_cons_self ..⟩) G7.1
      rw [R8, orn_at, nI_p1]
      have kp8 := G7.1.kp (W := fun _ => False) O8 N8
      have G8 := G7.nw O8 N8
      have hS8 := (hS6.sp kp7 (gAg.rf _ _) G6.1.1 _ _ _ _ (fun _ _ z => z)).sp kp8 (gAg.rf _ _) G7.1.1 _ _ _ _ (fun _ _ z => z)
      have K7' := K7.sp kp8 (gAg.rf _ _) G7.1.1
      rw [hm] at K7'
      have wA' : wfT Γ C Bd rt (nmS (gNm (gPn B) (gTk B) sc)) (if true = true ∧ gPn A ≠ gPn B then gPu (gAn A) (gPn A) (some (gPn B, 1), 0) else gAn A) := by
        by_cases c : true = true ∧ gPn A ≠ gPn B
        · rw [if_pos c]
          exact wA.pu hQ kAk sub (by rw [lA]; exact hm) (fun w e q => by injection q with q; injection q with q1 q2; rw [← q1, ← q2]; exact ⟨u1, Or.inl rfl⟩) ⟨by show -C ≤ 0; omega, hC⟩ (fun w e q => by injection q with q; injection q with q1 q2; rw [← q1]; exact own trivial)
        · rw [if_neg c]
          refine wA.an hQ kAk sub (fun h => ?_)
          have : gPn A = gPn B := Classical.byContradiction fun w => c ⟨rfl, w⟩
          rw [this]
          exact own trivial
      have eg : gSy (if true = true ∧ gPn A ≠ gPn B then gPu (gAn A) (gPn A) (some (gPn B, 1), 0) else gAn A) = b ∧ gDq (if true = true ∧ gPn A ≠ gPn B then gPu (gAn A) (gPn A) (some (gPn B, 1), 0) else gAn A) = gDq (gAn A) := by
        split
        · exact ⟨sA.2, rfl⟩
        · exact ⟨sA.2, rfl⟩
      rw [esc] at wB' hw' hz' wA' ⊢
      obtain ⟨σ9, ln9, ct9, cs9, R9, G9, kp9, c9, x9, u9⟩ := IHb _ (gAn B) (.inl (gPn B, gTk B) :: sc) (.inl σ3.2.1 :: Sc) (some σ4.2.1) ((gPn B, σ3.2.1) :: Es) k7 k8 (i + 1) t (n + 6) σ8 ln3 ct3 cs3 _ (p + 1) (q + 1) eg.1 sB.2 hwab.2 wA' wB' nAn hw' hz' (by omega) (by omega) (by omega) (by rw [O8.nx, O7.nx]; have := (kp36 (fun _ => False)).2.2.2; have := (kp03 (fun _ => False)).2.2.2; omega) hS8 hD6 K7' K8 (by omega) G8
      refine ⟨σ9, ln9, ct9, cs9, R9, by rw [← List.append_assoc]; exact G9, fun W => ((((kp03 W).tr (kp36 W)).tr (G6.1.kp O7 N7)).tr (G7.1.kp O8 N8)).tr (kp9 W), ?_, ((((O1.xp iv N1).tr (O2.xp G1.1 N2)).tr x3).tr (((O4.xp iv3 N4).tr (O5.xp G4.1 N5)).tr ((O6.xp G5.1 N6).tr ((O7.xp G6.1 N7).tr (O8.xp G7.1 N8))))).tr x9, u9.1.trans u3.1, u9.2.1.trans u3.2.1, by omega⟩
      have tp := t15_le p
      have tq := t15_le q
      exact ((((((c03.tr (O4.cs cs3)).tr (O5.cs cs3)).tr (O6.cs cs3)).tr (O7.cs cs3)).tr (O8.cs cs3)).tr c9).mo (by omega) (by rw [if_pos rfl]; omega)
end GFI
