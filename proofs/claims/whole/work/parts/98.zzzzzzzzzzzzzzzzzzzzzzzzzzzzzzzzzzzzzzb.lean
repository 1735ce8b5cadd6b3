/-! one step of a script, with run(), what accepted() wants and what type() wants -/
/-- whether accepted() was asked -/
def lCk (x lo : Nat) (σ : oSt) (τ : zSt) : Prop := ∃ fs, σ.1 x = some (.inr (14, fs)) ∧ ((fs[4]? = some .null ∧ τ.1 67 = 0 ∧ n5I lo σ) ∨ ∃ c cf, fs[4]? = some (.ref c) ∧ σ.1 c = some (.inr (2, cf)) ∧ cf[9]? = some (.int (τ.1 69)) ∧ τ.1 67 = 1 ∧ τ.1 68 = if 0 ≤ τ.1 69 then 0 else 1)
/-- a PROGRAM is there -/
def lZp (κ : oKv) (T sz x b0 hl : Nat) (dq : Nat × Nat × Nat) (q0 : pgQt) (σ : oSt) (τ : zSt) : Prop := pgB κ T sz x q0 σ τ ∧ b0 ≤ pgLo q0 ∧ hMq x (pgLo q0) (pgHi q0) hl σ ∧ lCk x (pgLo q0) σ τ ∧ (∀ i, i < 6 → ∃ w : Int32, τ.2.2.2 103 i = w.toInt64) ∧ lDr κ x (pgLo q0) (pgHi q0) dq σ ∧ (τ.1 67 = 1 → lTy x q0 σ τ)
/-- **the invariant** -/
def lZq (κ : oKv) (T sz x b0 hl : Nat) (dq : Nat × Nat × Nat) : Option pgQt → oSt → zSt → Prop
  | none, σ, τ => lNo x σ τ
  | some q0, σ, τ => lZp κ T sz x b0 hl dq q0 σ τ
def lZ (κ : oKv) (T sz x K b0 jd o ol : Nat) (Kc : Int) (hl : Nat) (dq : Nat × Nat × Nat) (Q : Option pgQt) (σ : oSt) (τ : zSt) : Prop := (lRel x σ τ ∧ oRm sz σ ∧ τ.1 45 = 0 ∧ (∃ k, τ.1 60 = nI k ∧ k ≤ K) ∧ ∃ ma va ra fm fv gr, lMv x σ ma va ra fm fv gr) ∧ (hMq x b0 0 hl σ ∧ lJd x b0 jd o ol σ ∧ oOc o σ ∧ rwI 0 σ ∧ kn8 σ ∧ cnI Kc σ ∧ lDr κ x b0 0 dq σ) ∧ b0 ≤ σ.2.1 ∧ lZq κ T sz x b0 hl dq Q σ τ
/-- letters on the tape -/
def lLn (τ : zSt) : Nat := (τ.1 3).toNatClampNeg
/-- what a call makes of the tape -/
def lTp (k : Nat) (τ v : zSt) : Prop := (k = 2 → lLn v = 0) ∧ (k ≠ 2 → lLn v ≤ lLn τ + if k = 0 then 20 else 0)
/-- what compile() leaves: what it costs, and the PROGRAM, if there is one -/
def lCm (κ : oKv) (T sz x b0 hl : Nat) (dq : Nat × Nat × Nat) (Q : Option pgQt) (σ : oSt) (τ : zSt) (u : oSt) (v : zSt) : Prop := (u.2.2.1 ≤ σ.2.2.1 + 76 + 30 * (τ.1 3).toNatClampNeg ∧ u.2.2.2 ≤ σ.2.2.2 + 709 + 293 * (τ.1 3).toNatClampNeg) ∧ (Q = none ∨ ∃ q0, Q = some q0 ∧ v.1 67 = 0 ∧ lCs q0 (τ.1 3).toNatClampNeg σ u)
section LZB
variable {κ : oKv} {ks : Nat → Nat} {qs : List Nat} {T n n' x y sz K b0 jd o ol hl : Nat} {dq : Nat × Nat × Nat} {Q : Option pgQt} {Kc : Int} {a : Nat → Int32} {σ u : oSt} {τ v : zSt}
/-- the Checker over a call that does not touch it -/
theorem lCk.nc {lo : Nat} (h : lCk x lo σ τ) (B : oJb σ u) (hx : ∀ fs, σ.1 x = some (.inr (14, fs)) → ∃ fs', u.1 x = some (.inr (14, fs')) ∧ fs'[4]? = fs[4]?) (hv : ∀ k, k = 67 ∨ k = 68 ∨ k = 69 → v.1 k = τ.1 k) : lCk x lo u v := by
  obtain ⟨fs, e, h⟩ := h
  obtain ⟨fs', e', e4⟩ := hx fs e
  refine ⟨fs', e', ?_⟩
  rw [hv 67 (by omega), hv 68 (by omega), hv 69 (by omega), e4]
  rcases h with ⟨h1, h2, h3⟩ | ⟨c, cf, h1, h2, h3⟩
  · exact Or.inl ⟨h1, h2, h3.nc B⟩
  · exact Or.inr ⟨c, cf, h1, (B.2 c 2 cf (by decide) (by decide)).mpr h2, h3⟩
theorem lTp.eq {k : Nat} (hk : k ≠ 2) (e : v.1 3 = τ.1 3) : lTp k τ v := ⟨fun z => absurd z hk, fun _ => by unfold lLn; rw [e]; exact Nat.le_add_right _ _⟩
/-- compile() empties the tape -/
theorem lTp_c (h : lRel x u v) (e : ∃ fs, u.1 x = some (.inr (14, fs)) ∧ (fs.length = 13 → fs[1]? = some (.int 0))) : lTp 2 τ v := by
  obtain ⟨fs, e1, e2⟩ := e
  obtain ⟨gs, gm, ta, oa, ma, No, ft, go, ⟨h1, hl⟩, ⟨-, f1, -⟩, -⟩ := h
  rw [e1] at h1
  injection h1 with h1; injection h1 with h1; injection h1 with _ h1
  rw [← h1] at hl f1
  rw [e2 hl] at f1
  injection f1 with f1; injection f1 with f1
  exact ⟨fun _ => by unfold lLn; rw [← f1]; rfl, fun z => absurd rfl z⟩
theorem lKc.t0 (h : lKc x σ u) : ∃ fs, u.1 x = some (.inr (14, fs)) ∧ (fs.length = 13 → fs[1]? = some (.int 0)) := by
  obtain ⟨fs, fm, ma, pl, h1, h2, h3, h4, h5, -⟩ := h
  refine ⟨_, h5, fun hl => ?_⟩
  simp only [List.length_set] at hl
  rw [List.getElem?_set_ne (by decide), List.getElem?_set_ne (by decide), List.getElem?_set_ne (by decide), List.getElem?_set_ne (by decide), List.getElem?_set_ne (by decide), List.getElem?_set_self (by omega)]
theorem lKo.t0 (h : lKo x σ u) : ∃ fs, u.1 x = some (.inr (14, fs)) ∧ (fs.length = 13 → fs[1]? = some (.int 0)) := by
  obtain ⟨fs, fm, ma, va, p, y, kd, f', h1, h2, h3, h4, h5, h6, -⟩ := h
  refine ⟨_, h6, fun hl => ?_⟩
  simp only [List.length_set] at hl
  rw [List.getElem?_set_ne (by decide), List.getElem?_set_ne (by decide), List.getElem?_set_ne (by decide), List.getElem?_set_ne (by decide), List.getElem?_set_ne (by decide), List.getElem?_set_ne (by decide), List.getElem?_set_self (by omega)]
/-- feed() -/
theorem lTp_0 (hT : 21 ≤ T) (h : lRel x σ τ) {F : oCl} (e : lst F (zF y qs ks T (n' + 1)) x y a σ τ 0 = some (u, v)) : lTp 0 τ v := by
  obtain ⟨r, -, e1⟩ := lcpI_e (show lcpI _ (zF y qs ks T (n' + 1) 0 [.ref y, .int (a 1), .int (a 2), .int (a 3), .int (a 4), .int (a 5)] τ) = some (u, v) from e)
  obtain ⟨fs, fm, ta, oa, ma, No, ft, go, -, -, ⟨t1, t2, t3, t4⟩, -⟩ := h
  obtain ⟨len, hl1, hl2⟩ : ∃ len : Nat, len ≤ 2000 ∧ τ.1 3 = nI len := by
    refine ⟨(τ.1 3).toNatClampNeg, ?_, ?_⟩
    · have := i32_cl t2
      omega
    · refine Int32.toInt_inj.mp ?_
      rw [nI_toInt (by have := i32_cl t2; omega), i32_cl t2]
  have cn : ∀ m : Nat, m ≤ 3000 → (nI m).toNatClampNeg = m := fun m hm => by
    have h1 : (nI m).toInt = (m : Int) := nI_toInt (by omega)
    have h2 := i32_cl (i := nI m) (by omega)
    omega
  refine ⟨fun z => absurd z (by decide), fun _ => ?_⟩
  rw [zE_feed] at e1
  unfold b_feed at e1
  rw [hl2] at e1
  by_cases c : len ≤ 1980
  · have c2 : nI len + 20 ≤ (2000 : Int32) := by
      have h9 := nI_le (a := len + 20) (b := 2000) (by omega) (by decide)
      rw [← nI_add, nI2000, nI20] at h9
      exact h9
    have eτ : zTape τ (τ.2.2.1 0) len = τ := by
      unfold zTape zI zA
      refine Prod.ext (funext fun j => ?_) (Prod.ext rfl (Prod.ext (funext fun j => ?_) rfl))
      · by_cases e : j = 3
        · simp [e, hl2]
        · simp [e]
      · by_cases e : j = 0
        · simp [e]
        · simp [e]
    have h9 := zfeed_ok (call := zF y qs ks T n') (y := y) (qs := qs) (ks := ks) (x1 := a 1) (x2 := a 2) (x3 := a 3) (x4 := a 4) (x5 := a 5) (τ := τ) (g := τ.2.2.1 0) hT (show len + 20 ≤ 2000 by omega)
    rw [eτ] at h9
    rw [if_pos c2] at e1
    have e1 := h9.symm.trans e1
    injection e1 with e1; injection e1 with _ e1
    have e1 : zTape τ _ (len + 20) = v := e1
    have e3 : v.1 3 = nI (len + 20) := by
      rw [← e1]
      exact zI_eq _ _ _
    unfold lLn
    rw [e3, hl2, cn _ (by omega), cn _ (by omega), if_pos rfl]
    exact Nat.le_refl _
  · have c2 : ¬ nI len + 20 ≤ (2000 : Int32) := by
      have h9 := nI_ge (a := 2000) (b := len + 20) (by omega) (by omega)
      rw [← nI_add, nI2000, nI20] at h9
      exact h9
    rw [if_neg c2] at e1
    injection e1 with e1; injection e1 with _ e1
    have e1 : τ = v := e1
    rw [← e1]
    exact Nat.le_add_right _ _
/-- end() -/
theorem lTp_1 (h : lRel x σ τ) {F : oCl} (e : lst F (zF y qs ks T (n' + 1)) x y a σ τ 1 = some (u, v)) : lTp 1 τ v := by
  obtain ⟨r, -, e1⟩ := lcpI_e (show lcpI _ (zF y qs ks T (n' + 1) 1 [.ref y, .int (a 1)] τ) = some (u, v) from e)
  obtain ⟨fs, fm, ta, oa, ma, No, ft, go, -, -, ⟨t1, t2, t3, t4⟩, -⟩ := h
  refine ⟨fun z => absurd z (by decide), fun _ => Nat.le_trans ?_ (Nat.le_add_right _ _)⟩
  rw [zE_end] at e1
  unfold b_end at e1
  by_cases c1 : a 1 < 0
  · rw [if_pos c1] at e1
    injection e1 with e1; injection e1 with _ e1
    have e1 : τ = v := e1
    rw [← e1]
    exact Nat.le_refl _
  rw [if_neg c1] at e1
  by_cases c2 : a 1 ≤ τ.1 3
  · rw [if_pos c2] at e1
    have e1 : some (some (Value.int 1), zI τ 3 (a 1)) = some (some (Value.int r), v) := e1
    injection e1 with e1; injection e1 with _ e1
    have p2 : (a 1).toInt ≤ (τ.1 3).toInt := Int32.le_iff_toInt_le.mp c2
    have p1 := i32_cl (i32_pos c1)
    have p3 := i32_cl t2
    unfold lLn
    rw [← e1, zI_eq]
    omega
  · rw [if_neg c2] at e1
    injection e1 with e1; injection e1 with _ e1
    have e1 : τ = v := e1
    rw [← e1]
    exact Nat.le_refl _
theorem lZ.up {K' : Nat} (h : lZ κ T sz x K b0 jd o ol Kc hl dq Q σ τ) (hk : K ≤ K') : lZ κ T sz x K' b0 jd o ol Kc hl dq Q σ τ := by
  obtain ⟨⟨h1, h2, h3, ⟨k, h4, h5⟩, h6⟩, h7⟩ := h
  exact ⟨⟨h1, h2, h3, ⟨k, h4, by omega⟩, h6⟩, h7⟩
set_option maxHeartbeats 1000000 in
/-- **one step**, but for accepted() and type() of a PROGRAM -/
theorem lZ_step (hf : lFacts κ ks sz) (hκ : κ.2.2.1 < sz) (hT : 500000 ≤ T) (hn : 464 ≤ n') (hK : K + 9002 < 2 ^ 30) (h : lZ κ T sz x K b0 jd o ol Kc hl dq Q σ τ) : ∀ k, (k ≠ 3 ∧ k ≠ 5) ∨ lNo x σ τ → ∃ u v hl' Q', lst (oF κ T (n + 1323)) (zF y qs ks T (n' + 1311)) x y a σ τ k = some (u, v) ∧ lZ κ T sz x (K + 9001) b0 jd o ol Kc hl' dq Q' u v ∧ (k ≠ 2 → (Q' = Q ∧ v.1 67 = τ.1 67) ∧ (hCo σ hl u hl' ∨ (u.2.2.1 ≤ σ.2.2.1 + 1 ∧ u.2.2.2 ≤ σ.2.2.2 + 1000 ∧ hl' = hl ∧ k ≠ 0))) ∧ (k = 2 → hl' = hl ∧ lCm κ T sz x b0 hl dq Q' σ τ u v) ∧ lTp k τ v := by
  have hh := h
  obtain ⟨⟨h1, h2, h3, ⟨k0, h4, h5⟩, ⟨ma, va, ra, fm, fv, gr, h6⟩⟩, ⟨m1, m2, m3, m4, m5, m6, m7⟩, hb0, h7⟩ := h
  have h7 : (Q = none ∧ lNo x σ τ) ∨ ∃ q0, Q = some q0 ∧ lZp κ T sz x b0 hl dq q0 σ τ := by
    revert h7
    cases Q with
    | none => exact fun h7 => Or.inl ⟨rfl, h7⟩
    | some q0 => exact fun h7 => Or.inr ⟨q0, rfl, h7⟩
  have hfr := h2.2.1
  have K0 := oK6.rf hfr
  have B0 := oJb.rf hfr
  have same : ∀ k, lst (oF κ T (n + 1323)) (zF y qs ks T (n' + 1311)) x y a σ τ k = some (σ, τ) → k ≠ 2 → ∃ u v hl' Q', lst (oF κ T (n + 1323)) (zF y qs ks T (n' + 1311)) x y a σ τ k = some (u, v) ∧ lZ κ T sz x (K + 9001) b0 jd o ol Kc hl' dq Q' u v ∧ (k ≠ 2 → (Q' = Q ∧ v.1 67 = τ.1 67) ∧ (hCo σ hl u hl' ∨ (u.2.2.1 ≤ σ.2.2.1 + 1 ∧ u.2.2.2 ≤ σ.2.2.2 + 1000 ∧ hl' = hl ∧ k ≠ 0))) ∧ (k = 2 → hl' = hl ∧ lCm κ T sz x b0 hl dq Q' σ τ u v) ∧ lTp k τ v := fun k e hk => ⟨σ, τ, hl, Q, e, hh.up (by omega), fun _ => ⟨⟨rfl, rfl⟩, Or.inl (hCo.rf _ _)⟩, fun z => absurd z hk, lTp.eq hk rfl⟩
  -- what all calls keep
  have ALL : ∀ k u v, k ≠ 3 → lst (oF κ T (n + 1323)) (zF y qs ks T (n' + 1311)) x y a σ τ k = some (u, v) → oOc o u ∧ rwI 0 u ∧ kn8 u ∧ cnI Kc u ∧ oK6 σ u := fun k u v hk e => ⟨lst_O oOc_ok m3 k e, lst_Q rwI_ok m4 k hk e, lst_Q kn8_ok m5 k hk e, lst_Q cnI_ok m6 k hk e, lst_O (oK6_ok σ) K0 k e⟩
  have KEEP : ∀ k u v, k ≠ 2 → k ≠ 3 → k ≠ 5 → lst (oF κ T (n + 1323)) (zF y qs ks T (n' + 1311)) x y a σ τ k = some (u, v) → lRel x u v → lKeep x σ τ u v → lTp k τ v → ∃ u v hl' Q', lst (oF κ T (n + 1323)) (zF y qs ks T (n' + 1311)) x y a σ τ k = some (u, v) ∧ lZ κ T sz x (K + 9001) b0 jd o ol Kc hl' dq Q' u v ∧ (k ≠ 2 → (Q' = Q ∧ v.1 67 = τ.1 67) ∧ (hCo σ hl u hl' ∨ (u.2.2.1 ≤ σ.2.2.1 + 1 ∧ u.2.2.2 ≤ σ.2.2.2 + 1000 ∧ hl' = hl ∧ k ≠ 0))) ∧ (k = 2 → hl' = hl ∧ lCm κ T sz x b0 hl dq Q' σ τ u v) ∧ lTp k τ v := fun k u v k2 k3 k5 e l2 l3 l9 => by
    obtain ⟨a1, a2, a3, a4, a5⟩ := ALL k u v k3 e
    have B : oJb σ u := lst_N (oJb_ok σ) B0 k k2 k3 k5 e
    refine ⟨u, v, hl, Q, e, ⟨⟨l2, l3.rm h1 h2, (l3.2.2.2.1 45 (by decide)).trans h3, ⟨k0, (l3.2.2.2.1 60 (by decide)).trans h4, by omega⟩, ma, va, ra, fm, fv, gr, h6.keep h1 l2 l3⟩, ⟨l3.mq h1 l2 m1, m2.nc hfr B (l3.rj h1) (l3.fx h1 l2), a1, a2, a3, a4, m7.ke ((l3.rm h1 h2).1 _ hκ) a5 l2 l3⟩, by rw [l3.2.2.1]; exact hb0, ?_⟩, fun _ => ⟨⟨rfl, l3.2.2.2.1 67 (by decide)⟩, Or.inl (by unfold hCo; rw [l3.2.2.1]; exact hCo.rf σ hl)⟩, fun z => absurd z k2, l9⟩
    rcases h7 with ⟨hQ, z⟩ | ⟨q0, hQ, z1, z2, z3, z4, z5, z6, z7⟩
    · rw [hQ]; exact z.keep l2 l3
    · rw [hQ]
      refine ⟨pgB.keep h1 l2 l3 z1, z2, l3.mq h1 l2 z3, z4.nc B (fun fs' e' => ?_) (fun k hk => l3.2.2.2.1 k (by omega)), fun i hi => ?_, z6.ke ((l3.rm h1 h2).1 _ hκ) a5 l2 l3, fun e67 => lTy.ke h1 l2 l3 (z7 (by rw [← l3.2.2.2.1 67 (by decide)]; exact e67))⟩
      · obtain ⟨gs, g1, g2⟩ := l3.fc l2 e'
        exact ⟨gs, g1, g2 4 (by decide)⟩
      · rw [l3.2.2.2.2.2.2]; exact z5 i hi
  have GIVE : ∀ k u v q0, k ≠ 0 → k ≠ 2 → k ≠ 3 → k ≠ 5 → lZp κ T sz x b0 hl dq q0 σ τ → lst (oF κ T (n + 1323)) (zF y qs ks T (n' + 1311)) x y a σ τ k = some (u, v) → lGo κ T sz x q0 σ τ u v → Q = some q0 → ∃ u v hl' Q', lst (oF κ T (n + 1323)) (zF y qs ks T (n' + 1311)) x y a σ τ k = some (u, v) ∧ lZ κ T sz x (K + 9001) b0 jd o ol Kc hl' dq Q' u v ∧ (k ≠ 2 → (Q' = Q ∧ v.1 67 = τ.1 67) ∧ (hCo σ hl u hl' ∨ (u.2.2.1 ≤ σ.2.2.1 + 1 ∧ u.2.2.2 ≤ σ.2.2.2 + 1000 ∧ hl' = hl ∧ k ≠ 0))) ∧ (k = 2 → hl' = hl ∧ lCm κ T sz x b0 hl dq Q' σ τ u v) ∧ lTp k τ v := fun k u v q0 kz k2 k3 k5 Z e G hQ => by
    have GG := G
    obtain ⟨g1, g2, g3, ⟨g4, g5, g6⟩, g7, g8, g9, g10⟩ := G
    obtain ⟨a1, a2, a3, a4, a5⟩ := ALL k u v k3 e
    have B : oJb σ u := lst_N (oJb_ok σ) B0 k k2 k3 k5 e
    obtain ⟨z1, z2, z3, z4, z5, z6, z7⟩ := Z
    have fx : lFx x σ u := fun fs ma' fm' va' ha e1 e2 e3 e4 e5 => ⟨fs, fm', ha, (g8 _ _ _ e1).trans e1, rfl, e2, (g8 _ _ _ e3).trans e3, e4, e5, Or.inl rfl⟩
    have le := g1.hi
    refine ⟨u, v, hl, Q, e, ⟨⟨g2, g3, by rw [g4]; exact h3, ⟨k0, by rw [g4]; exact h4, by omega⟩, g1.mv⟩, ⟨g7.mq h6 g8 hfr m1, m2.nc hfr B (g7.rj h6 hfr) fx, a1, a2, a3, a4, m7.gi (g3.1 _ hκ) a5 hfr h6 g7 g8⟩, by omega, by rw [hQ]; exact ⟨g1, z2, g7.mq h6 g8 hfr z3, z4.nc B (fun fs e' => ⟨fs, (g8 _ _ _ e').trans e', rfl⟩) (fun k _ => by rw [g4]), fun i hi => g9.2.2 i (z5 i hi), z6.gi (g3.1 _ hκ) a5 hfr h6 g7 g8, fun e67 => lTy.gi hfr GG a5.1.2 (z7 (by rw [← g4]; exact e67))⟩⟩, fun _ => ⟨⟨rfl, by rw [g4]⟩, Or.inr ⟨g9.1, g9.2.1, rfl, kz⟩⟩, fun z => absurd z k2, lTp.eq k2 (by rw [g4])⟩
  intro k hk
  match k, hk with
  | 0, _ =>
    obtain ⟨u, v, l1, l2, l3⟩ := lr_feed (κ := κ) (ks := ks) (qs := qs) (T := T) (n := n + 1321) (n' := n' + 1310) (y := y) (a := a) (by omega) h1
    exact KEEP 0 u v (by decide) (by decide) (by decide) l1 l2 l3 (lTp_0 (by omega) h1 l1)
  | 1, _ =>
    obtain ⟨u, v, l1, l2, l3⟩ := lr_end (κ := κ) (ks := ks) (qs := qs) (T := T) (n := n + 1322) (n' := n' + 1310) (y := y) (a := a) h1
    exact KEEP 1 u v (by decide) (by decide) (by decide) l1 l2 l3 (lTp_1 h1 l1)
  | 2, _ =>
    obtain ⟨gs, gm, ta, oa, ma', No, ft, go, ⟨gx, gl⟩, -, ⟨t1, t2, t3, t4⟩, -⟩ := id h1
    have h3' : τ.1 3 = nI (τ.1 3).toNatClampNeg := by
      rw [← Int32.toInt_inj, nI_toInt (by have := i32_cl t2; omega)]
      exact (i32_cl t2).symm
    have hlen : (τ.1 3).toNatClampNeg ≤ 2000 := by have := i32_cl t2; omega
    obtain ⟨u, v, l1, ⟨l2, l3, l4, ⟨k', l5, l5'⟩, l6⟩, l7⟩ := lr_compile (κ := κ) (ks := ks) (qs := qs) (n := n + 992) (n' := n' + 1176) (y := y) (a := a) h6 hf hκ h2 hT h1 h3 h4 (by omega) h3' hlen (by omega)
    have l1 : lst (oF κ T (n + 1323)) (zF y qs ks T (n' + 1311)) x y a σ τ 2 = some (u, v) := l1
    obtain ⟨a1, a2, a3, a4, a5⟩ := ALL 2 u v (by decide) l1
    obtain ⟨⟨f3, e3⟩, ⟨f8, e8⟩⟩ := m2.ob
    have lt : ∀ {q : Nat} {c : oC}, σ.1 q = some c → q < σ.2.1 := fun {q c} z => Nat.lt_of_not_le (fun w => by rw [hfr q w] at z; cases z)
    rcases l7 with ⟨z1, z2⟩ | ⟨⟨q0, z1, z3, z5⟩, z2, z4⟩
    · obtain ⟨fm', hm⟩ := h6.kc h2 z2
      obtain ⟨gs', gm', ma2, pl, g1, g2, g3, g4, g5, g6, g7, g8⟩ := id z2
      have uj : u.1 jd = σ.1 jd := g8 jd (lt e3) (fun z => by rw [z, g1] at e3; cases e3) (fun z => by rw [z, g3] at e3; cases e3) (fun _ z => by rw [e3] at z; cases z) (fun _ z => by rw [e3] at z; cases z)
      have uo : u.1 o = σ.1 o := g8 o (lt e8) (fun z => by rw [z, g1] at e8; cases e8) (fun z => by rw [z, g3] at e8; cases e8) (fun _ z => by rw [e8] at z; cases z) (fun _ z => by rw [e8] at z; cases z)
      exact ⟨u, v, hl, none, l1, ⟨⟨l2, l3, l4, ⟨k', l5, by omega⟩, ma, va, ra, fm', fv, gr, hm⟩, ⟨z2.mq hfr m1, m2.to hfr uj uo (z2.rj hfr) z2.fx, a1, a2, a3, a4, m7.kc (l3.1 _ hκ) a5 hfr z2⟩, by omega, z1⟩, fun z => absurd rfl z, fun _ => ⟨rfl, l6, Or.inl rfl⟩, lTp_c l2 z2.t0⟩
    · obtain ⟨fsx, hx0, hx12⟩ := h6.1
      obtain ⟨p', y', kd, w6, w7, w9, w10⟩ := z2.un hx0 hx12 h6.2.1.1 h6.2.1.2.2.1
      have uj : u.1 jd = σ.1 jd := w10 jd (lt e3) (fun z => by rw [z, hx0] at e3; cases e3) (fun z => by rw [z, h6.2.1.1] at e3; cases e3) (fun z => by rw [z, h6.2.2.1] at e3; cases e3) (fun _ z => by rw [e3] at z; cases z) (fun _ z => by rw [e3] at z; cases z)
      have uo : u.1 o = σ.1 o := w10 o (lt e8) (fun z => by rw [z, hx0] at e8; cases e8) (fun z => by rw [z, h6.2.1.1] at e8; cases e8) (fun z => by rw [z, h6.2.2.1] at e8; cases e8) (fun _ z => by rw [e8] at z; cases z) (fun _ z => by rw [e8] at z; cases z)
      have mq := z2.mq h6 hfr m1
      have fx := z2.fx
      suffices Zp : lZp κ T sz x b0 hl dq q0 u v from ⟨u, v, hl, some q0, l1, ⟨⟨l2, l3, l4, ⟨k', l5, by omega⟩, z1.mv⟩, ⟨mq, m2.to hfr uj uo (z2.rj h6 hfr) fx, a1, a2, a3, a4, m7.ko (l3.1 _ hκ) a5 hfr h6 z2⟩, by omega, Zp⟩, fun z => absurd rfl z, fun _ => ⟨rfl, l6, Or.inr ⟨q0, rfl, z4, z5⟩⟩, lTp_c l2 z2.t0⟩
      refine ⟨z1, by rw [z3]; exact hb0, mq.ch (by rw [z3]; exact hb0) (fun fs' ma2 fm2 ha2 e1 e2 e4 e5 => Or.inl ?_), ⟨_, w6, Or.inl ⟨?_, z4, ?_⟩⟩, fun i hi => ⟨0, (z2.z0 z1 i hi).trans rfl⟩, by rw [z3]; exact (m7.ol hfr (by have := h2.2.2; omega) (pgHi q0)).ko (l3.1 _ hκ) a5 hfr h6 z2, fun e67 => absurd (e67.symm.trans z4) (by decide)⟩
      · -- the heap is older than the PROGRAM
        obtain ⟨fs, ma3, fm3, va3, ha3, hp3, wn, ws, wa, WN, WS, WA, ⟨b1, b2⟩, ⟨b3, b4, b5⟩, ⟨b6, b7, -⟩, -⟩ := id m1
        obtain ⟨fs4, fm4, ha4, c1, c2, c3, c4, c5, c6, c7⟩ := fx fs ma3 fm3 va3 ha3 b1 b2 b3 b5 b6
        rw [e1] at c1
        injection c1 with c1; injection c1 with c1; injection c1 with _ c1
        subst c1
        rw [e2] at c3
        injection c3 with c3; injection c3 with c3
        subst c3
        rw [e4] at c4
        injection c4 with c4; injection c4 with c4; injection c4 with _ c4
        subst c4
        obtain ⟨p5, y5, kd5, v6, v7, -, -⟩ := z2.un b1 b2 b3 b5
        rw [e4] at v7
        injection v7 with v7; injection v7 with v7; injection v7 with _ v7
        rw [v7, List.getElem?_set_ne (by decide), List.getElem?_set_ne (by decide), List.getElem?_set_ne (by decide), List.getElem?_set_ne (by decide), b6] at e5
        injection e5 with e5; injection e5 with e5
        subst e5
        rw [z3]
        exact lt b7
      · have hl13 : fsx.length = 13 := by
          have q := hx0
          rw [gx] at q
          injection q with q; injection q with q; injection q with _ q
          rw [← q]; exact gl
        rw [List.getElem?_set_ne (by decide), List.getElem?_set_ne (by decide), List.getElem?_set_ne (by decide), List.getElem?_set_self (by simp only [List.length_set]; rw [hl13]; decide)]
      · obtain ⟨r, e1, -⟩ := lcpI_w (show lcpI (oF κ T (n + 1323) 178 [.ref x] σ) (zF y qs ks T (n' + 1311) 65 [.ref y] τ) = some (u, v) from l1)
        rw [z3]
        exact n5I_compile (x := some x) hfr e1
  | 3, hk =>
    have hno := hk.resolve_left (fun z => z.1 rfl)
    exact same 3 (ln_accepted (n := n + 1322) (n' := n' + 1310) hno.none) (by decide)
  | 4, _ => exact same 4 (lr_place (n := n + 1322) (n' := n' + 1310) h1) (by decide)
  | 5, hk =>
    have hno := hk.resolve_left (fun z => z.2 rfl)
    exact same 5 (ln_type (n := n + 1322) (n' := n' + 1310) hno.none) (by decide)
  | 6, _ => exact same 6 (lr_out (n := n + 1322) (n' := n' + 1310) h1) (by decide)
  | 7, _ =>
    rcases h7 with ⟨hQ, z⟩ | ⟨q0, hQ, z⟩
    · exact same 7 (ln_give (n := n + 1322) (n' := n' + 1310) z.none) (by decide)
    · obtain ⟨u, v, l1, l2⟩ := lr_give (κ := κ) (ks := ks) (qs := qs) (n := n + 1319) (n' := n' + 1310) (y := y) (a := a) z.1 h1 h2 hκ (by omega)
      exact GIVE 7 u v q0 (by decide) (by decide) (by decide) (by decide) z l1 l2 hQ
  | 8, _ =>
    rcases h7 with ⟨hQ, z⟩ | ⟨q0, hQ, z⟩
    · exact same 8 (ln_element (n := n + 1322) (n' := n' + 1310) z.none) (by decide)
    · obtain ⟨u, v, l1, l2⟩ := lr_element (κ := κ) (ks := ks) (qs := qs) (n := n + 1319) (n' := n' + 1310) (y := y) (a := a) z.1 h1 h2 hκ
      exact GIVE 8 u v q0 (by decide) (by decide) (by decide) (by decide) z l1 l2 hQ
  | 9, _ =>
    rcases h7 with ⟨hQ, z⟩ | ⟨q0, hQ, z1, z2, z3, z4, z5, z6, z7⟩
    · exact same 9 (ln_run (n := n + 1322) (n' := n' + 1310) z.none) (by decide)
    · obtain ⟨u, v, hl', l1, ⟨l2, l3, l4, l5⟩, l6, l7, l8⟩ := lr_run (κ := κ) (ks := ks) (qs := qs) (n := n) (n' := n') (y := y) (a := a) z1 h1 h2 hκ (by omega) z3 z5
      obtain ⟨a1, a2, a3, a4, a5⟩ := ALL 9 u v (by decide) l1
      have B : oJb σ u := lst_N (oJb_ok σ) B0 9 (by decide) (by decide) (by decide) l1
      have hi := l2.hi
      have hx : u.1 x = σ.1 x ∧ ∀ fs ma fm, σ.1 x = some (.inr (14, fs)) → fs[12]? = some (.ref ma) → σ.1 ma = some (.inr (5, fm)) → ∃ fm', u.1 ma = some (.inr (5, fm')) ∧ ∀ k, k = 6 ∨ k = 7 ∨ k = 8 → fm'[k]? = fm[k]? := by
        rcases l8 with r | r
        · rw [r]; exact ⟨rfl, fun fs ma fm _ _ e => ⟨fm, e, fun _ _ => rfl⟩⟩
        · exact r.xx hfr ⟨_, _, _, m1⟩
      have jd' : lJd x b0 jd o ol u := by
        rcases l8 with r | r
        · rw [r]; exact m2
        · exact m2.nc hfr B (r.rj ⟨_, _, _, m1⟩ hfr) (r.fx hfr ⟨_, _, _, m1⟩)
      have DR : ∀ {lo hi}, lDr κ x lo hi dq σ → lDr κ x lo hi dq u := fun {lo hi} D => by
        rcases l8 with r | r
        · rw [r]; exact D
        · exact D.rn (l4.1 _ hκ) a5 hfr m1 r
      have TY : v.1 67 = 1 → lTy x q0 u v := fun e67 => by
        have t := z7 (by rw [← l7.2.1 67 (by decide)]; exact e67)
        rcases l8 with r | r
        · rw [r]
          exact t.to (fun Q _ G => ⟨tyA.rf _ _, G⟩) ⟨fun k _ h2 => l7.1 k (by omega), l7.2.2.2 54 (by decide), l7.2.2.2 59 (by decide)⟩ (Nat.le_refl _)
        · exact t.rn z3 hfr r l2.mv l7
      exact ⟨u, v, hl', Q, l1, ⟨⟨l3, l4, (l7.2.1 45 (by decide)).trans h3, ⟨k0, (l7.2.1 60 (by decide)).trans h4, by omega⟩, l2.mv⟩, ⟨m1.bs l5 hx.1 hx.2, jd', a1, a2, a3, a4, DR m7⟩, by omega, by rw [hQ]; exact ⟨l2, z2, l5, z4.nc B (fun fs e => ⟨fs, by rw [hx.1]; exact e, rfl⟩) (fun k hk => l7.2.1 k (by rcases hk with r | r | r <;> (rw [r]; decide))), fun i hi => by rw [l7.2.2.2 103 (by decide)]; exact z5 i hi, DR z6, TY⟩⟩, fun _ => ⟨⟨rfl, l7.2.1 67 (by decide)⟩, Or.inl l6⟩, fun z => absurd z (by decide), lTp.eq (by decide) (l7.2.1 3 (by decide))⟩
  | 10, _ => exact same 10 (lr_value (n := n + 1322) (n' := n' + 1310) h1) (by decide)
  | 11, _ => exact same 11 (lr_fuel (n := n + 1322) (n' := n' + 1310) h1) (by decide)
  | k + 12, _ => exact same (k + 12) rfl (by omega)
end LZB
