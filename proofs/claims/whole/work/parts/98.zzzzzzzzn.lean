/-! INPUTS: give() and element() of both -/
section LGV
variable {κ : oKv} {ks : Nat → Nat} {qs : List Nat} {T n n' x y sz : Nat} {a : Nat → Int32} {σ : oSt} {τ : zSt}
/-- rows of INPUTS are as before, or new -/
def lGr (x : Nat) (σ u : oSt) : Prop := ∃ ma va ra fm fv gr fv' gr', lMv x σ ma va ra fm fv gr ∧ lMv x u ma va ra fm fv' gr' ∧ ∀ i b, i < 6 → gr' i = some b → gr i = some b ∨ σ.2.1 ≤ b
/-- what give() and element() leave -/
def lGo (κ : oKv) (T sz x : Nat) (q0 : pgQt) (σ : oSt) (τ : zSt) (u : oSt) (v : zSt) : Prop := pgB κ T sz x q0 u v ∧ lRel x u v ∧ oRm sz u ∧ zKi τ v ∧ lKi x σ u ∧ (∀ q ci fs, σ.1 q = some (.inr (ci, fs)) → u.1 q = σ.1 q) ∧ (u.2.2.1 ≤ σ.2.2.1 + 1 ∧ u.2.2.2 ≤ σ.2.2.2 + 1000 ∧ ∀ i, (∃ w : Int32, τ.2.2.2 103 i = w.toInt64) → ∃ w : Int32, v.2.2.2 103 i = w.toInt64) ∧ lGr x σ u
theorem lGo.rf {q0 : pgQt} (h : pgB κ T sz x q0 σ τ) (hr : lRel x σ τ) (hR : oRm sz σ) : lGo κ T sz x q0 σ τ σ τ := ⟨h, hr, hR, ⟨rfl, rfl, rfl, fun _ _ _ => rfl⟩, fun _ _ _ _ _ _ _ _ _ _ _ _ => rfl, fun _ _ _ _ => rfl, ⟨by omega, by omega, fun _ h => h⟩, by
  obtain ⟨len, cnt, j, kk, pp, ee, f, fc, xs, is, e, α, lo, p, B, V, D, at2, cd', am2, nm, e0, fb, fr, fz, fn, g, ρ, lv, N, S, P, A, x0, g', ρ'⟩ := q0
  obtain ⟨-, -, -, -, -, -, ma, va, ra, fm, fv, gr, hm, -⟩ := h
  exact ⟨ma, va, ra, fm, fv, gr, fv, gr, hm, hm, fun _ _ _ e => Or.inl e⟩⟩
theorem Int32.t64 (v : Int32) : v.toInt64.toInt = v.toInt := Int32.toInt_toInt64 v
set_option maxHeartbeats 1000000 in
/-- **give()** -/
theorem lr_give {q0 : pgQt} (h : pgB κ T sz x q0 σ τ) (hr : lRel x σ τ) (hR : oRm sz σ) (hκ : κ.2.2.1 < sz) (hT : 1010 ≤ T) : ∃ u v, lst (oF κ T (n + 4)) (zF y qs ks T (n' + 1)) x y a σ τ 7 = some (u, v) ∧ lGo κ T sz x q0 σ τ u v := by
  obtain ⟨is, p, ma, va, ra, fm, fv, gr, ⟨i6, i2⟩, g1, g2, g3, g4, g5, g6, hM, hG, ⟨t1, t2, t3⟩, K⟩ := h.rd hκ hR
  obtain ⟨hlow, hfr, hsz⟩ := id hR
  show ∃ u v, lcpI (oF κ T (n + 4) 191 [.ref x, .int (a 1), .int (a 2)] σ) (zF y qs ks T (n' + 1) 119 [.ref y, .int (a 1), .int (a 2)] τ) = some (u, v) ∧ _
  generalize a 1 = x1
  generalize a 2 = v0
  have C : oF κ T (n + 4) 191 [.ref x, .int x1, .int v0] σ = ob_X12_give T (oF κ T (n + 3)) κ (some x) x1 v0 σ := oE_X12_give κ T (n + 3) (some x) x1 v0 σ
  have Z : zF y qs ks T (n' + 1) 119 [.ref y, .int x1, .int v0] τ = b_give T (zF y qs ks T n') y qs ks x1 v0 τ := zE_give y qs ks T n' x1 v0 τ
  unfold ob_X12_give at C
  unfold b_give at Z
  rw [g1, ovr_rf, obn_at, if_neg (by simp)] at C
  rw [t1, if_neg (by decide)] at Z
  by_cases c0 : x1 < 0
  · rw [if_pos c0] at C Z
    exact ⟨σ, τ, lcpI_ok C Z, lGo.rf h hr hR⟩
  rw [if_neg c0, obn_at, g3, ovi_in, obn_at] at C
  rw [if_neg c0, t2] at Z
  by_cases c1 : nI is.length ≤ x1
  · rw [if_pos c1] at C Z
    exact ⟨σ, τ, lcpI_ok C Z, lGo.rf h hr hR⟩
  obtain ⟨i, rfl, hi⟩ := i32_lt c0 c1 (by omega)
  have hi6 : i < 6 := by omega
  obtain ⟨yy, hy⟩ : ∃ yy, is[i]? = some yy := ⟨is[i], List.getElem?_eq_getElem hi⟩
  have h28 := t3 i yy hy
  have y2 := i2 yy (List.mem_of_getElem? hy)
  obtain ⟨b, b1, b2, b3⟩ := g6 n i yy hy
  have hpre : oF κ T (n + 4) 191 [.ref x, .int (nI i), .int v0] σ = oin (oF κ T (n + 3) 74 [va_rf (some ma), .int (nI i), .int (iCd yy.2), .int v0] σ) fun r28 s26 => if r28 = 0 then some (some (.int 0), s26) else some (some (.int 1), s26) := by
    rw [C, if_neg c1, g2, ovr_rf, obn_at, obn_at, g4, obn_at, g5, obn_at, b1, orn_at, ogd_at b2, b3, ovi_in, obn_at, hM.f2.2.2, obn_at]
  have kinds : ∀ k j', is[j']? = some k → k.2 = 2 → yy.2 ≠ 2 → j' ≠ i := fun k j' e1 e2 e3 z => e3 (by rw [z, hy] at e1; injection e1 with e1; rw [e1]; exact e2)
  have is6 : ∀ j' k, is[j']? = some k → j' < 6 := fun j' k e => by
    by_cases z : j' < is.length
    · omega
    · rw [List.getElem?_eq_none (by omega)] at e; cases e
  by_cases k2 : yy.2 = 2
  · -- an array
    have e200 : iCd yy.2 = 200 := by rw [k2]; rfl
    rw [e200] at hpre
    by_cases cv : v0 < 0 ∨ ¬ v0 ≤ 1000
    · have S0 : oF κ T (n + 3) 74 [va_rf (some ma), .int (nI i), .int 200, .int v0] σ = some (some (.int 0), σ) := by
        rw [show n + 3 = (n + 2) + 1 from rfl, oE_X3_set]
        unfold ob_X3_set
        rw [if_pos rfl]
        rcases cv with c | c
        · rw [if_pos c]
        · by_cases c' : v0 < 0
          · rw [if_pos c']
          · rw [if_neg c', if_neg c]
      have Z0 : zF y qs ks T (n' + 1) 119 [.ref y, .int (nI i), .int v0] τ = some (some (.int 0), τ) := by
        rw [Z, if_neg c1]
        simp only [zgd, zin_n hi6 (by decide), if_true, nI_clamp (show i < 2 ^ 31 by omega), h28, k2]
        rw [if_pos (by decide)]
        rcases cv with c | c
        · rw [if_pos c]
        · by_cases c' : v0 < 0
          · rw [if_pos c']
          · rw [if_neg c', if_neg c]
      rw [S0, oin_at, if_pos rfl] at hpre
      exact ⟨σ, τ, lcpI_ok hpre Z0, lGo.rf h hr hR⟩
    · have v1 : ¬ v0 < 0 := fun z => cv (Or.inl z)
      have v2 : v0 ≤ 1000 := Classical.byContradiction fun z => cv (Or.inr z)
      obtain ⟨u, gr', bb, hz, s1, s2, ⟨s3, s3'⟩, s4, s5, s6, s7, s8, s9, s10, s11, s12⟩ := c_set2 (κ := κ) (n := n + 1) hT hM hi6 hfr v1 v2
      obtain ⟨v, r1, ⟨r2, r3, r4, r5⟩, r6, r7⟩ := r_gv (ks := ks) (qs := qs) (h0 := y) (T := T) (n := n') hT hi6 t1 t2 hi i6 h28 y2 (fun _ => ⟨v1, v2⟩)
      rw [show n + 3 = (n + 1) + 2 from rfl, s1, oin_at, if_neg (by decide)] at hpre
      have vp := i32_pos v1
      have v2' : v0.toInt ≤ 1000 := by rw [Int32.le_iff_toInt_le] at v2; exact v2
      obtain ⟨⟨n1, n2, n3⟩, ⟨n4, n5⟩, n6⟩ := hM.ne
      have ho : ∀ q ci fs, σ.1 q = some (.inr (ci, fs)) → u.1 q = σ.1 q := fun q ci fs e => s8 q (alt hfr e) (fun z => by rw [z, hM.2.2.1] at e; cases e) (fun z => by rw [z, hM.2.2.2.1] at e; cases e) (fun c hc z => by
        obtain ⟨hh, q1⟩ := hM.2.2.2.2.1 i c hi6 hc
        rw [z, q1] at e; cases e)
      have hb : ∀ q n f, σ.1 q = some (.inl (.byte, n, .inl f)) → u.1 q = σ.1 q := fun q n f e => s8 q (alt hfr e) (fun z => by rw [z, hM.2.2.1] at e; cases e) (fun z => by rw [z, hM.2.2.2.1] at e; cases e) (fun c hc z => by
        obtain ⟨hh, q1⟩ := hM.2.2.2.2.1 i c hi6 hc
        rw [z, q1] at e; cases e)
      have hki : lKi x σ u := fun ma' va' ra' fm' fv' gr'' M' q hq a1 a2 a3 => by
        obtain ⟨e1, e2, e3, e4⟩ := hM.uq M'
        subst e2 e3 e4
        exact s8 q hq a1 a2 (fun c hc => a3 i c hi6 hc)
      have hgr : ∀ j c, j < 6 → gr' j = some c → gr j = some c ∨ σ.2.1 ≤ c := fun j c hj e => by
        by_cases z : j = i
        · subst z
          have ec : c = bb := by rw [s3] at e; injection e with e; exact e.symm
          rw [ec]; exact s3'
        · exact Or.inl (by rw [← s6 j z]; exact e)
      refine ⟨u, v, lcpI_ok hpre r1, K u v ho hki s10 ⟨r2, r3, r4, r5⟩ ⟨_, gr', s2, ⟨fun j hj => ?_, fun j k ej ek => ?_⟩, hgr⟩, hr.cg ho hb ⟨r2, r3, r4, r5⟩, ⟨fun q hq => ?_, s9, by omega⟩, ⟨r2, r3, r4, r5⟩, hki, ho, ⟨s11, s12, fun j hj => if z : j = i then (by rw [r6, k2, if_neg (show ¬ (2 : Nat) = 1 by decide), vp_L, if_pos z]; exact ⟨v0, rfl⟩) else (by rw [r6, k2, if_neg (show ¬ (2 : Nat) = 1 by decide), vp_L, if_neg z]; exact hj)⟩, ma, va, ra, fm, fv, gr, _, gr', hM, s2, hgr⟩
      · rw [r6, k2, if_neg (show ¬ (2 : Nat) = 1 by decide), vp_L, vp_L]
        by_cases z : j = i
        · rw [if_pos z, if_pos z]
        · rw [if_neg z, if_neg z]; exact hG.1 j hj
      · rw [vp_L]
        by_cases z : j = i
        · subst z
          rw [if_pos rfl, Int32.t64]
          refine ⟨⟨vp, v2'⟩, fun k hk => ⟨bb, hz, s3, s4, ?_⟩⟩
          rw [s5 k (by omega), r7, if_pos ⟨k2, by omega, by omega⟩]
          rfl
        · rw [if_neg z]
          obtain ⟨q1, q2⟩ := hG.2 j k ej ek
          refine ⟨q1, fun k' hk' => ?_⟩
          obtain ⟨c, hh, d1, d2, d3⟩ := q2 k' hk'
          have hj6 := is6 j k ej
          refine ⟨c, hh, (s6 j z).trans d1, (s7 j c hj6 z d1).trans d2, ?_⟩
          rw [d3, r7, if_neg (by omega)]
      · have hxs : q < σ.2.1 := by omega
        have nq : ∀ c, σ.1 c ≠ none → q ≠ c := fun c hc z => hc (by rw [← z]; exact hlow q hq)
        rw [s8 q hxs (nq va (by rw [hM.2.2.1]; simp)) (nq ra (by rw [hM.2.2.2.1]; simp)) (fun c hc => nq c (by obtain ⟨hh, q1⟩ := hM.2.2.2.2.1 i c hi6 hc; rw [q1]; simp))]
        exact hlow q hq
  · -- a number or a truth
    have e200 : iCd yy.2 ≠ 200 := by
      have : yy.2 = 0 ∨ yy.2 = 1 := by omega
      rcases this with z | z <;> rw [z] <;> decide
    rw [show n + 3 = (n + 2) + 1 from rfl, c_set0 hM hi6 e200, oin_at, if_neg (by decide)] at hpre
    obtain ⟨v, r1, ⟨r2, r3, r4, r5⟩, r6, r7⟩ := r_gv (ks := ks) (qs := qs) (h0 := y) (T := T) (n := n') (v := v0) hT hi6 t1 t2 hi i6 h28 y2 (fun z => absurd z k2)
    have ew : (if iCd yy.2 = 202 then (if v0 = 0 then v0.toInt64 else 1) else v0.toInt64) = (if yy.2 = 1 then (if v0 = 0 then 0 else 1) else v0.toInt64) := by
      have : yy.2 = 0 ∨ yy.2 = 1 := by omega
      rcases this with z | z
      · rw [z, if_neg (by decide), if_neg (by decide)]
      · rw [z, if_pos (by decide), if_pos rfl]
        by_cases c : v0 = 0
        · rw [if_pos c, if_pos c, c]; rfl
        · rw [if_neg c, if_neg c]
    rw [ew] at hpre
    rw [← ew] at r6
    rw [ew] at r6
    have hw32 : ∃ w' : Int32, (if yy.2 = 1 then (if v0 = 0 then (0 : Int64) else 1) else v0.toInt64) = w'.toInt64 := by
      split
      · split
        · exact ⟨0, rfl⟩
        · exact ⟨1, rfl⟩
      · exact ⟨v0, rfl⟩
    generalize (if yy.2 = 1 then (if v0 = 0 then (0 : Int64) else 1) else v0.toInt64) = w at hpre r6 hw32
    have nv : ∀ q ci fs, σ.1 q = some (.inr (ci, fs)) → q ≠ va := fun q ci fs e z => by rw [z, hM.2.2.1] at e; cases e
    have ho : ∀ q ci fs, σ.1 q = some (.inr (ci, fs)) → (oput σ va (.inl (.long, 6, .inr (.inl (vp_updL fv i w))))).1 q = σ.1 q := fun q ci fs e => oput_ne (nv q ci fs e)
    have hb : ∀ q n f, σ.1 q = some (.inl (.byte, n, .inl f)) → (oput σ va (.inl (.long, 6, .inr (.inl (vp_updL fv i w))))).1 q = σ.1 q := fun q n f e => oput_ne (fun z => by rw [z, hM.2.2.1] at e; cases e)
    have hki : lKi x σ (oput σ va (.inl (.long, 6, .inr (.inl (vp_updL fv i w))))) := fun ma' va' ra' fm' fv' gr'' M' q hq a1 a2 a3 => by
      obtain ⟨e1, e2, e3, e4⟩ := hM.uq M'
      subst e2
      exact oput_ne a1
    obtain ⟨-, -, n6⟩ := hM.ne
    have vl := alt hfr hM.2.2.1
    refine ⟨_, v, lcpI_ok hpre r1, K _ v ho hki (Nat.le_refl _) ⟨r2, r3, r4, r5⟩ ⟨_, gr, hM.put _, ⟨fun j hj => ?_, fun j k ej ek => ?_⟩, fun j c hj e => Or.inl e⟩, hr.cg ho hb ⟨r2, r3, r4, r5⟩, ⟨fun q hq => ?_, fun q hq => ?_, hsz⟩, ⟨r2, r3, r4, r5⟩, hki, ho, ⟨Nat.le_succ _, Nat.le_add_right _ _, fun j hj => if z : j = i then (by rw [r6, vp_L, if_pos z]; exact hw32) else (by rw [r6, vp_L, if_neg z]; exact hj)⟩, ma, va, ra, fm, fv, gr, _, gr, hM, hM.put _, fun _ _ _ e => Or.inl e⟩
    · rw [r6, vp_L, vp_L]
      by_cases z : j = i
      · rw [if_pos z, if_pos z]
      · rw [if_neg z, if_neg z]; exact hG.1 j hj
    · have z := kinds k j ej ek k2
      rw [vp_L, if_neg z]
      obtain ⟨q1, q2⟩ := hG.2 j k ej ek
      refine ⟨q1, fun k' hk' => ?_⟩
      obtain ⟨c, hh, d1, d2, d3⟩ := q2 k' hk'
      refine ⟨c, hh, d1, (oput_ne (n6 j c (is6 j k ej) d1).2.2.1).trans d2, ?_⟩
      rw [d3, r7, if_neg (fun zz => k2 zz.1)]
    · rw [oput_ne (fun z => by have e7 := hM.2.2.1; rw [← z, hlow q hq] at e7; cases e7)]
      exact hlow q hq
    · have hq : σ.2.1 ≤ q := hq
      rw [oput_ne (by omega)]
      exact hfr q hq
set_option maxHeartbeats 1000000 in
/-- **element()** -/
theorem lr_element {q0 : pgQt} (h : pgB κ T sz x q0 σ τ) (hr : lRel x σ τ) (hR : oRm sz σ) (hκ : κ.2.2.1 < sz) : ∃ u v, lst (oF κ T (n + 4)) (zF y qs ks T (n' + 1)) x y a σ τ 8 = some (u, v) ∧ lGo κ T sz x q0 σ τ u v := by
  obtain ⟨is, p, ma, va, ra, fm, fv, gr, ⟨i6, i2⟩, g1, g2, g3, g4, g5, g6, hM, hG, ⟨t1, t2, t3⟩, K⟩ := h.rd hκ hR
  obtain ⟨hlow, hfr, hsz⟩ := id hR
  show ∃ u v, lcpI (oF κ T (n + 4) 192 [.ref x, .int (a 1), .int (a 2), .int (a 3)] σ) (zF y qs ks T (n' + 1) 120 [.ref y, .int (a 1), .int (a 2), .int (a 3)] τ) = some (u, v) ∧ _
  generalize a 1 = x1
  generalize a 2 = x2
  generalize a 3 = v0
  have C : oF κ T (n + 4) 192 [.ref x, .int x1, .int x2, .int v0] σ = ob_X12_element T (oF κ T (n + 3)) κ (some x) x1 x2 v0 σ := oE_X12_element κ T (n + 3) (some x) x1 x2 v0 σ
  have Z : zF y qs ks T (n' + 1) 120 [.ref y, .int x1, .int x2, .int v0] τ = b_element T (zF y qs ks T n') y qs ks x1 x2 v0 τ := zE_element y qs ks T n' x1 x2 v0 τ
  unfold ob_X12_element at C
  unfold b_element at Z
  rw [g1, ovr_rf, obn_at, if_neg (by simp)] at C
  rw [t1, if_neg (by decide)] at Z
  by_cases c0 : x1 < 0
  · rw [if_pos c0] at C Z
    exact ⟨σ, τ, lcpI_ok C Z, lGo.rf h hr hR⟩
  rw [if_neg c0, obn_at, g3, ovi_in, obn_at] at C
  rw [if_neg c0, t2] at Z
  by_cases c1 : nI is.length ≤ x1
  · rw [if_pos c1] at C Z
    exact ⟨σ, τ, lcpI_ok C Z, lGo.rf h hr hR⟩
  obtain ⟨i, rfl, hi⟩ := i32_lt c0 c1 (by omega)
  have hi6 : i < 6 := by omega
  obtain ⟨yy, hy⟩ : ∃ yy, is[i]? = some yy := ⟨is[i], List.getElem?_eq_getElem hi⟩
  have h28 := t3 i yy hy
  have y2 := i2 yy (List.mem_of_getElem? hy)
  obtain ⟨b, b1, b2, b3⟩ := g6 n i yy hy
  rw [if_neg c1, obn_at, g4, obn_at, g5, obn_at, b1, orn_at, ogd_at b2, b3, ovi_in, obn_at] at C
  rw [if_neg c1] at Z
  simp only [zgd, zin_n hi6 (by decide), if_true, nI_clamp (show i < 2 ^ 31 by omega), h28] at Z
  by_cases k2 : yy.2 = 2
  rotate_left
  · have e200 : iCd yy.2 ≠ 200 := by
      have : yy.2 = 0 ∨ yy.2 = 1 := by omega
      rcases this with z | z <;> rw [z] <;> decide
    rw [if_neg e200] at C
    rw [if_neg (show ¬ nI yy.2 = 2 from fun z => k2 (nI_inj' (b := 2) (by omega) (by decide) z))] at Z
    exact ⟨σ, τ, lcpI_ok C Z, lGo.rf h hr hR⟩
  have e200 : iCd yy.2 = 200 := by rw [k2]; rfl
  rw [if_pos e200, g2, ovr_rf, obn_at, hM.f2.2.2, obn_at] at C
  rw [k2, if_pos (by decide)] at Z
  have S : oF κ T (n + 3) 75 [va_rf (some ma), .int (nI i), .int x2, .int v0] σ = ob_X3_setElement T (oF κ T (n + 2)) κ (some ma) (nI i) x2 v0 σ := oE_X3_setElement κ T (n + 2) (some ma) (nI i) x2 v0 σ
  unfold ob_X3_setElement at S
  by_cases cx : x2 < 0
  · rw [if_pos cx] at S Z
    rw [S, oin_at, if_pos rfl] at C
    exact ⟨σ, τ, lcpI_ok C Z, lGo.rf h hr hR⟩
  have oj : oaj σ (some va) (nI i) = some (fv i) := by
    have h7 := hM.2.2.1
    simp only [oaj, h7, zin_6 hi6, and_self, if_true, nI_clamp (show i < 2 ^ 31 by omega)]
  rw [if_neg cx, hM.f2.1, obn_at, oj, obn_at] at S
  rw [if_neg cx, ← hG.1 i hi6] at Z
  by_cases cl : lg_cmp x2.toInt64 (fv i) < 0
  rotate_left
  · have cl' : 0 ≤ lg_cmp x2.toInt64 (fv i) := by
      rw [Int32.lt_iff_toInt_lt] at cl
      rw [Int32.le_iff_toInt_le]
      have e0 : (0 : Int32).toInt = 0 := rfl
      omega
    rw [if_pos cl'] at S
    rw [if_neg cl] at Z
    rw [S, oin_at, if_pos rfl] at C
    exact ⟨σ, τ, lcpI_ok C Z, lGo.rf h hr hR⟩
  have cl' : ¬ 0 ≤ lg_cmp x2.toInt64 (fv i) := fun z => by
    rw [Int32.lt_iff_toInt_lt] at cl
    rw [Int32.le_iff_toInt_le] at z
    have e0 : (0 : Int32).toInt = 0 := rfl
    omega
  obtain ⟨⟨l1, l2⟩, l3⟩ := hG.2 i yy hy k2
  have xp := i32_pos cx
  have xlt : x2.toInt < (fv i).toInt := by
    have := cl'
    rw [lg_cmp_ge, Int64.le_iff_toInt_le, Int32.t64] at this
    omega
  obtain ⟨k, rfl, hk⟩ : ∃ k, x2 = nI k ∧ k < 1000 := i32_lt (l := 1000) cx (fun z => by
    rw [Int32.le_iff_toInt_le, nI_toInt (by decide)] at z
    have e1 : ((1000 : Nat) : Int) = 1000 := rfl
    omega) (by decide)
  rw [nI_toInt (by omega)] at xlt xp
  obtain ⟨c, hh, d1, d2, d3⟩ := l3 k xlt
  have zk : zin (nI k) 1000 = true := decide_eq_true ⟨by rw [nI_toInt (by omega)]; omega, by rw [nI_toInt (by omega)]; omega⟩
  rw [if_neg cl', hM.f2.2.1, obn_at, hM.oar hi6, obn_at, d1, if_neg (by simp), obn_at, hM.oar hi6, d1, obn_at, osi_at d2 zk, obn_at, nI_clamp (show k < 2 ^ 31 by omega)] at S
  rw [S, oin_at, if_neg (by decide)] at C
  rw [if_pos cl, show (1000 : Int32) * nI i + nI k = nI (1000 * i + k) by rw [show (1000 : Int32) = nI 1000 from rfl, nI_mul, nI_add]] at Z
  simp only [zin_n (show 1000 * i + k < 6000 by omega) (by decide), if_true, nI_clamp (show 1000 * i + k < 2 ^ 31 by omega), zlet] at Z
  obtain ⟨⟨n1, n2, n3⟩, ⟨n4, n5⟩, n6⟩ := hM.ne
  obtain ⟨nc1, nc2, nc3, nc4⟩ := n6 i c hi6 d1
  have ho : ∀ q ci fs, σ.1 q = some (.inr (ci, fs)) → (oput σ c (.inl (.int, 1000, .inl (upd hh k v0)))).1 q = σ.1 q := fun q ci fs e => oput_ne (fun z => by rw [z, d2] at e; cases e)
  have hb : ∀ q n f, σ.1 q = some (.inl (.byte, n, .inl f)) → (oput σ c (.inl (.int, 1000, .inl (upd hh k v0)))).1 q = σ.1 q := fun q n f e => oput_ne (fun z => by rw [z, d2] at e; cases e)
  have hki : lKi x σ (oput σ c (.inl (.int, 1000, .inl (upd hh k v0)))) := fun ma' va' ra' fm' fv' gr'' M' q hq a1 a2 a3 => by
    obtain ⟨e1, e2, e3, e4⟩ := hM.uq M'
    subst e4
    exact oput_ne (a3 i c hi6 d1)
  have cl2 := alt hfr d2
  have M' : lMv x (oput σ c (.inl (.int, 1000, .inl (upd hh k v0)))) ma va ra fm fv gr := by
    obtain ⟨⟨fs, h0, h0'⟩, ⟨h1, h1'⟩, h7, h8, h9, h10⟩ := hM
    refine ⟨⟨fs, (oput_ne nc1.symm).trans h0, h0'⟩, ⟨(oput_ne nc2.symm).trans h1, h1'⟩, (oput_ne nc3.symm).trans h7, (oput_ne nc4.symm).trans h8, fun j' c' hj e => ?_, h10⟩
    by_cases z : c' = c
    · rw [z]; exact ⟨_, oput_eq _ _ _⟩
    · rw [oput_ne z]; exact h9 j' c' hj e
  refine ⟨_, _, lcpI_ok C Z, K _ _ ho hki (Nat.le_refl _) ⟨rfl, rfl, rfl, fun _ _ h4 => if_neg h4⟩ ⟨fv, gr, M', ⟨fun j hj => hG.1 j hj, fun j k' ej ek => ?_⟩, fun j c' hj e => Or.inl e⟩, hr.cg ho hb ⟨rfl, rfl, rfl, fun _ _ h4 => if_neg h4⟩, ⟨fun q hq => ?_, fun q hq => ?_, hsz⟩, ⟨rfl, rfl, rfl, fun _ _ h4 => if_neg h4⟩, hki, ho, ⟨Nat.le_succ _, Nat.le_add_right _ _, fun _ h => h⟩, ma, va, ra, fm, fv, gr, fv, gr, hM, M', fun _ _ _ e => Or.inl e⟩
  · obtain ⟨q1, q2⟩ := hG.2 j k' ej ek
    have hj6 : j < 6 := by
      by_cases z : j < is.length
      · omega
      · rw [List.getElem?_eq_none (by omega)] at ej; cases ej
    refine ⟨q1, fun m hm => ?_⟩
    obtain ⟨c', h', e1, e2, e3⟩ := q2 m hm
    have hm1 : m < 1000 := by omega
    show ∃ b h, gr j = some b ∧ (oput σ c (.inl (.int, 1000, .inl (upd hh k v0)))).1 b = some (.inl (.int, 1000, .inl h)) ∧ (h m).toInt64 = vp_updL (τ.2.2.2 104) (1000 * i + k) v0.toInt64 (1000 * j + m)
    rw [vp_L]
    by_cases z : j = i
    · subst z
      rw [d1] at e1
      injection e1 with e1
      subst e1
      rw [d2] at e2
      injection e2 with e2; injection e2 with e2; injection e2 with _ e2; injection e2 with _ e2; injection e2 with e2
      subst e2
      refine ⟨c, _, d1, oput_eq _ _ _, ?_⟩
      by_cases zm : m = k
      · subst zm
        rw [upd_at, if_pos rfl]
      · rw [upd_ne _ _ zm, if_neg (by omega)]; exact e3
    · have hcc : c' ≠ c := fun zc => z (hM.2.2.2.2.2 j i c hj6 hi6 (by rw [e1, zc]) d1)
      exact ⟨c', h', e1, (oput_ne hcc).trans e2, by rw [if_neg (by omega)]; exact e3⟩
  · rw [oput_ne (fun z => by rw [← z, hlow q hq] at d2; cases d2)]
    exact hlow q hq
  · have hq : σ.2.1 ≤ q := hq
    rw [oput_ne (by omega)]
    exact hfr q hq
end LGV
