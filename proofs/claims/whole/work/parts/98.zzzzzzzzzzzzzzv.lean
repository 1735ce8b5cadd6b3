/-! the reference's richOf(): let rec, all of it -/
section URO
variable {ks : Nat → Nat} {qs : List Nat} {T h0 len cnt lo N S P A : Nat} {L env : List Nat} {V τ : zSt} {kk pp ee f : Nat → Int32} {g : gG} {ρ tE tN : Nat → tY} {Γ : uGm} {CD : tT → Nat → Prop} {d : Nat × Nat × Nat × tS × tS} {z : Unit} {a b : tT}
set_option maxHeartbeats 2000000 in
/-- let rec -/
theorem ur_2 (H : uH T len cnt lo N S P A L V kk pp ee f g ρ tN Γ CD) (Ia : uRo ks qs T h0 cnt lo N S P A L V kk pp ee f g ρ tE tN Γ CD a) (Ib : uRo ks qs T h0 cnt lo N S P A L V kk pp ee f g ρ tE tN Γ CD b) (wa : tWf kk cnt a 0) (wb : tWf kk cnt b 0) (w2 : d.2.1 ≤ 4 ∧ d.1 + 3 + d.2.1 ≤ cnt ∧ (∀ i, i < d.2.1 → aIs kk 1 (d.1 + 3 + i) = true) ∧ aIs kk 1 (d.1 + 3 + d.2.1) = false) (hcn : cnt ≤ 2000) : uRo ks qs T h0 cnt lo N S P A L V kk pp ee f g ρ tE tN Γ CD (.inner 2 d z a b) := fun env m sc s A0 x2 x3 n v τ y yc tr wf ⟨ft, ok, cp, nb, al, ⟨hs, hq⟩, hc⟩ hn => by
  obtain ⟨n, rfl⟩ : ∃ n', n = n' + 2 := ⟨n - 2, by omega⟩
  obtain ⟨gd, wo, ev, nc⟩ := ft
  obtain ⟨t0, ⟨t9, t10⟩, xa, xb, ⟨t11, t12⟩, ta, tb⟩ := tr
  have hm : m < 2100 := by have := t0.1.2; have := H.1.1.2.1; omega
  have hxa : xa < 2100 := by have := (rTr_fw ta wa).1; have := H.1.1.2.1; omega
  have hxb : xb < 2100 := by have := (rTr_fw tb wb).1; have := H.1.1.2.1; omega
  have nc : ∀ p, p ∈ (m, d.1) :: (nE V a 0 (V.2.2.1 11 m).toNatClampNeg ++ nE V b 0 (V.2.2.1 12 m).toNatClampNeg) → p.2 ∈ tTg _ → nC V g ρ tE p := nc
  rw [show V.2.2.1 11 m = nI xa from t11, show V.2.2.1 12 m = nI xb from t12, nI_clamp (by omega), nI_clamp (by omega)] at nc
  have wo : (rTo (V.2.2.1 32) L (d.1 + 2) ∧ ∀ x, x < d.2.1 → rTo (V.2.2.1 32) L (d.1 + 3 + x)) ∧ rWo f pp ee (V.2.2.1 32) L a (env ++ ([d.1 + 2] ++ List.range' (d.1 + 3) d.2.1)) ∧ rWo f pp ee (V.2.2.1 32) L b (env ++ [d.1 + 2]) := wo
  have ev : (env.length ≤ 12 ∧ ∀ u, u ∈ env → u ∈ L) ∧ rEv L a (env ++ ([d.1 + 2] ++ List.range' (d.1 + 3) d.2.1)) ∧ rEv L b (env ++ [d.1 + 2]) := ev
  have hn : 220 + (max (tDq a) (tDq b) + 3) ≤ n + 2 := hn
  obtain ⟨u1, u2, u3⟩ := H.to wo.1.1
  obtain ⟨o1, ⟨rr, o2, o3⟩, o4⟩ : tE d.1 = y ∧ (∃ r, tN (d.1 + 2) = gFn tN d.2.1 (d.1 + 3) r ∧ gOk f pp ee tE tN a (env ++ ([d.1 + 2] ++ List.range' (d.1 + 3) d.2.1)) r) ∧ gOk f pp ee tE tN b (env ++ [d.1 + 2]) y := ok
  obtain ⟨n1, n2, n3, n4⟩ : mOk Γ (tE d.1) (2 * d.1, [], tE d.1, [], []) (v 100) (v 98) ∧ mOk Γ (tN (d.1 + 2)) (2 * d.1 + 1, [], tN (d.1 + 2), List.range' (d.1 + 3) d.2.1, []) (v 100 + yFz (tE d.1) 0) (v 98 + yLs (tE d.1)) ∧ gNb tE tN Γ a (v 100 + yFz (tE d.1) 0 + yFz (tN (d.1 + 2)) d.2.1) (v 98 + yLs (tE d.1) + yLs (tN (d.1 + 2))) ∧ gNb tE tN Γ b (v 100 + yFz (tE d.1) 0 + yFz (tN (d.1 + 2)) d.2.1 + g100 tE tN a) (v 98 + yLs (tE d.1) + yLs (tN (d.1 + 2)) + g98 tE tN a) := nb
  obtain ⟨p1, p1', p3, p4⟩ := cp
  obtain ⟨p1, p2⟩ := p1 (Or.inr (Or.inl rfl))
  obtain ⟨pq, pf⟩ := p1' rfl
  have p3 : gCp tE tN a ((gSs sc).length + yPm tN d.2.1 (d.1 + 3)) := p3
  have p4 : gCp tE tN b (gSs sc).length := p4
  have hc2 : ∀ k, k ∈ uCt → v k + (tpC Γ.2.2.2.1 (tE d.1) (gSs sc).length 0 k + tpC Γ.2.2.2.1 (tN (d.1 + 2)) (gSs sc).length d.2.1 k + cAt 109 (1 + d.2.1) k + gTc f pp ee tE tN Γ.2.2.2.1 a (env ++ ([d.1 + 2] ++ List.range' (d.1 + 3) d.2.1)) yc ((gSs sc).length + yPm tN d.2.1 (d.1 + 3)) k + fitC rr k + gTc f pp ee tE tN Γ.2.2.2.1 b (env ++ [d.1 + 2]) yc (gSs sc).length k + fitC (tE d.1) k) ≤ uLm k := by
    have e : yRs d.2.1 (tN (d.1 + 2)) = rr := by rw [o2, yRs_fn]
    rw [← e]
    exact hc
  have e6 : τ.2.2.1 6 m = nI 2 := (al.2.1.r (k := 6) (by decide) m).trans t0.2.1
  -- the TEMPLATE of the whole
  obtain ⟨τ1, τ2, t1, v2, a1, f1, a2, al2, hs2, hq2, g2, e2, fr2, ik2, ty2⟩ := r_tpE (h0 := h0) (qs := qs) (ks := ks) (n := n + 1) (w := 0) (q := 0) (w0 := -1) H (nc _ (List.mem_cons_self ..) (List.mem_append_left _ (List.mem_singleton.mpr rfl))) al hs hq ev.1.1 (Or.inl rfl) n1 p1 p2 (fun k hk => by have := hc2 k hk; omega) (by omega)
  have ty2 : uTy Γ v2 τ2 (tE d.1) t1 (gTp (2 * d.1) (tE d.1) [] sc) := ty2
  generalize eF0 : gTp (2 * d.1) (tE d.1) [] sc = F0 at ty2
  -- how many parameters
  have r38 := r_params (h0 := h0) (qs := qs) (ks := ks) (T := T) (n := n) (τ := τ2) (k := d.2.1) (by have := H.1.1.1; omega) (H.1.2.1.keep (al2.2.1.2.2 1 (by decide)) (al2.2.1.2.2 3 (by decide)) (al2.2.1.2.2 4 (by decide)) (al2.2.1.2.2 5 (by decide))) hm ((al2.2.1.r (k := 10) (by decide) m).trans t10) w2.2.2.1 w2.2.2.2 w2.2.1
  -- the function's
  obtain ⟨cf, x1', x2', x3'⟩ := H.1.2.2.2.2.2 (Γ.1 (.inl (d.1 + 2))) (d.1 + 2) (by rw [(H.2.1.1 _ u1).1]; exact (H.1.2.2.1.at u1).2.1)
  have eC : tmC Γ (tN (d.1 + 2)) (2 * d.1 + 1, [], tN (d.1 + 2), List.range' (d.1 + 3) d.2.1, gSs sc) = tpC Γ.2.2.2.1 (tN (d.1 + 2)) (gSs sc).length d.2.1 := by rw [tmC_c, List.length_range']
  have dF : yDp (tN (d.1 + 2)) ≤ 100 := H.2.2.2.1 _ u1
  obtain ⟨τ3, τ4, t4, v4, b1, b2, b3, b4, b5, b6, b7, b8, b9⟩ := r_tpl (h0 := h0) (qs := qs) (ks := ks) (T := T) (n := n + 1) (key := 2 * d.1 + 1) (w := d.1 + 3) (w0 := nI (d.1 + 3)) (q := d.2.1) (ns := List.range' (d.1 + 3) d.2.1) H.1.1.1 H.1.2.2.2.2.1 x2' x3' rfl (Or.inr ⟨rfl, by omega, fun i hi => (H.to (wo.1.2 i hi)).2.1⟩) H.2.2.1 al2.2.1 al2.1 hs2 (by have := ev.1.1; omega) (mOk_st (tN (d.1 + 2)) (2 * d.1 + 1, [], tN (d.1 + 2), List.range' (d.1 + 3) d.2.1, []) (2 * d.1 + 1, [], tN (d.1 + 2), List.range' (d.1 + 3) d.2.1, gSs sc) _ _ rfl rfl rfl (by rw [e2.1, e2.2]; exact n2)) (by rw [mSx_c (tN (d.1 + 2)) (2 * d.1 + 1, [], tN (d.1 + 2), List.range' (d.1 + 3) d.2.1, gSs sc) rfl]; exact pf) (by rw [eC]; exact fun k hk => by have := hc2 k hk; have := (g2 k).2; omega) (by omega) (by omega)
  rw [eC] at b5
  have z116 : tpC Γ.2.2.2.1 (tN (d.1 + 2)) (gSs sc).length d.2.1 116 = 0 := rfl
  have z123 : tpC Γ.2.2.2.1 (tN (d.1 + 2)) (gSs sc).length d.2.1 123 = 0 := rfl
  have h116 := b5 116
  have h123 := b5 123
  have al4 := al2.upT b5.le (by omega) (by omega) b4 b7 b8.1 b8.2
  have hs4 := hs2.up b5.le b7
  have hq4 := hq2.ik b8.1.2
  generalize eF : gTp (2 * d.1 + 1) (tN (d.1 + 2)) (List.range' (d.1 + 3) d.2.1) sc = F at b9
  have c109 : v4 109 + (1 + d.2.1) ≤ 12000 := by
    have h1 : v 109 + (0 + 0 + (1 + d.2.1) + _ + _ + _ + _) ≤ 12000 := hc2 109 (by decide)
    have h2 : v2 109 ≤ v 109 + 0 := (g2 109).2
    have h3 : v4 109 ≤ v2 109 + 0 := (b5 109).2
    omega
  obtain ⟨τ5, c1, al5, hs5, hq5, fr5, ik5⟩ := r_tel (h0 := h0) (qs := qs) (ks := ks) (T := T) (n := n) H.2.1 ev.1.2 u1 al4 b9 hs4 hq4 (by omega)
  have g5 := uGe.at1 v4 109
  have ms : gMs (gSy F) = false := by
    rw [b9.ms.2.2, o2]
    obtain ⟨q', e'⟩ : ∃ q', d.2.1 = q' + 1 := ⟨d.2.1 - 1, by omega⟩
    rw [e']
    rfl
  have eN : gNm (.inl (d.1 + 2)) F sc = sc := by unfold gNm; rw [if_neg (by rw [ms]; decide)]
  rw [eN] at hs5 hq5
  have b9' := uTy.up g5.le fr5 _ _ _ b9
  rw [o2] at b9'
  -- its parameters
  obtain ⟨τ6, v6, e6', t6, d1, al6, hs6, hq6, g6, e6n, fr6, ik6, ty6, eS6⟩ := ur_pa (h0 := h0) (qs := qs) (ks := ks) (m := m) (v0 := d.1 + 3) (n := n) (x3 := x3) (x4 := nI t1) (x7 := nI (v4 109)) (q := d.2.1) (r := rr) H hm t10 (by omega) d.2.1 0 (env ++ [d.1 + 2]) sc (gTn (d.1 + 2) F s) F t4 T (uUp v4 109) τ5 (nI (v4 109)) (by omega) b9' al5 (by rw [List.length_append]; exact hs5) hq5 (fun u hu => by
    rcases List.mem_append.mp hu with h | h
    · exact ev.1.2 u h
    · rw [List.mem_singleton.mp h]; exact u1) (fun j hj => wo.1.2 j hj) (by rw [uUp_at]; omega) (by have := H.1.1.1; omega)
  rw [Nat.add_zero] at al6 hs6 hq6 ty6 eS6
  have eE : env ++ [d.1 + 2] ++ List.range' (d.1 + 3) d.2.1 = env ++ ([d.1 + 2] ++ List.range' (d.1 + 3) d.2.1) := List.append_assoc ..
  rw [eE] at al6 hs6
  generalize ep : gPa d.2.1 (d.1 + 3) F sc (gTn (d.1 + 2) F s) = p at al6 hs6 hq6 ty6 eS6
  -- its E
  have w98 : v6 98 = v 98 + yLs (tE d.1) + yLs (tN (d.1 + 2)) := by rw [e6n.1, uUp_ne v4 (by decide), b6.1, e2.1]
  have w100 : v6 100 = v 100 + yFz (tE d.1) 0 + yFz (tN (d.1 + 2)) d.2.1 := by rw [e6n.2, uUp_ne v4 (by decide), b6.2, e2.2]
  have G6 : uGe v v6 (fun k => tpC Γ.2.2.2.1 (tE d.1) (gSs sc).length 0 k + tpC Γ.2.2.2.1 (tN (d.1 + 2)) (gSs sc).length d.2.1 k + cAt 109 1 k + cAt 109 d.2.1 k) := ((g2.tr b5).tr g5).tr g6
  have k109 : ∀ k, cAt 109 1 k + cAt 109 d.2.1 k = cAt 109 (1 + d.2.1) k := fun k => by unfold cAt; split <;> rfl
  obtain ⟨t7, τ7, v7, f71, g7, e7, fr7, ik7, al7, ty7⟩ := Ia (env ++ ([d.1 + 2] ++ List.range' (d.1 + 3) d.2.1)) xa p.1 p.2.2 A0 e6' x3 (n + 1) v6 τ6 rr yc ta wa ⟨⟨gd.2.2.2.1, wo.2.1, ev.2.1, fun p hp ht => nc p (List.mem_cons_of_mem _ (List.mem_append_left _ hp)) (List.mem_append_right _ (List.mem_append_left _ ht))⟩, o3, by rw [eS6]; exact p3, by rw [w98, w100]; exact n3, al6, ⟨hs6, hq6⟩, fun k hk => by
    rw [eS6]
    have := hc2 k hk
    have q := (G6 k).2
    dsimp only at q
    have := k109 k
    omega⟩ (by omega)
  rw [eS6] at g7
  generalize er1 : gWk T f pp ee tE tN a (env ++ ([d.1 + 2] ++ List.range' (d.1 + 3) d.2.1)) p.1 A0 p.2.2 = r1 at al7 ty7
  have dr : yDp rr ≤ 100 := by
    have : ∀ (q w : Nat) (r : tY), yDp r ≤ yDp (gFn tN q w r) := fun q => by
      induction q with
      | zero => exact fun w r => Nat.le_refl _
      | succ q ih =>
        intro w r
        have := ih (w + 1) r
        have e : yDp (gFn tN (q + 1) w r) = max (yDp (tN w)) (yDp (gFn tN q (w + 1) r)) + 1 := rfl
        omega
    have := this d.2.1 (d.1 + 3) rr
    rw [← o2] at this
    omega
  have el6 : (env ++ ([d.1 + 2] ++ List.range' (d.1 + 3) d.2.1)).length ≤ 17 := by
    rw [List.length_append, List.length_append, List.length_range']
    have := ev.1.1
    show env.length + (1 + d.2.1) ≤ 17
    omega
  obtain ⟨τ8, v8, f81, al8, g8, fr8, kr8⟩ := r_fit (h0 := h0) (qs := qs) (ks := ks) (T := T) (n := n + 1) al7 ty7 (uTy.up g7.le fr7 _ _ _ ty6) (hs6.up g7.le fr7) (hq6.ik ik7) (by omega) (fun k hk => by
    have := hc2 k hk
    have q := (G6 k).2
    dsimp only at q
    have := k109 k
    have := (g7 k).2
    omega) (by omega)
  have G8 := (G6.tr g7).tr g8
  have zr98 : fitC rr 98 = 0 := rfl
  have zr100 : fitC rr 100 = 0 := rfl
  have h98 := g8 98
  have h100 := g8 100
  -- what follows
  have g58 : uGe (uUp v4 109) v8 _ := (g6.tr g7).tr g8
  have fr58 : uFr (uUp v4 109) τ5 τ8 := (fr6.tr fr7 g6.le).tr fr8 (fun k => Nat.le_trans (g6.le k) (g7.le k))
  have ik58 : uIk Γ τ5 τ8 := (ik6.tr ik7).tr kr8.2
  have hs8 := hs5.up g58.le fr58
  have hq8 := hq5.ik ik58
  obtain ⟨t9', τ9, v9, f91, g9, e9, fr9, ik9, al9, ty9⟩ := Ib (env ++ [d.1 + 2]) xb sc (gFt (gFi rr r1.2 p.2.1 p.1) r1.1) A0 (nI (v4 109)) x3 (n + 1) v8 τ8 y yc tb wb ⟨⟨gd.2.2.2.2, wo.2.2, ev.2.2, fun p hp ht => nc p (List.mem_cons_of_mem _ (List.mem_append_right _ hp)) (List.mem_append_right _ (List.mem_append_right _ ht))⟩, o4, p4, by rw [show v8 98 = v 98 + yLs (tE d.1) + yLs (tN (d.1 + 2)) + g98 tE tN a by have := e7.1; omega, show v8 100 = v 100 + yFz (tE d.1) 0 + yFz (tN (d.1 + 2)) d.2.1 + g100 tE tN a by have := e7.2; omega]; exact n4, al8.ev (fun u hu => by
    rcases List.mem_append.mp hu with h | h
    · exact List.mem_append_left _ h
    · exact List.mem_append_right _ (List.mem_append_left _ h)), ⟨by rw [List.length_append]; exact hs8, hq8⟩, fun k hk => by
    have := hc2 k hk
    have q := (G8 k).2
    dsimp only at q
    have := k109 k
    omega⟩ (by omega)
  generalize er2 : gWk T f pp ee tE tN b (env ++ [d.1 + 2]) sc A0 (gFt (gFi rr r1.2 p.2.1 p.1) r1.1) = r2 at al9 ty9
  have fr29 : uFr v2 τ2 τ9 := ((b7.tr fr5 b5.le).tr fr58 (fun k => Nat.le_trans (b5.le k) (g5.le k))).tr fr9 (fun k => Nat.le_trans (Nat.le_trans (b5.le k) (g5.le k)) (g58.le k))
  have le29 : ∀ k, v2 k ≤ v9 k := fun k => Nat.le_trans (Nat.le_trans (Nat.le_trans (b5.le k) (g5.le k)) (g58.le k)) (g9.le k)
  have ty2' := uTy.up le29 fr29 _ _ _ ty2
  have ty9' : uTy Γ v9 τ9 (tE d.1) t9' r2.2 := by rw [o1]; exact ty9
  obtain ⟨τ10, v10, f01, al10, g10, fr10, kr10⟩ := r_fit (h0 := h0) (qs := qs) (ks := ks) (T := T) (n := n + 1) (al9.ev (env' := env) (fun u hu => List.mem_append_left _ hu)) ty9' ty2' (hs8.up g9.le fr9) (hq8.ik ik9) (by have := ev.1.1; omega) (fun k hk => by
    have := hc2 k hk
    have q := (G8 k).2
    dsimp only at q
    have := k109 k
    have := (g9 k).2
    omega) (by omega)
  have G : uGe v v10 _ := (G8.tr g9).tr g10
  have z98 : fitC (tE d.1) 98 = 0 := rfl
  have z100 : fitC (tE d.1) 100 = 0 := rfl
  have h98' := g10 98
  have h100' := g10 100
  have sP : gSy p.2.1 = rr := ty6.ms.2.2
  have eW : gWk T f pp ee tE tN (.inner 2 d z a b) env sc A0 s = (gFt (gFi (tE d.1) r2.2 F0 sc) r2.1, F0) := by
    subst er2 er1
    rw [← sP]
    subst ep eF eF0
    rfl
  rw [eW]
  refine ⟨t1, τ10, v10, ?_, fun k => ⟨(G k).1, ?_⟩, ⟨?_, ?_⟩, (fr2.tr fr29 g2.le).tr fr10 (fun k => Nat.le_trans (g2.le k) (le29 k)), (((((ik2.tr b8.1.2).tr ik5).tr ik58).tr ik9).tr kr10.2), al10, ?_⟩
  · have q39 := f1.r (k := 39) (by decide) m
    have q9 := (al2.2.1.r (k := 9) (by decide) m).trans t9
    have q32 := (al2.2.1.r (k := 32) (by decide) (d.1 + 2)).trans u2
    have q31 := (b2.r (k := 31) (by decide) (Γ.1 (.inl (d.1 + 2)))).trans x1'
    have q10 := (b2.r (k := 10) (by decide) m).trans t10
    have q74 : τ5.2.2.1 74 (Γ.1 (.inl (d.1 + 2))) = nI t4 := by
      obtain ⟨τ'', j1, -, -, -, -, j9, -⟩ := r_knows (h0 := h0) (qs := qs) (ks := ks) (T := T) (n := n) (x := Γ.1 (.inl (d.1 + 2))) (t := t4) (e := x2) (τ := zA τ4 74 (upd (τ4.2.2.1 74) (Γ.1 (.inl (d.1 + 2))) (nI t4))) (v := v4) al4.1 (by omega) (by omega) b9.ms.1
      have h := j1.symm.trans c1
      injection h with h
      injection h with h1 h2
      rw [← h2, j9 74 (by unfold uAy; omega) (by decide) (by decide), zA_74, upd_at']
    have q11 := (al6.2.1.r (k := 11) (by decide) m).trans t11
    have q12 := (al8.2.1.r (k := 12) (by decide) m).trans t12
    have a2 : zF h0 qs ks T (n + 1) 76 [.ref h0, .int (V.2.2.1 39 m), .int (-1), .int 0] τ1 = _ := a2
    have d1 : l_richOf_290 T (zF h0 qs ks T (n + 1)) h0 qs ks T (nI m) x3 (nI t1) (nI d.2.1) (nI (v4 109)) (nI (v4 109)) (nI t4) 0 τ5 = _ := d1
    obtain ⟨kf, hk⟩ : ∃ kf, T - d.2.1 = kf + 1 := ⟨T - d.2.1 - 1, by have := H.1.1.1; omega⟩
    rw [show n + 2 = (n + 1) + 1 from rfl, zE_richOf]
    unfold b_richOf
    rw [zgd_at (zin_n hm (by decide)), nI_clamp (show m < 2 ^ 31 by omega), e6, if_neg (by decide), if_pos (by decide), a1, zcv_at, zgd_at (zin_n hm (by decide)), q39, a2, zci_at, zgd_at (zin_n hm (by decide)), show τ2.2.2.1 9 m = nI (d.1 + 2) from q9, zgd_at (zin_n (show d.1 + 2 < 2010 by omega) (by decide)), r38, zci_at, b1, zcv_at, nI_clamp (show d.1 + 2 < 2 ^ 31 by omega), q32, zgd_at (zin_n u3 (by decide)), zgd_at (zin_n hm (by decide)), nI_clamp (show Γ.1 (.inl (d.1 + 2)) < 2 ^ 31 by omega), q31, show τ3.2.2.1 10 m = nI (d.1 + 3) from q10, b3, zci_at, zgd_at (zin_n u3 (by decide)), zlet_at, zgd_at (zin_n u3 (by decide)), zA_74, upd_at', c1, zci_at, zgd_at (zin_n u3 (by decide)), q74, d1, hk]
    unfold l_richOf_290
    rw [if_pos (Int32.le_refl _), zgd_at (zin_n hm (by decide)), nI_clamp (show m < 2 ^ 31 by omega), show τ6.2.2.1 11 m = nI xa from q11, f71, zci_at, f81, zcv_at, zgd_at (zin_n hm (by decide)), show τ8.2.2.1 12 m = nI xb from q12, f91, zci_at, f01, zcv_at]
  · have q := (G k).2
    try dsimp only at q
    have := k109 k
    show v10 k ≤ v k + gTc f pp ee tE tN Γ.2.2.2.1 (.inner 2 d z a b) env yc (gSs sc).length k
    have e : gTc f pp ee tE tN Γ.2.2.2.1 (.inner 2 d z a b) env yc (gSs sc).length k = tpC Γ.2.2.2.1 (tE d.1) (gSs sc).length 0 k + tpC Γ.2.2.2.1 (tN (d.1 + 2)) (gSs sc).length d.2.1 k + cAt 109 (1 + d.2.1) k + gTc f pp ee tE tN Γ.2.2.2.1 a (env ++ ([d.1 + 2] ++ List.range' (d.1 + 3) d.2.1)) yc ((gSs sc).length + yPm tN d.2.1 (d.1 + 3)) k + fitC rr k + gTc f pp ee tE tN Γ.2.2.2.1 b (env ++ [d.1 + 2]) yc (gSs sc).length k + fitC (tE d.1) k := by
      have e' : yRs d.2.1 (tN (d.1 + 2)) = rr := by rw [o2, yRs_fn]
      rw [← e']
      rfl
    omega
  · show v10 98 = v 98 + (yLs (tE d.1) + yLs (tN (d.1 + 2)) + g98 tE tN a + g98 tE tN b)
    have := e9.1
    have := e7.1
    omega
  · show v10 100 = v 100 + (yFz (tE d.1) 0 + yFz (tN (d.1 + 2)) d.2.1 + g100 tE tN a + g100 tE tN b)
    have := e9.2
    have := e7.2
    omega
  · have := uTy.up g10.le fr10 _ _ _ ty2'
    rw [o1] at this
    exact this
end URO
