/-! the reference's richOf(): if -/
section URO
variable {ks : Nat → Nat} {qs : List Nat} {T h0 len cnt lo N S P A : Nat} {L env : List Nat} {V τ : zSt} {kk pp ee f : Nat → Int32} {g : gG} {ρ tE tN : Nat → tY} {Γ : uGm} {CD : tT → Nat → Prop} {d : Nat × Nat × Nat × tS × tS} {z : Unit} {a b : tT}
set_option maxHeartbeats 1000000 in
/-- if -/
theorem ur_4 {d' : Nat × Nat × Nat × tS × tS} {z' : Unit} {b1 b2 : tT} (H : uH T len cnt lo N S P A L V kk pp ee f g ρ tN Γ CD) (I1 : uRo ks qs T h0 cnt lo N S P A L V kk pp ee f g ρ tE tN Γ CD b1) (I2 : uRo ks qs T h0 cnt lo N S P A L V kk pp ee f g ρ tE tN Γ CD b2) (wc : cWf cnt a false) (w1 : tWf kk cnt b1 0) (w2 : tWf kk cnt b2 0) : uRo ks qs T h0 cnt lo N S P A L V kk pp ee f g ρ tE tN Γ CD (.inner 4 d z a (.inner 31 d' z' b1 b2)) := fun env m sc s A0 x2 x3 n v τ y yc tr wf ⟨ft, ok, cp, nb, al, ⟨hs, hq⟩, hc⟩ hn => by
  obtain ⟨n, rfl⟩ : ∃ n', n = n' + 2 := ⟨n - 2, by omega⟩
  obtain ⟨gd, wo, ev, nc⟩ := ft
  obtain ⟨t0, t8, xc, xa, xb, ⟨t9, t11, t12⟩, tc, ta, tb⟩ := tr
  have hm : m < 2100 := by have := t0.1.2; have := H.1.1.2.1; omega
  have hxa : xa < 2100 := by have := (rTr_fw ta w1).1; have := H.1.1.2.1; omega
  have hxb : xb < 2100 := by have := (rTr_fw tb w2).1; have := H.1.1.2.1; omega
  have hxc : xc < 2100 := by have := rTr_cb a 0 0 xc false wc (fun z => by cases z) tc; have := H.1.1.2.1; omega
  have cd : CD a xc := H.2.2.2.2.1 a xc tc wc hxc
  have nc : ∀ p, p ∈ (m, d.1) :: (nE V b1 0 (V.2.2.1 11 m).toNatClampNeg ++ nE V b2 0 (V.2.2.1 12 m).toNatClampNeg) → p.2 ∈ tTg _ → nC V g ρ tE p := nc
  rw [show V.2.2.1 11 m = nI xa from t11, show V.2.2.1 12 m = nI xb from t12, nI_clamp (by omega), nI_clamp (by omega)] at nc
  have wo : rWs f pp ee (V.2.2.1 32) L env (cEv a) ∧ rWs f pp ee (V.2.2.1 32) L env (sEv d'.2.2.2.1.2) ∧ rWs f pp ee (V.2.2.1 32) L env (sEv d'.2.2.2.2.2) ∧ rWo f pp ee (V.2.2.1 32) L b1 env ∧ rWo f pp ee (V.2.2.1 32) L b2 env := wo
  have ev : (env.length ≤ 12 ∧ ∀ u, u ∈ env → u ∈ L) ∧ (env.length ≤ 12 ∧ ∀ u, u ∈ env → u ∈ L) ∧ rEv L b1 env ∧ rEv L b2 env := ev
  have hn : 220 + (max (tDq b1) (tDq b2) + 3) ≤ n + 2 := hn
  have gb := gd.2.2.2.2
  obtain ⟨o1, -, o2, o3⟩ : tE d.1 = y ∧ _ ∧ gOk f pp ee tE tN b1 env y ∧ gOk f pp ee tE tN b2 env y := ok
  obtain ⟨n1, n2, n3⟩ : mOk Γ (tE d.1) (2 * d.1, [], tE d.1, [], []) (v 100) (v 98) ∧ gNb tE tN Γ b1 (v 100 + yFz (tE d.1) 0) (v 98 + yLs (tE d.1)) ∧ gNb tE tN Γ b2 (v 100 + yFz (tE d.1) 0 + g100 tE tN b1) (v 98 + yLs (tE d.1) + g98 tE tN b1) := nb
  obtain ⟨p1, -, -, p3⟩ := cp
  obtain ⟨p1, p2⟩ := p1 (Or.inr (Or.inr (Or.inr (Or.inl rfl))))
  obtain ⟨-, -, p4, p5⟩ := p3
  have p4 : gCp tE tN b1 (gSs sc).length := p4
  have p5 : gCp tE tN b2 (gSs sc).length := p5
  have hc : ∀ k, k ∈ uCt → v k + (tpC Γ.2.2.2.1 (tE d.1) (gSs sc).length 0 k + cAt 110 2 k + (gTc f pp ee tE tN Γ.2.2.2.1 b1 env (tE d.1) (gSs sc).length k + fitC (tE d.1) k + gTc f pp ee tE tN Γ.2.2.2.1 b2 env (tE d.1) (gSs sc).length k + fitC (tE d.1) k)) ≤ uLm k := hc
  have e6 : τ.2.2.1 6 m = nI 4 := (al.2.1.r (k := 6) (by decide) m).trans t0.2.1
  subst o1
  obtain ⟨τ1, τ2, t1, v2, a1, f1, a2, al2, hs2, hq2, g2, e2, fr2, ik2, ty2⟩ := r_tpE (h0 := h0) (qs := qs) (ks := ks) (n := n + 1) (w := 0) (q := 0) (w0 := -1) H (nc _ (List.mem_cons_self ..) (List.mem_append_left _ (List.mem_singleton.mpr rfl))) al hs hq ev.1.1 (Or.inl rfl) n1 p1 p2 (fun k hk => by have := hc k hk; omega) (by omega)
  have ty2 : uTy Γ v2 τ2 (tE d.1) t1 (gTp (2 * d.1) (tE d.1) [] sc) := ty2
  generalize eF : gTp (2 * d.1) (tE d.1) [] sc = F at ty2
  have sF : gSy F = tE d.1 := ty2.ms.2.2
  have k110 : ∀ k, cAt 110 1 k + cAt 110 1 k = cAt 110 2 k := fun k => by unfold cAt; split <;> rfl
  have z98 : fitC (tE d.1) 98 = 0 := rfl
  have z100 : fitC (tE d.1) 100 = 0 := rfl
  have c1 : v2 110 < 12000 := by
    have h1 : v 110 + (_ + 2 + _) ≤ 12000 := hc 110 (by decide)
    have := (g2 110).2
    omega
  obtain ⟨τ3, b31, al3, hs3, hq3, fr3, kr3⟩ := r_gn (h0 := h0) (qs := qs) (ks := ks) (T := T) (n := n) (c := .inl (a, env)) (hb := true) (x2 := nI xc) al2 hs2 hq2 ⟨xc, rfl, hxc, cd⟩ c1
  have g3 := uGe.at1 v2 110
  have eS : ∀ h, (gSs (.inr (.inl (a, env), h) :: sc)).length = (gSs sc).length := fun h => by rw [gSs_c]
  obtain ⟨t4, τ4, v4, b41, g4, e4, fr4, ik4, al4, ty4⟩ := I1 env xa (.inr (.inl (a, env), true) :: sc) s F x2 (nI (v2 110)) (n + 1) (uUp v2 110) τ3 (tE d.1) (tE d.1) ta w1 ⟨⟨gb.2.2.2.1, wo.2.2.2.1, ev.2.2.1, fun p hp ht => nc p (List.mem_cons_of_mem _ (List.mem_append_left _ hp)) (List.mem_append_right _ (List.mem_append_right _ (List.mem_append_right _ (List.mem_append_left _ ht))))⟩, o2, by rw [eS]; exact p4, by rw [uUp_ne v2 (by decide), uUp_ne v2 (by decide), e2.1, e2.2]; exact n2, al3, ⟨hs3, hq3⟩, fun k hk => by rw [eS]; have := hc k hk; have := (g2 k).2; have := (g3 k).2; have := k110 k; omega⟩ (by omega)
  rw [eS] at g4
  generalize er1 : gWk T f pp ee tE tN b1 env (.inr (.inl (a, env), true) :: sc) F s = r1 at al4 ty4
  have fr24 : uFr v2 τ2 τ4 := fr3.tr fr4 g3.le
  have le24 : ∀ k, v2 k ≤ v4 k := fun k => Nat.le_trans (g3.le k) (g4.le k)
  obtain ⟨τ5, v5, b51, al5, g5, fr5, kr5⟩ := r_fit (h0 := h0) (qs := qs) (ks := ks) (T := T) (n := n + 1) al4 ty4 (uTy.up le24 fr24 _ _ _ ty2) (hs3.up g4.le fr4) (hq3.ik ik4) (by have := ev.1.1; omega) (fun k hk => by have := hc k hk; have := (g2 k).2; have := (g3 k).2; have := (g4 k).2; have := k110 k; omega) (by omega)
  have fr25 := fr24.tr fr5 le24
  have le25 : ∀ k, v2 k ≤ v5 k := fun k => Nat.le_trans (le24 k) (g5.le k)
  have ik25 : uIk Γ τ2 τ5 := (kr3.2.tr ik4).tr kr5.2
  have c2 : v5 110 < 12000 := by
    have h1 : v 110 + (_ + 2 + (_ + 0 + _ + 0)) ≤ 12000 := hc 110 (by decide)
    have := (g2 110).2
    have h3 : _ ≤ v2 110 + 1 := (g3 110).2
    have := (g4 110).2
    have h5 : v5 110 ≤ v4 110 + 0 := (g5 110).2
    omega
  obtain ⟨τ6, b61, al6, hs6, hq6, fr6, kr6⟩ := r_gn (h0 := h0) (qs := qs) (ks := ks) (T := T) (n := n) (c := .inl (a, env)) (hb := false) (x2 := nI xc) al5 (hs2.up le25 fr25) (hq2.ik ik25) ⟨xc, rfl, hxc, cd⟩ c2
  have g6 := uGe.at1 v5 110
  have h98 := g5 98
  have h100 := g5 100
  have e98 : v5 98 = v 98 + yLs (tE d.1) + g98 tE tN b1 := by
    have h := e4.1
    rw [uUp_ne v2 (by decide)] at h
    have := e2.1
    omega
  have e100 : v5 100 = v 100 + yFz (tE d.1) 0 + g100 tE tN b1 := by
    have h := e4.2
    rw [uUp_ne v2 (by decide)] at h
    have := e2.2
    omega
  obtain ⟨t7, τ7, v7, b71, g7, e7, fr7, ik7, al7, ty7⟩ := I2 env xb (.inr (.inl (a, env), false) :: sc) (gFt (gFi (tE d.1) r1.2 F (.inr (.inl (a, env), true) :: sc)) r1.1) F x2 (nI (v5 110)) (n + 1) (uUp v5 110) τ6 (tE d.1) (tE d.1) tb w2 ⟨⟨gb.2.2.2.2, wo.2.2.2.2, ev.2.2.2, fun p hp ht => nc p (List.mem_cons_of_mem _ (List.mem_append_right _ hp)) (List.mem_append_right _ (List.mem_append_right _ (List.mem_append_right _ (List.mem_append_right _ ht))))⟩, o3, by rw [eS]; exact p5, by rw [uUp_ne v5 (by decide), uUp_ne v5 (by decide), e98, e100]; exact n3, al6, ⟨hs6, hq6⟩, fun k hk => by rw [eS]; have := hc k hk; have := (g2 k).2; have := (g3 k).2; have := (g4 k).2; have := (g5 k).2; have := (g6 k).2; have := k110 k; omega⟩ (by omega)
  rw [eS] at g7
  generalize er2 : gWk T f pp ee tE tN b2 env (.inr (.inl (a, env), false) :: sc) F (gFt (gFi (tE d.1) r1.2 F (.inr (.inl (a, env), true) :: sc)) r1.1) = r2 at al7 ty7
  have fr57 : uFr v5 τ5 τ7 := fr6.tr fr7 g6.le
  have le57 : ∀ k, v5 k ≤ v7 k := fun k => Nat.le_trans (g6.le k) (g7.le k)
  have fr27 := fr25.tr fr57 le25
  have le27 : ∀ k, v2 k ≤ v7 k := fun k => Nat.le_trans (le25 k) (le57 k)
  obtain ⟨τ8, v8, b81, al8, g8, fr8, kr8⟩ := r_fit (h0 := h0) (qs := qs) (ks := ks) (T := T) (n := n + 1) al7 ty7 (uTy.up le27 fr27 _ _ _ ty2) (hs6.up g7.le fr7) (hq6.ik ik7) (by have := ev.1.1; omega) (fun k hk => by have := hc k hk; have := (g2 k).2; have := (g3 k).2; have := (g4 k).2; have := (g5 k).2; have := (g6 k).2; have := (g7 k).2; have := k110 k; omega) (by omega)
  have eW : gWk T f pp ee tE tN (.inner 4 d z a (.inner 31 d' z' b1 b2)) env sc A0 s = (gFt (gFi (tE d.1) r2.2 F (.inr (.inl (a, env), false) :: sc)) r2.1, F) := by
    subst er2 er1
    show ((gWk T f pp ee tE tN (.inner 31 d' z' b1 b2) env (.inr (.inl (a, env), true) :: sc) (gTp (2 * d.1) (tE d.1) [] sc) s).1, gTp (2 * d.1) (tE d.1) [] sc) = _
    rw [eF]
    show (gFt (gFi (gSy F) _ F _) _, F) = _
    rw [sF]
    rfl
  have h98' := g8 98
  have h100' := g8 100
  have G := (((((g2.tr g3).tr g4).tr g5).tr g6).tr g7).tr g8
  rw [eW]
  refine ⟨t1, τ8, v8, ?_, fun k => ⟨(G k).1, ?_⟩, ⟨?_, ?_⟩, (fr2.tr fr27 g2.le).tr fr8 (fun k => Nat.le_trans (g2.le k) (le27 k)), (((ik2.tr ik25).tr kr6.2).tr ik7).tr kr8.2, al8, ?_⟩
  · have q39 := f1.r (k := 39) (by decide) m
    have q9 := (al2.2.1.r (k := 9) (by decide) m).trans t9
    have q11 := (al3.2.1.r (k := 11) (by decide) m).trans t11
    have q9' := (al5.2.1.r (k := 9) (by decide) m).trans t9
    have q12 := (al6.2.1.r (k := 12) (by decide) m).trans t12
    have a2 : zF h0 qs ks T (n + 1) 76 [.ref h0, .int (V.2.2.1 39 m), .int (-1), .int 0] τ1 = _ := a2
    have b31 : zF h0 qs ks T (n + 1) 74 [.ref h0, .int x3, .int (nI xc), .int 1] τ2 = _ := b31
    have b61 : zF h0 qs ks T (n + 1) 74 [.ref h0, .int x3, .int (nI xc), .int 0] τ5 = _ := b61
    rw [show n + 2 = (n + 1) + 1 from rfl, zE_richOf]
    unfold b_richOf
    rw [zgd_at (zin_n hm (by decide)), nI_clamp (show m < 2 ^ 31 by omega), e6, if_neg (by decide), if_neg (by decide), if_neg (by decide), if_pos (by decide), a1, zcv_at, zgd_at (zin_n hm (by decide)), q39, a2, zci_at, zgd_at (zin_n hm (by decide)), show τ2.2.2.1 9 m = nI xc from q9, b31, zci_at, zgd_at (zin_n hm (by decide)), show τ3.2.2.1 11 m = nI xa from q11, b41, zci_at, b51, zcv_at, zgd_at (zin_n hm (by decide)), show τ5.2.2.1 9 m = nI xc from q9', b61, zci_at, zgd_at (zin_n hm (by decide)), show τ6.2.2.1 12 m = nI xb from q12, b71, zci_at, b81, zcv_at]
  · have q := (G k).2
    dsimp only at q
    have := k110 k
    show v8 k ≤ v k + (tpC Γ.2.2.2.1 (tE d.1) (gSs sc).length 0 k + cAt 110 2 k + (gTc f pp ee tE tN Γ.2.2.2.1 b1 env (tE d.1) (gSs sc).length k + fitC (tE d.1) k + gTc f pp ee tE tN Γ.2.2.2.1 b2 env (tE d.1) (gSs sc).length k + fitC (tE d.1) k))
    omega
  · have h := e7.1
    rw [uUp_ne v5 (by decide)] at h
    show v8 98 = v 98 + (yLs (tE d.1) + (g98 tE tN b1 + g98 tE tN b2))
    omega
  · have h := e7.2
    rw [uUp_ne v5 (by decide)] at h
    show v8 100 = v 100 + (yFz (tE d.1) 0 + (g100 tE tN b1 + g100 tE tN b2))
    omega
  · exact uTy.up g8.le fr8 _ _ _ (uTy.up le27 fr27 _ _ _ ty2)
end URO
