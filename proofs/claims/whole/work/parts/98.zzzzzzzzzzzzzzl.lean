/-! the reference's richOf(): match -/
section URO
variable {ks : Nat → Nat} {qs : List Nat} {T h0 len cnt lo N S P A : Nat} {L env : List Nat} {V τ : zSt} {kk pp ee f : Nat → Int32} {g : gG} {ρ tE tN : Nat → tY} {Γ : uGm} {CD : tT → Nat → Prop} {d : Nat × Nat × Nat × tS × tS} {z : Unit} {a b : tT}
set_option maxHeartbeats 2000000 in
/-- match -/
theorem ur_19 (H : uH T len cnt lo N S P A L V kk pp ee f g ρ tN Γ CD) (Ia : uRo ks qs T h0 cnt lo N S P A L V kk pp ee f g ρ tE tN Γ CD a) (Ib : uRo ks qs T h0 cnt lo N S P A L V kk pp ee f g ρ tE tN Γ CD b) (wa : tWf kk cnt a 0) (wb : tWf kk cnt b 0) (hw : d.1 + 1 < 2010 ∧ d.2.1 + 1 < 2010) : uRo ks qs T h0 cnt lo N S P A L V kk pp ee f g ρ tE tN Γ CD (.inner 19 d z a b) := fun env m sc s A0 x2 x3 n v τ y yc tr wf ⟨ft, ok, cp, nb, al, ⟨hs, hq⟩, hc⟩ hn => by
  obtain ⟨n, rfl⟩ : ∃ n', n = n' + 3 := ⟨n - 3, by omega⟩
  obtain ⟨gd, wo, ev, nc⟩ := ft
  obtain ⟨t0, ⟨t9, t10⟩, xa, xb, ⟨t11, t12⟩, ta, tb⟩ := tr
  have hm : m < 2100 := by have := t0.1.2; have := H.1.1.2.1; omega
  have hxa : xa < 2100 := by have := (rTr_fw ta wa).1; have := H.1.1.2.1; omega
  have hxb : xb < 2100 := by have := (rTr_fw tb wb).1; have := H.1.1.2.1; omega
  have nc : ∀ p, p ∈ (m, d.1) :: (nE V a 0 (V.2.2.1 11 m).toNatClampNeg ++ nE V b 0 (V.2.2.1 12 m).toNatClampNeg) → p.2 ∈ tTg _ → nC V g ρ tE p := nc
  rw [show V.2.2.1 11 m = nI xa from t11, show V.2.2.1 12 m = nI xb from t12, nI_clamp (by omega), nI_clamp (by omega)] at nc
  have wo : rUs f pp ee (V.2.2.1 32) L env (d.1 + 1) ∧ rWo f pp ee (V.2.2.1 32) L a env ∧ (rTo (V.2.2.1 32) L d.2.1 ∧ rTo (V.2.2.1 32) L (d.2.1 + 1)) ∧ rWo f pp ee (V.2.2.1 32) L b (env ++ [d.2.1, d.2.1 + 1]) := wo
  have ev : (env.length ≤ 12 ∧ ∀ u, u ∈ env → u ∈ L) ∧ rEv L a env ∧ rEv L b (env ++ [d.2.1, d.2.1 + 1]) := ev
  have hn : 220 + (max (tDq a) (tDq b) + 3) ≤ n + 3 := hn
  obtain ⟨l1, l2, l3, l4⟩ := H.us wo.1
  obtain ⟨i1, i2, i3⟩ := H.to wo.2.2.1.1
  obtain ⟨j1, j2, j3⟩ := H.to wo.2.2.1.2
  obtain ⟨o1, -, ⟨o4, o5⟩, o2, o3⟩ : tE d.1 = y ∧ _ ∧ (tN d.2.1 = yB 0 ∧ tN (d.2.1 + 1) = yB 3) ∧ gOk f pp ee tE tN a env y ∧ gOk f pp ee tE tN b (env ++ [d.2.1, d.2.1 + 1]) y := ok
  obtain ⟨n1, n2, n3⟩ : mOk Γ (tE d.1) (2 * d.1, [], tE d.1, [], []) (v 100) (v 98) ∧ gNb tE tN Γ a (v 100 + yFz (tE d.1) 0) (v 98 + yLs (tE d.1)) ∧ gNb tE tN Γ b (v 100 + yFz (tE d.1) 0 + g100 tE tN a) (v 98 + yLs (tE d.1) + g98 tE tN a) := nb
  obtain ⟨p1, -, p3, p4⟩ := cp
  obtain ⟨p1, p2⟩ := p1 (Or.inr (Or.inr (Or.inr (Or.inr rfl))))
  have p3 : gCp tE tN a (gSs sc).length := p3
  have p4 : gCp tE tN b ((gSs sc).length + 2) := p4
  have hc : ∀ k, k ∈ uCt → v k + (tpC Γ.2.2.2.1 (tE d.1) (gSs sc).length 0 k + cAt 110 2 k + gTc f pp ee tE tN Γ.2.2.2.1 a env yc (gSs sc).length k + fitC (tE d.1) k + cAt 109 2 k + 2 * cE1 k + gTc f pp ee tE tN Γ.2.2.2.1 b (env ++ [d.2.1, d.2.1 + 1]) yc ((gSs sc).length + 2) k + fitC (tE d.1) k) ≤ uLm k := hc
  have e6 : τ.2.2.1 6 m = nI 19 := (al.2.1.r (k := 6) (by decide) m).trans t0.2.1
  subst o1
  obtain ⟨τ1, τ2, t1, v2, a1, f1, a2, al2, hs2, hq2, g2, e2, fr2, ik2, ty2⟩ := r_tpE (h0 := h0) (qs := qs) (ks := ks) (n := n + 2) (w := 0) (q := 0) (w0 := -1) H (nc _ (List.mem_cons_self ..) (List.mem_append_left _ (List.mem_singleton.mpr rfl))) al hs hq ev.1.1 (Or.inl rfl) n1 p1 p2 (fun k hk => by have := hc k hk; omega) (by omega)
  have ty2 : uTy Γ v2 τ2 (tE d.1) t1 (gTp (2 * d.1) (tE d.1) [] sc) := ty2
  generalize eF : gTp (2 * d.1) (tE d.1) [] sc = F at ty2
  generalize el : gNu f pp ee env (d.1 + 1) = l at l1 l2 l3 l4
  have k110 : ∀ k, cAt 110 1 k + cAt 110 1 k = cAt 110 2 k := fun k => by unfold cAt; split <;> rfl
  have k109 : ∀ k, cAt 109 1 k + cAt 109 1 k = cAt 109 2 k := fun k => by unfold cAt; split <;> rfl
  have z98 : fitC (tE d.1) 98 = 0 := rfl
  have z100 : fitC (tE d.1) 100 = 0 := rfl
  have c1 : v2 110 < 12000 := by
    have h1 : v 110 + (_ + 2 + _ + _ + _ + _ + _ + _) ≤ 12000 := hc 110 (by decide)
    have := (g2 110).2
    omega
  obtain ⟨τ3, b31, al3, hs3, hq3, fr3, kr3⟩ := r_gn (h0 := h0) (qs := qs) (ks := ks) (T := T) (n := n + 1) (c := .inr l) (hb := true) (x2 := (-2) - nI (Γ.1 (.inl l))) al2 hs2 hq2 rfl c1
  have g3 := uGe.at1 v2 110
  have eS : ∀ h, (gSs (.inr (.inr l, h) :: sc)).length = (gSs sc).length := fun h => by rw [gSs_c]
  obtain ⟨t4, τ4, v4, b41, g4, e4, fr4, ik4, al4, ty4⟩ := Ia env xa (.inr (.inr l, true) :: sc) s A0 x2 (nI (v2 110)) (n + 2) (uUp v2 110) τ3 (tE d.1) yc ta wa ⟨⟨gd.2.2.2.1, wo.2.1, ev.2.1, fun p hp ht => nc p (List.mem_cons_of_mem _ (List.mem_append_left _ hp)) (List.mem_append_right _ (List.mem_append_left _ ht))⟩, o2, by rw [eS]; exact p3, by rw [uUp_ne v2 (by decide), uUp_ne v2 (by decide), e2.1, e2.2]; exact n2, al3, ⟨hs3, hq3⟩, fun k hk => by rw [eS]; have := hc k hk; have := (g2 k).2; have := (g3 k).2; have := k110 k; omega⟩ (by omega)
  rw [eS] at g4
  generalize er1 : gWk T f pp ee tE tN a env (.inr (.inr l, true) :: sc) A0 s = r1 at al4 ty4
  have fr24 : uFr v2 τ2 τ4 := fr3.tr fr4 g3.le
  have le24 : ∀ k, v2 k ≤ v4 k := fun k => Nat.le_trans (g3.le k) (g4.le k)
  obtain ⟨τ5, v5, b51, al5, g5, fr5, kr5⟩ := r_fit (h0 := h0) (qs := qs) (ks := ks) (T := T) (n := n + 2) al4 ty4 (uTy.up le24 fr24 _ _ _ ty2) (hs3.up g4.le fr4) (hq3.ik ik4) (by have := ev.1.1; omega) (fun k hk => by have := hc k hk; have := (g2 k).2; have := (g3 k).2; have := (g4 k).2; have := k110 k; omega) (by omega)
  have fr25 := fr24.tr fr5 le24
  have le25 : ∀ k, v2 k ≤ v5 k := fun k => Nat.le_trans (le24 k) (g5.le k)
  have ik25 : uIk Γ τ2 τ5 := (kr3.2.tr ik4).tr kr5.2
  have g25 : uGe v v5 (fun k => tpC Γ.2.2.2.1 (tE d.1) (gSs sc).length 0 k + cAt 110 1 k + gTc f pp ee tE tN Γ.2.2.2.1 a env yc (gSs sc).length k + fitC (tE d.1) k) := ((g2.tr g3).tr g4).tr g5
  have c2 : v5 110 < 12000 := by
    have h1 : v 110 + (_ + 2 + _ + _ + _ + _ + _ + _) ≤ 12000 := hc 110 (by decide)
    have h2 : v5 110 ≤ v 110 + (_ + 1 + _ + _) := (g25 110).2
    omega
  obtain ⟨τ6, b61, al6, hs6, hq6, fr6, kr6⟩ := r_gn (h0 := h0) (qs := qs) (ks := ks) (T := T) (n := n + 1) (c := .inr l) (hb := false) (x2 := (-2) - nI (Γ.1 (.inl l))) al5 (hs2.up le25 fr25) (hq2.ik ik25) rfl c2
  have g6 := uGe.at1 v5 110
  have h98 := g5 98
  have h100 := g5 100
  have e98 : v5 98 = v 98 + yLs (tE d.1) + g98 tE tN a := by
    have h := e4.1
    rw [uUp_ne v2 (by decide)] at h
    have := e2.1
    omega
  have e100 : v5 100 = v 100 + yFz (tE d.1) 0 + g100 tE tN a := by
    have h := e4.2
    rw [uUp_ne v2 (by decide)] at h
    have := e2.2
    omega
  -- the first int
  have cap6 : ∀ k, k ∈ uCt → uUp v5 110 k + (2 * cE1 k + cAt 109 2 k) ≤ uLm k := fun k hk => by
    have := hc k hk
    have q := (g25 k).2
    dsimp only at q
    have := (g6 k).2
    have := k110 k
    omega
  generalize ev6 : uUp v5 110 = v6 at *
  have m75 : v6 75 + 2 ≤ 40000 := cap6 75 (by decide)
  have m79 : v6 79 + 2 ≤ 24000 := cap6 79 (by decide)
  have m85 : v6 85 + 2 ≤ 12000 := cap6 85 (by decide)
  have m109 : v6 109 + 2 ≤ 12000 := cap6 109 (by decide)
  obtain ⟨τ7, b71, V7, fr7, ke7, ty7⟩ := r_pl3 (h0 := h0) (qs := qs) (ks := ks) (T := T) (n := n) (Γ := Γ) (l := .leaf) (r := .leaf) al6.1 (by omega) (by omega)
  have g7 : uGe v6 (uAd v6 1 1 0 0) cE1 := uGe.ad3 (Nat.le_refl 1) (Nat.le_refl 1) (Nat.zero_le _) rfl
  have al7 := al6.up (uAd_le v6 1 1 0 0) rfl rfl V7 fr7 (ke7.kr (Γ := Γ))
  have ik7 : uIk Γ τ6 τ7 := ke7.ik
  have ty7' : uTy Γ (uAd v6 1 1 0 0) τ7 (tN d.2.1) (v6 75) (gPl (yB 0)) := by rw [o4]; exact ty7
  obtain ⟨τ8, b81, al8, hs8, hq8, fr8, ik8⟩ := r_tel (h0 := h0) (qs := qs) (ks := ks) (T := T) (n := n + 1) H.2.1 ev.1.2 i1 al7 ty7' (hs6.up g7.le fr7) (hq6.ik ik7) (show uAd v6 1 1 0 0 109 < 12000 by show v6 109 < 12000; omega)
  have g8 := uGe.at1 (uAd v6 1 1 0 0) 109
  have x109 : uAd v6 1 1 0 0 109 = v6 109 := rfl
  rw [x109] at b81 hs8
  -- the rest
  obtain ⟨τa, τb, τ9, b91, b92, b93, V9, fr9, ke9, ty9⟩ := r_eq1 (h0 := h0) (qs := qs) (ks := ks) (T := T) (n := n + 1) (Γ := Γ) (te := (some (.inl l, 1), -1)) (k := 4) (l := .leaf) (r := .leaf) (Or.inr (Or.inr rfl)) al8.1 (by show v6 75 + 1 < 40000; omega) (by show v6 79 + 1 < 24000; omega) (by show v6 85 < 12000; omega)
  generalize ev8 : uUp (uAd v6 1 1 0 0) 109 = v8 at *
  have w109 : v8 109 = v6 109 + 1 := by rw [← ev8]; exact uUp_at _ _
  have g9 : uGe v8 (uAd v8 1 1 1 0) cE1 := uGe.ad3 (Nat.le_refl 1) (Nat.le_refl 1) (Nat.le_refl 1) rfl
  have al9 := al8.up (uAd_le v8 1 1 1 0) rfl rfl V9 fr9 (ke9.kr (Γ := Γ))
  have ik9 : uIk Γ τ8 τ9 := ke9.ik
  have ty9' : uTy Γ (uAd v8 1 1 1 0) τ9 (tN (d.2.1 + 1)) (v8 75) (gEq (yB 3) (some (.inl l, 1), -1)) := by rw [o5]; exact ty9
  obtain ⟨τ10, c01, al10, hs10, hq10, fr10, ik10⟩ := r_tel (h0 := h0) (qs := qs) (ks := ks) (T := T) (n := n + 1) H.2.1 (fun w hw => by
    rcases List.mem_append.mp hw with h | h
    · exact ev.1.2 w h
    · rw [List.mem_singleton.mp h]; exact i1) j1 al9 ty9' (hs8.up g9.le fr9) (hq8.ik ik9) (show uAd v8 1 1 1 0 109 < 12000 by show v8 109 < 12000; omega)
  have g10 := uGe.at1 (uAd v8 1 1 1 0) 109
  have y109 : uAd v8 1 1 1 0 109 = v8 109 := rfl
  rw [y109] at c01 hs10
  generalize ev10 : uUp (uAd v8 1 1 1 0) 109 = v10 at *
  have eE : env ++ [d.2.1] ++ [d.2.1 + 1] = env ++ [d.2.1, d.2.1 + 1] := by rw [List.append_assoc]; rfl
  rw [eE] at al10
  have g610 : uGe v6 v10 (fun k => cE1 k + cAt 109 1 k + cE1 k + cAt 109 1 k) := ((g7.tr g8).tr g9).tr g10
  have fr610 : uFr v6 τ6 τ10 := ((fr7.tr fr8 g7.le).tr fr9 (fun k => Nat.le_trans (g7.le k) (g8.le k))).tr fr10 (fun k => Nat.le_trans (Nat.le_trans (g7.le k) (g8.le k)) (g9.le k))
  have ik610 : uIk Γ τ6 τ10 := ((ik7.tr ik8).tr ik9).tr ik10
  have w98 : v10 98 = v5 98 := by rw [← ev10, uUp_ne _ (by decide)]; show v8 98 = _; rw [← ev8, uUp_ne _ (by decide)]; show v6 98 = _; rw [← ev6, uUp_ne _ (by decide)]
  have w100 : v10 100 = v5 100 := by rw [← ev10, uUp_ne _ (by decide)]; show v8 100 = _; rw [← ev8, uUp_ne _ (by decide)]; show v6 100 = _; rw [← ev6, uUp_ne _ (by decide)]
  generalize esc : gNm (.inl (d.2.1 + 1)) (gEq (yB 3) (some (.inl l, 1), -1)) (gNm (.inl d.2.1) (gPl (yB 0)) (.inr (.inr l, false) :: sc)) = sc10 at *
  have eS10 : (gSs sc10).length = (gSs sc).length + 2 := by
    rw [← esc, gSs_nm, gSs_nm, gSs_c]
    rfl
  generalize es10 : gTn (d.2.1 + 1) (gEq (yB 3) (some (.inl l, 1), -1)) (gTn d.2.1 (gPl (yB 0)) (gFt (gFi (tE d.1) r1.2 F (.inr (.inr l, true) :: sc)) r1.1)) = s10 at *
  obtain ⟨t11', τ11, v11, d11, g11, e11, fr11, ik11, al11, ty11⟩ := Ib (env ++ [d.2.1, d.2.1 + 1]) xb sc10 s10 A0 (nI (v8 109)) (nI (v5 110)) (n + 2) v10 τ10 (tE d.1) yc tb wb ⟨⟨gd.2.2.2.2, wo.2.2.2, ev.2.2, fun p hp ht => nc p (List.mem_cons_of_mem _ (List.mem_append_right _ hp)) (List.mem_append_right _ (List.mem_append_right _ ht))⟩, o3, by rw [eS10]; exact p4, by rw [w98, w100, e98, e100]; exact n3, al10, ⟨by rw [List.length_append]; exact hs10, hq10⟩, fun k hk => by
    rw [eS10]
    have := hc k hk
    have q := (g25 k).2
    have q2 := (g610 k).2
    dsimp only at q q2
    have := (g6 k).2
    have := k110 k
    have := k109 k
    omega⟩ (by omega)
  rw [eS10] at g11
  generalize er2 : gWk T f pp ee tE tN b (env ++ [d.2.1, d.2.1 + 1]) sc10 A0 s10 = r2 at al11 ty11
  have g5b : uGe v v6 (fun k => tpC Γ.2.2.2.1 (tE d.1) (gSs sc).length 0 k + cAt 110 1 k + gTc f pp ee tE tN Γ.2.2.2.1 a env yc (gSs sc).length k + fitC (tE d.1) k + cAt 110 1 k) := g25.tr g6
  have le26 : ∀ k, v2 k ≤ v6 k := fun k => Nat.le_trans (le25 k) (g6.le k)
  have le611 : ∀ k, v6 k ≤ v11 k := fun k => Nat.le_trans (g610.le k) (g11.le k)
  have fr611 := fr610.tr fr11 g610.le
  have fr211 : uFr v2 τ2 τ11 := (fr25.tr fr6 le25).tr fr611 le26
  have le211 : ∀ k, v2 k ≤ v11 k := fun k => Nat.le_trans (le26 k) (le611 k)
  obtain ⟨τ12, v12, d12, al12, g12, fr12, kr12⟩ := r_fit (h0 := h0) (qs := qs) (ks := ks) (T := T) (n := n + 2) (al11.ev (env' := env) (fun u hu => List.mem_append_left _ hu)) ty11 (uTy.up le211 fr211 _ _ _ ty2) (hs10.up g11.le fr11) (hq10.ik ik11) (by have := ev.1.1; omega) (fun k hk => by
    have := hc k hk
    have q := (g5b k).2
    have q2 := (g610 k).2
    dsimp only at q q2
    have := (g11 k).2
    have := k110 k
    have := k109 k
    omega) (by omega)
  have eW : gWk T f pp ee tE tN (.inner 19 d z a b) env sc A0 s = (gFt (gFi (tE d.1) r2.2 F sc10) r2.1, F) := by
    subst er2 er1 es10 esc eF el
    rfl
  have h98' := g12 98
  have h100' := g12 100
  have G : uGe v v12 _ := ((g5b.tr g610).tr g11).tr g12
  rw [eW]
  refine ⟨t1, τ12, v12, ?_, fun k => ⟨(G k).1, ?_⟩, ⟨?_, ?_⟩, (fr2.tr fr211 g2.le).tr fr12 (fun k => Nat.le_trans (g2.le k) (le211 k)), ((((ik2.tr ik25).tr kr6.2).tr ik610).tr ik11).tr kr12.2, al12, ?_⟩
  · have q39 := f1.r (k := 39) (by decide) m
    have q9 := (al2.2.1.r (k := 9) (by decide) m).trans t9
    have q32 := (al2.2.1.r (k := 32) (by decide) (d.1 + 1)).trans l3
    have q11 := (al3.2.1.r (k := 11) (by decide) m).trans t11
    have q10 := (al6.2.1.r (k := 10) (by decide) m).trans t10
    have q32' := (al6.2.1.r (k := 32) (by decide) d.2.1).trans i2
    have q10' := (al8.2.1.r (k := 10) (by decide) m).trans t10
    have q32'' := (al8.2.1.r (k := 32) (by decide) (d.2.1 + 1)).trans j2
    have q12 := (al10.2.1.r (k := 12) (by decide) m).trans t12
    have a2 : zF h0 qs ks T (n + 2) 76 [.ref h0, .int (V.2.2.1 39 m), .int (-1), .int 0] τ1 = _ := a2
    have b31 : zF h0 qs ks T (n + 2) 74 [.ref h0, .int x3, .int ((-2) - nI (Γ.1 (.inl l))), .int 1] τ2 = _ := b31
    have b61 : zF h0 qs ks T (n + 2) 74 [.ref h0, .int x3, .int ((-2) - nI (Γ.1 (.inl l))), .int 0] τ5 = _ := b61
    have b91 : zF h0 qs ks T (n + 2) 69 [.ref h0, .int 0, .int (nI (Γ.1 (.inl l))), .int 1, .long (-1), .int (-1)] τ8 = _ := b91
    have b93 : zF h0 qs ks T (n + 2) 67 [.ref h0, .int 5, .int (nI (v8 79)), .int (-1), .int (-1), .int (-1)] τb = _ := b93
    rw [show n + 3 = (n + 2) + 1 from rfl, zE_richOf]
    unfold b_richOf
    rw [zgd_at (zin_n hm (by decide)), nI_clamp (show m < 2 ^ 31 by omega), e6]
    iterate 18 rw [if_neg (by decide)]
    rw [if_pos (by decide), a1, zcv_at, zgd_at (zin_n hm (by decide)), q39, a2, zci_at, zgd_at (zin_n hm (by decide)), show τ2.2.2.1 9 m = nI (d.1 + 1) from q9, zgd_at (zin_n hw.1 (by decide)), nI_clamp (show d.1 + 1 < 2 ^ 31 by omega), q32, b31, zci_at, zgd_at (zin_n hm (by decide)), show τ3.2.2.1 11 m = nI xa from q11, b41, zci_at, b51, zcv_at, b61, zci_at, zgd_at (zin_n hm (by decide)), show τ6.2.2.1 10 m = nI d.2.1 from q10, zgd_at (zin_n (show d.2.1 < 2010 by omega) (by decide)), b71, zci_at, nI_clamp (show d.2.1 < 2 ^ 31 by omega), q32', zgd_at (zin_n i3 (by decide)), zlet_at, zgd_at (zin_n i3 (by decide)), nI_clamp (show Γ.1 (.inl d.2.1) < 2 ^ 31 by omega), zA_74, upd_at', b81, zci_at, zgd_at (zin_n hm (by decide)), show τ8.2.2.1 10 m = nI d.2.1 from q10', nI_p1, zgd_at (zin_n hw.2 (by decide)), b91, zci_at, b92, zci_at, b93, zci_at, nI_clamp (show d.2.1 + 1 < 2 ^ 31 by omega), q32'', zgd_at (zin_n j3 (by decide)), zlet_at, zgd_at (zin_n j3 (by decide)), nI_clamp (show Γ.1 (.inl (d.2.1 + 1)) < 2 ^ 31 by omega), zA_74, upd_at', c01, zci_at, zgd_at (zin_n hm (by decide)), show τ10.2.2.1 12 m = nI xb from q12, d11, zci_at, d12, zcv_at]
  · have q := (G k).2
    try dsimp only at q
    have := k110 k
    have := k109 k
    show v12 k ≤ v k + (tpC Γ.2.2.2.1 (tE d.1) (gSs sc).length 0 k + cAt 110 2 k + gTc f pp ee tE tN Γ.2.2.2.1 a env yc (gSs sc).length k + fitC (tE d.1) k + cAt 109 2 k + 2 * cE1 k + gTc f pp ee tE tN Γ.2.2.2.1 b (env ++ [d.2.1, d.2.1 + 1]) yc ((gSs sc).length + 2) k + fitC (tE d.1) k)
    omega
  · have h := e11.1
    show v12 98 = v 98 + (yLs (tE d.1) + g98 tE tN a + g98 tE tN b)
    omega
  · have h := e11.2
    show v12 100 = v 100 + (yFz (tE d.1) 0 + g100 tE tN a + g100 tE tN b)
    omega
  · exact uTy.up g12.le fr12 _ _ _ (uTy.up le211 fr211 _ _ _ ty2)
end URO
