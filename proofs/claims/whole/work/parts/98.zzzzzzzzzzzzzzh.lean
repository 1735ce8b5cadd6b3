/-! the reference's richOf(): fun -/
section URO
variable {ks : Nat → Nat} {qs : List Nat} {T h0 len cnt lo N S P A : Nat} {L env : List Nat} {V τ : zSt} {kk pp ee f : Nat → Int32} {g : gG} {ρ tE tN : Nat → tY} {Γ : uGm} {CD : tT → Nat → Prop} {d : Nat × Nat × Nat × tS × tS} {z : Unit} {a b : tT}
/-- a function's parameter and answer -/
theorem uTy.fn {v : Nat → Nat} {l r : tY} {t : Nat} {F : gTy} (h : uTy Γ v τ (.inner 0 () () l r) t F) : t < v 75 ∧ (τ.2.2.1 44 t = nI (Γ.1 (gPn F)) ∧ uNm Γ (gPn F) ∧ Γ.2.2.2.2.1 (gPn F) = l) ∧ ∃ tl tr, τ.2.2.1 45 t = nI tl ∧ τ.2.2.1 46 t = nI tr ∧ uTy Γ v τ l tl (gTk F) ∧ uTy Γ v τ r tr (gAn F) := by
  obtain ⟨h1, h2, h3⟩ := h
  rw [if_pos rfl] at h3
  exact ⟨h1, h3.2.2.1, h3.2.2.2⟩
set_option maxHeartbeats 1000000 in
/-- fun -/
theorem ur_3 (H : uH T len cnt lo N S P A L V kk pp ee f g ρ tN Γ CD) (Ia : uRo ks qs T h0 cnt lo N S P A L V kk pp ee f g ρ tE tN Γ CD a) (wa : tWf kk cnt a 0) (hw : d.1 + 1 < 2009) : uRo ks qs T h0 cnt lo N S P A L V kk pp ee f g ρ tE tN Γ CD (.inner 3 d z a b) := fun env m sc s A0 x2 x3 n v τ y yc tr wf ⟨ft, ok, cp, nb, al, ⟨hs, hq⟩, hc⟩ hn => by
  obtain ⟨n, rfl⟩ : ∃ n', n = n' + 2 := ⟨n - 2, by omega⟩
  obtain ⟨gd, wo, ev, nc⟩ := ft
  obtain rfl : b = .leaf := gd.2.2.1.2.2 (Or.inl rfl)
  obtain ⟨t0, t9, xa, t11, ta⟩ := tr
  have hm : m < 2100 := by have := t0.1.2; have := H.1.1.2.1; omega
  have hxa : xa < 2100 := by have := (rTr_fw ta wa).1; have := H.1.1.2.1; omega
  have nc : ∀ p, p ∈ (m, d.1) :: nE V a 0 (V.2.2.1 11 m).toNatClampNeg → p.2 ∈ tTg _ → nC V g ρ tE p := nc
  rw [show V.2.2.1 11 m = nI xa from t11, nI_clamp (by omega)] at nc
  have wo : rTo (V.2.2.1 32) L (d.1 + 1) ∧ rWo f pp ee (V.2.2.1 32) L a (env ++ [d.1 + 1]) := wo
  have ev : (env.length ≤ 12 ∧ ∀ u, u ∈ env → u ∈ L) ∧ rEv L a (env ++ [d.1 + 1]) := ev
  have hn : 220 + (tDq a + 3) ≤ n + 2 := by
    have : 220 + tDq (.inner 3 d z a .leaf) ≤ n + 2 := hn
    have e : tDq (.inner 3 d z a .leaf) = max (tDq a) (tDq .leaf) + 3 := rfl
    omega
  obtain ⟨u1, u2, u3⟩ := H.to wo.1
  obtain ⟨o1, rr, o2, o3⟩ : tE d.1 = y ∧ ∃ r, y = yA (tN (d.1 + 1)) r ∧ gOk f pp ee tE tN a (env ++ [d.1 + 1]) r := ok
  subst o2
  obtain ⟨n1, n2⟩ : mOk Γ (tE d.1) (2 * d.1, [], tE d.1, [d.1 + 1], []) (v 100) (v 98) ∧ gNb tE tN Γ a (v 100 + yFz (tE d.1) 1) (v 98 + yLs (tE d.1)) := nb
  obtain ⟨p1, -, p3, -⟩ := cp
  obtain ⟨p1, p2⟩ := p1 (Or.inr (Or.inr (Or.inl rfl)))
  have p3 : gCp tE tN a ((gSs sc).length + yM1 (tN (d.1 + 1))) := p3
  have hc : ∀ k, k ∈ uCt → v k + (tpC Γ.2.2.2.1 (tE d.1) (gSs sc).length 1 k + cAt 109 1 k + gTc f pp ee tE tN Γ.2.2.2.1 a (env ++ [d.1 + 1]) yc ((gSs sc).length + yM1 (tN (d.1 + 1))) k + fitC (yR (tE d.1)) k) ≤ uLm k := hc
  have e6 : τ.2.2.1 6 m = nI 3 := (al.2.1.r (k := 6) (by decide) m).trans t0.2.1
  obtain ⟨τ1, τ2, t1, v2, a1, f1, a2, al2, hs2, hq2, g2, e2, fr2, ik2, ty2⟩ := r_tpE (h0 := h0) (qs := qs) (ks := ks) (n := n + 1) (w := d.1 + 1) (q := 1) (w0 := nI (d.1 + 1)) H (nc _ (List.mem_cons_self ..) (List.mem_append_left _ (List.mem_singleton.mpr rfl))) al hs hq ev.1.1 (Or.inr ⟨rfl, by omega, fun i hi => (show i = 0 by omega) ▸ u2⟩) n1 p1 p2 (fun k hk => by have := hc k hk; omega) (by omega)
  have ty2 : uTy Γ v2 τ2 (tE d.1) t1 (gTp (2 * d.1) (tE d.1) [d.1 + 1] sc) := ty2
  have yF : tE d.1 = .inner 0 () () (tN (d.1 + 1)) rr := o1
  have tyF := ty2
  generalize eF : gTp (2 * d.1) (tE d.1) [d.1 + 1] sc = F at ty2 tyF
  rw [yF] at tyF
  obtain ⟨k1, -, tl, tr, k2, k3, k4, k5⟩ := tyF.fn
  have t1l : t1 < 40000 := by have h := (al2.1 75 (by decide)).2; have e : uLm 75 = 40000 := rfl; omega
  have c109 : v2 109 < 12000 := by
    have h1 : v 109 + (_ + 1 + _ + _) ≤ 12000 := hc 109 (by decide)
    have := (g2 109).2
    omega
  obtain ⟨τ4, c1, al4, hs4, hq4, fr4, ik4⟩ := r_tel (h0 := h0) (qs := qs) (ks := ks) (T := T) (n := n) H.2.1 ev.1.2 u1 al2 k4 hs2 hq2 c109
  have g4 := uGe.at1 v2 109
  have eS : (gSs (gNm (.inl (d.1 + 1)) (gTk F) sc)).length = (gSs sc).length + yM1 (tN (d.1 + 1)) := by rw [gSs_nm, k4.ms.2.2]
  obtain ⟨t5, τ5, v5, d1, g5, e5, fr5, ik5, al5, ty5⟩ := Ia (env ++ [d.1 + 1]) xa (gNm (.inl (d.1 + 1)) (gTk F) sc) (gTn (d.1 + 1) (gTk F) s) A0 (nI (v2 109)) x3 (n + 1) (uUp v2 109) τ4 rr yc ta wa ⟨⟨gd.2.2.2.1, wo.2, ev.2, fun p hp ht => nc p (List.mem_cons_of_mem _ hp) (List.mem_append_right _ (List.mem_append_left _ ht))⟩, o3, by rw [eS]; exact p3, by rw [uUp_ne v2 (by decide), uUp_ne v2 (by decide), e2.1, e2.2]; exact n2, al4, ⟨by rw [List.length_append]; exact hs4, hq4⟩, fun k hk => by rw [eS]; have := hc k hk; have := (g2 k).2; have := (g4 k).2; omega⟩ (by omega)
  rw [eS] at g5
  generalize er2 : gWk T f pp ee tE tN a (env ++ [d.1 + 1]) (gNm (.inl (d.1 + 1)) (gTk F) sc) A0 (gTn (d.1 + 1) (gTk F) s) = r2 at al5 ty5
  have le25 : ∀ k, v2 k ≤ v5 k := fun k => Nat.le_trans (uUp_le v2 109 k) (g5.le k)
  have fr25 : uFr v2 τ2 τ5 := fr4.tr fr5 (uUp_le v2 109)
  have yr : yR (tE d.1) = rr := by rw [yF]; rfl
  have dr : yDp rr ≤ 100 := by
    have : yDp (tE d.1) ≤ 100 := p2
    rw [yF] at this
    have e : yDp (.inner 0 () () (tN (d.1 + 1)) rr) = max (yDp (tN (d.1 + 1))) (yDp rr) + 1 := rfl
    omega
  obtain ⟨τ6, v6, f6, al6, g6, fr6, kr6⟩ := r_fit (h0 := h0) (qs := qs) (ks := ks) (T := T) (n := n + 1) (al5.ev (env' := env) (fun u hu => List.mem_append_left _ hu)) ty5 (uTy.up le25 fr25 _ _ _ k5) (hs4.up g5.le fr5) (hq4.ik ik5) (by have := ev.1.1; omega) (fun k hk => by rw [← yr]; have := hc k hk; have := (g2 k).2; have := (g4 k).2; have := (g5 k).2; omega) (by omega)
  have z98 : fitC rr 98 = 0 := rfl
  have z100 : fitC rr 100 = 0 := rfl
  have h98 := g6 98
  have h100 := g6 100
  have eW : gWk T f pp ee tE tN (.inner 3 d z a .leaf) env sc A0 s = (gFt (gFi (yR (tE d.1)) r2.2 (gAn F) (gNm (.inl (d.1 + 1)) (gTk F) sc)) r2.1, F) := by
    subst er2 eF
    rfl
  have G := ((g2.tr g4).tr g5).tr g6
  have F6 : uFr v τ τ6 := (fr2.tr fr25 g2.le).tr fr6 (fun k => Nat.le_trans (g2.le k) (le25 k))
  rw [eW, yr]
  refine ⟨t1, τ6, v6, ?_, fun k => ⟨(G k).1, ?_⟩, ⟨?_, ?_⟩, F6, ((ik2.tr ik4).tr ik5).tr kr6.2, al6, ?_⟩
  · have q39 := f1.r (k := 39) (by decide) m
    have q9' := (f1.r (k := 9) (by decide) m).trans t9
    have q9 := (al2.2.1.r (k := 9) (by decide) m).trans t9
    have q32 := (al2.2.1.r (k := 32) (by decide) (d.1 + 1)).trans u2
    have q11 := (al4.2.1.r (k := 11) (by decide) m).trans t11
    have q46 : τ5.2.2.1 46 t1 = nI tr := by rw [fr25.r (k := 46) (c := 75) rfl (by unfold uAy; omega) k1]; exact k3
    have a2 : zF h0 qs ks T (n + 1) 76 [.ref h0, .int (V.2.2.1 39 m), .int (nI (d.1 + 1)), .int 1] τ1 = _ := a2
    rw [show n + 2 = (n + 1) + 1 from rfl, zE_richOf]
    unfold b_richOf
    rw [zgd_at (zin_n hm (by decide)), nI_clamp (show m < 2 ^ 31 by omega), e6, if_neg (by decide), if_neg (by decide), if_pos (by decide), a1, zcv_at, zgd_at (zin_n hm (by decide)), zgd_at (zin_n hm (by decide)), q39, show τ1.2.2.1 9 m = nI (d.1 + 1) from q9', a2, zci_at, zgd_at (zin_n hm (by decide)), show τ2.2.2.1 9 m = nI (d.1 + 1) from q9, zgd_at (zin_n (show d.1 + 1 < 2010 by omega) (by decide)), zgd_at (zin_n t1l (by decide)), nI_clamp (show d.1 + 1 < 2 ^ 31 by omega), q32, zgd_at (zin_n u3 (by decide)), zlet_at, zgd_at (zin_n u3 (by decide)), nI_clamp (show Γ.1 (.inl (d.1 + 1)) < 2 ^ 31 by omega), nI_clamp (show t1 < 2 ^ 31 by omega), k2, zA_74, upd_at', c1, zci_at, zgd_at (zin_n hm (by decide)), show τ4.2.2.1 11 m = nI xa from q11, d1, zci_at, zgd_at (zin_n t1l (by decide)), q46, f6, zcv_at]
  · have := (G k).2
    rw [← yr] at this
    show v6 k ≤ v k + (tpC Γ.2.2.2.1 (tE d.1) (gSs sc).length 1 k + cAt 109 1 k + gTc f pp ee tE tN Γ.2.2.2.1 a (env ++ [d.1 + 1]) yc ((gSs sc).length + yM1 (tN (d.1 + 1))) k + fitC (yR (tE d.1)) k)
    omega
  · have := e5.1
    rw [uUp_ne v2 (by decide)] at this
    show v6 98 = v 98 + (yLs (tE d.1) + g98 tE tN a)
    have := e2.1
    omega
  · have := e5.2
    rw [uUp_ne v2 (by decide)] at this
    show v6 100 = v 100 + (yFz (tE d.1) 1 + g100 tE tN a)
    have := e2.2
    omega
  · have := uTy.up g6.le fr6 _ _ _ (uTy.up le25 fr25 _ _ _ ty2)
    rw [o1] at this
    exact this
end URO
