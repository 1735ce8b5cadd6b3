/-! the reference's richOf(): let, fun -/
section URO
variable {ks : Nat → Nat} {qs : List Nat} {T h0 len cnt lo N S P A : Nat} {L env : List Nat} {V τ : zSt} {kk pp ee f : Nat → Int32} {g : gG} {ρ tE tN : Nat → tY} {Γ : uGm} {CD : tT → Nat → Prop} {d : Nat × Nat × Nat × tS × tS} {z : Unit} {a b : tT}
/-- a NAME that is told -/
theorem uH.to {w : Nat} (H : uH T len cnt lo N S P A L V kk pp ee f g ρ tN Γ CD) (hu : rTo (V.2.2.1 32) L w) : w ∈ L ∧ V.2.2.1 32 w = nI (Γ.1 (.inl w)) ∧ Γ.1 (.inl w) < 700 := by
  obtain ⟨n, -, e⟩ := hu
  have hw := List.mem_of_getElem? e
  obtain ⟨h1, h2⟩ := H.2.1.1 w hw
  exact ⟨hw, by rw [h1]; exact (H.1.2.2.1.at hw).1, h2⟩
/-- the TEMPLATE of an E, at its node -/
theorem r_tpE {m d1 w q n : Nat} {w0 e1 g1 : Int32} {v : Nat → Nat} {s : gSt} {sc : List gEn} (H : uH T len cnt lo N S P A L V kk pp ee f g ρ tN Γ CD) (hnc : nC V g ρ tE (m, d1)) (al : uAl CD pp V S P Γ tN env v τ s) (hs : uSc env.length CD Γ v τ sc e1 g1) (hq : uIq Γ τ sc) (he : env.length ≤ 12) (hw : q = 0 ∨ (w0 = nI w ∧ w + q ≤ 2010 ∧ ∀ i, i < q → V.2.2.1 32 (w + i) = nI (Γ.1 (.inl (w + i))))) (hO : mOk Γ (tE d1) (2 * d1, [], tE d1, List.range' w q, []) (v 100) (v 98)) (hX : (gSs sc).length + ySx (tE d1) ≤ 60) (hD : yDp (tE d1) ≤ 100) (hl : ∀ k, k ∈ uCt → v k + tpC Γ.2.2.2.1 (tE d1) (gSs sc).length q k ≤ uLm k) (hn : 110 ≤ n) : ∃ τ1 τ2 t v', zF h0 qs ks T n 75 [.ref h0, .int e1] τ = some (none, τ1) ∧ uTf V τ1 ∧ zF h0 qs ks T n 76 [.ref h0, .int (V.2.2.1 39 m), .int w0, .int (nI q)] τ1 = some (some (.int (nI t)), τ2) ∧ uAl CD pp V S P Γ tN env v' τ2 s ∧ uSc env.length CD Γ v' τ2 sc e1 g1 ∧ uIq Γ τ2 sc ∧ uGe v v' (tpC Γ.2.2.2.1 (tE d1) (gSs sc).length q) ∧ (v' 98 = v 98 + yLs (tE d1) ∧ v' 100 = v 100 + yFz (tE d1) q) ∧ uFr v τ τ2 ∧ uIk Γ τ τ2 ∧ uTy Γ v' τ2 (tE d1) t (gTp (2 * d1) (tE d1) (List.range' w q) sc) := by
  obtain ⟨c, c1, c2, c3⟩ := hnc
  have c1 : V.2.2.1 39 m = nI c := c1
  have c3 : ρ c = tE d1 := c3
  have eC : tmC Γ (tE d1) (2 * d1, [], tE d1, List.range' w q, gSs sc) = tpC Γ.2.2.2.1 (tE d1) (gSs sc).length q := by rw [tmC_c, List.length_range']
  obtain ⟨τ1, τ2, t, v', a1, a2, a3, a4, a5, a6, a7, a8, a9⟩ := r_tpl (h0 := h0) (qs := qs) (ks := ks) (T := T) (n := n) (key := 2 * d1) (w := w) (w0 := w0) (ns := List.range' w q) H.1.1.1 H.1.2.2.2.2.1 c2 c3 rfl hw H.2.2.1 al.2.1 al.1 hs (by omega) (mOk_st (tE d1) (2 * d1, [], tE d1, List.range' w q, []) (2 * d1, [], tE d1, List.range' w q, gSs sc) _ _ rfl rfl rfl hO) (by rw [mSx_c (tE d1) (2 * d1, [], tE d1, List.range' w q, gSs sc) rfl]; exact hX) (by rw [eC]; exact hl) (by omega) (by omega)
  rw [eC] at a5
  have z116 : tpC Γ.2.2.2.1 (tE d1) (gSs sc).length q 116 = 0 := rfl
  have z123 : tpC Γ.2.2.2.1 (tE d1) (gSs sc).length q 123 = 0 := rfl
  have h116 := a5 116
  have h123 := a5 123
  refine ⟨τ1, τ2, t, v', a1, a2, by rw [c1]; exact a3, al.upT a5.le (by omega) (by omega) a4 a7 a8.1 a8.2, hs.up a5.le a7, hq.ik a8.1.2, a5, a6, a7, a8.1.2, a9⟩
theorem zA_74 (τ : zSt) (F : Nat → Int32) : (zA τ 74 F).2.2.1 74 = F := rfl
theorem upd_at' (F : Nat → Int32) (k : Nat) (x : Int32) : upd F k x k = x := if_pos rfl
set_option maxHeartbeats 1000000 in
/-- let -/
theorem ur_1 (H : uH T len cnt lo N S P A L V kk pp ee f g ρ tN Γ CD) (Ia : uRo ks qs T h0 cnt lo N S P A L V kk pp ee f g ρ tE tN Γ CD a) (Ib : uRo ks qs T h0 cnt lo N S P A L V kk pp ee f g ρ tE tN Γ CD b) (wa : tWf kk cnt a 0) (wb : tWf kk cnt b 0) (hw : d.1 + 1 < 2010) : uRo ks qs T h0 cnt lo N S P A L V kk pp ee f g ρ tE tN Γ CD (.inner 1 d z a b) := fun env m sc s A0 x2 x3 n v τ y yc tr wf ⟨ft, ok, cp, nb, al, ⟨hs, hq⟩, hc⟩ hn => by
  obtain ⟨n, rfl⟩ : ∃ n', n = n' + 2 := ⟨n - 2, by omega⟩
  obtain ⟨gd, wo, ev, nc⟩ := ft
  obtain ⟨t0, t9, xa, xb, ⟨t11, t12⟩, ta, tb⟩ := tr
  have hm : m < 2100 := by have := t0.1.2; have := H.1.1.2.1; omega
  have hxa : xa < 2100 := by have := (rTr_fw ta wa).1; have := H.1.1.2.1; omega
  have hxb : xb < 2100 := by have := (rTr_fw tb wb).1; have := H.1.1.2.1; omega
  have nc : ∀ p, p ∈ (m, d.1) :: (nE V a 0 (V.2.2.1 11 m).toNatClampNeg ++ nE V b 0 (V.2.2.1 12 m).toNatClampNeg) → p.2 ∈ tTg _ → nC V g ρ tE p := nc
  rw [show V.2.2.1 11 m = nI xa from t11, show V.2.2.1 12 m = nI xb from t12, nI_clamp (by omega), nI_clamp (by omega)] at nc
  have wo : rTo (V.2.2.1 32) L (d.1 + 1) ∧ rWo f pp ee (V.2.2.1 32) L a env ∧ rWo f pp ee (V.2.2.1 32) L b (env ++ [d.1 + 1]) := wo
  have ev : (env.length ≤ 12 ∧ ∀ u, u ∈ env → u ∈ L) ∧ rEv L a env ∧ rEv L b (env ++ [d.1 + 1]) := ev
  have hn : 220 + (max (tDq a) (tDq b) + 3) ≤ n + 2 := hn
  obtain ⟨u1, u2, u3⟩ := H.to wo.1
  obtain ⟨o1, o2, o3⟩ : tE d.1 = y ∧ gOk f pp ee tE tN a env (tN (d.1 + 1)) ∧ gOk f pp ee tE tN b (env ++ [d.1 + 1]) y := ok
  obtain ⟨n1, n2, n3⟩ : mOk Γ (tE d.1) (2 * d.1, [], tE d.1, [], []) (v 100) (v 98) ∧ gNb tE tN Γ a (v 100 + yFz (tE d.1) 0) (v 98 + yLs (tE d.1)) ∧ gNb tE tN Γ b (v 100 + yFz (tE d.1) 0 + g100 tE tN a) (v 98 + yLs (tE d.1) + g98 tE tN a) := nb
  obtain ⟨p1, -, p3, p4⟩ := cp
  obtain ⟨p1, p2⟩ := p1 (Or.inl rfl)
  have p3 : gCp tE tN a (gSs sc).length := p3
  have p4 : gCp tE tN b ((gSs sc).length + yM1 (tN (d.1 + 1))) := p4
  have hc : ∀ k, k ∈ uCt → v k + (tpC Γ.2.2.2.1 (tE d.1) (gSs sc).length 0 k + gTc f pp ee tE tN Γ.2.2.2.1 a env yc (gSs sc).length k + cAt 109 1 k + gTc f pp ee tE tN Γ.2.2.2.1 b (env ++ [d.1 + 1]) yc ((gSs sc).length + yM1 (tN (d.1 + 1))) k + fitC (tE d.1) k) ≤ uLm k := hc
  have e6 : τ.2.2.1 6 m = nI 1 := (al.2.1.r (k := 6) (by decide) m).trans t0.2.1
  obtain ⟨τ1, τ2, t1, v2, a1, f1, a2, al2, hs2, hq2, g2, e2, fr2, ik2, ty2⟩ := r_tpE (h0 := h0) (qs := qs) (ks := ks) (n := n + 1) (w := 0) (q := 0) (w0 := -1) H (nc _ (List.mem_cons_self ..) (List.mem_append_left _ (List.mem_singleton.mpr rfl))) al hs hq ev.1.1 (Or.inl rfl) n1 p1 p2 (fun k hk => by have := hc k hk; omega) (by omega)
  obtain ⟨t3, τ3, v3, b1, g3, e3, fr3, ik3, al3, ty3⟩ := Ia env xa sc s A0 x2 x3 (n + 1) v2 τ2 _ yc ta wa ⟨⟨gd.2.2.2.1, wo.2.1, ev.2.1, fun p hp ht => nc p (List.mem_cons_of_mem _ (List.mem_append_left _ hp)) (List.mem_append_right _ (List.mem_append_left _ ht))⟩, o2, p3, by rw [e2.1, e2.2]; exact n2, al2, ⟨hs2, hq2⟩, fun k hk => by have := hc k hk; have := (g2 k).2; omega⟩ (by omega)
  have hs3 := hs2.up g3.le fr3
  have hq3 := hq2.ik ik3
  generalize er1 : gWk T f pp ee tE tN a env sc A0 s = r1 at al3 ty3
  have c109 : v3 109 < 12000 := by
    have h1 : v 109 + (_ + _ + 1 + _ + _) ≤ 12000 := hc 109 (by decide)
    have := (g2 109).2
    have := (g3 109).2
    omega
  obtain ⟨τ4, c1, al4, hs4, hq4, fr4, ik4⟩ := r_tel (h0 := h0) (qs := qs) (ks := ks) (T := T) (n := n) H.2.1 ev.1.2 u1 al3 ty3 hs3 hq3 c109
  have g4 := uGe.at1 v3 109
  have eS : (gSs (gNm (.inl (d.1 + 1)) r1.2 sc)).length = (gSs sc).length + yM1 (tN (d.1 + 1)) := by rw [gSs_nm, ty3.ms.2.2]
  obtain ⟨t5, τ5, v5, d1, g5, e5, fr5, ik5, al5, ty5⟩ := Ib (env ++ [d.1 + 1]) xb (gNm (.inl (d.1 + 1)) r1.2 sc) (gTn (d.1 + 1) r1.2 r1.1) A0 (nI (v3 109)) x3 (n + 1) (uUp v3 109) τ4 y yc tb wb ⟨⟨gd.2.2.2.2, wo.2.2, ev.2.2, fun p hp ht => nc p (List.mem_cons_of_mem _ (List.mem_append_right _ hp)) (List.mem_append_right _ (List.mem_append_right _ ht))⟩, o3, by rw [eS]; exact p4, by rw [uUp_ne v3 (by decide), uUp_ne v3 (by decide), e3.1, e3.2, e2.1, e2.2]; exact n3, al4, ⟨by rw [List.length_append]; exact hs4, hq4⟩, fun k hk => by rw [eS]; have := hc k hk; have := (g2 k).2; have := (g3 k).2; have := (g4 k).2; omega⟩ (by omega)
  rw [eS] at g5
  generalize er2 : gWk T f pp ee tE tN b (env ++ [d.1 + 1]) (gNm (.inl (d.1 + 1)) r1.2 sc) A0 (gTn (d.1 + 1) r1.2 r1.1) = r2 at al5 ty5
  have le35 : ∀ k, v3 k ≤ v5 k := fun k => Nat.le_trans (uUp_le v3 109 k) (g5.le k)
  have fr35 : uFr v3 τ3 τ5 := fr4.tr fr5 (uUp_le v3 109)
  have ty2' := uTy.up (fun k => Nat.le_trans (g3.le k) (le35 k)) (fr3.tr fr35 g3.le) _ _ _ ty2
  rw [o1] at ty2'
  have p2' : yDp y ≤ 100 := by rw [← o1]; exact p2
  obtain ⟨τ6, v6, f6, al6, g6, fr6, kr6⟩ := r_fit (h0 := h0) (qs := qs) (ks := ks) (T := T) (n := n + 1) (al5.ev (env' := env) (fun u hu => List.mem_append_left _ hu)) ty5 ty2' (hs4.up g5.le fr5) (hq4.ik ik5) (by have := ev.1.1; omega) (fun k hk => by rw [← o1]; have := hc k hk; have := (g2 k).2; have := (g3 k).2; have := (g4 k).2; have := (g5 k).2; omega) (by omega)
  have z98 : fitC y 98 = 0 := rfl
  have z100 : fitC y 100 = 0 := rfl
  have h98 := g6 98
  have h100 := g6 100
  have eW : gWk T f pp ee tE tN (.inner 1 d z a b) env sc A0 s = (gFt (gFi (tE d.1) r2.2 (gTp (2 * d.1) (tE d.1) [] sc) (gNm (.inl (d.1 + 1)) r1.2 sc)) r2.1, gTp (2 * d.1) (tE d.1) [] sc) := by
    subst er2 er1
    rfl
  have G := (((g2.tr g3).tr g4).tr g5).tr g6
  have F5 : uFr v τ τ5 := ((fr2.tr fr3 g2.le).tr fr35 (fun k => Nat.le_trans (g2.le k) (g3.le k)))
  have F6 : uFr v τ τ6 := F5.tr fr6 (fun k => Nat.le_trans (g2.le k) (Nat.le_trans (g3.le k) (le35 k)))
  rw [eW, o1]
  refine ⟨t1, τ6, v6, ?_, fun k => ⟨(G k).1, ?_⟩, ⟨?_, ?_⟩, F6, (((ik2.tr ik3).tr ik4).tr ik5).tr kr6.2, al6, ?_⟩
  · have q39 := f1.r (k := 39) (by decide) m
    have q9 := (al2.2.1.r (k := 9) (by decide) m).trans t9
    have q11 := (al2.2.1.r (k := 11) (by decide) m).trans t11
    have q32 := (al2.2.1.r (k := 32) (by decide) (d.1 + 1)).trans u2
    have q12 := (al4.2.1.r (k := 12) (by decide) m).trans t12
    have a2 : zF h0 qs ks T (n + 1) 76 [.ref h0, .int (V.2.2.1 39 m), .int (-1), .int 0] τ1 = _ := a2
    rw [show n + 2 = (n + 1) + 1 from rfl, zE_richOf]
    unfold b_richOf
    rw [zgd_at (zin_n hm (by decide)), nI_clamp (show m < 2 ^ 31 by omega), e6, if_pos (by decide), a1, zcv_at, zgd_at (zin_n hm (by decide)), q39, a2, zci_at, zgd_at (zin_n hm (by decide)), show τ2.2.2.1 9 m = nI (d.1 + 1) from q9, zgd_at (zin_n hw (by decide)), zgd_at (zin_n hm (by decide)), show τ2.2.2.1 11 m = nI xa from q11, b1, zci_at, nI_clamp (show d.1 + 1 < 2 ^ 31 by omega), q32, zgd_at (zin_n u3 (by decide)), zlet_at, zgd_at (zin_n u3 (by decide)), nI_clamp (show Γ.1 (.inl (d.1 + 1)) < 2 ^ 31 by omega), zA_74, upd_at', c1, zci_at, zgd_at (zin_n hm (by decide)), show τ4.2.2.1 12 m = nI xb from q12, d1, zci_at, f6, zcv_at]
  · have := (G k).2
    rw [← o1] at this
    show v6 k ≤ v k + (tpC Γ.2.2.2.1 (tE d.1) (gSs sc).length 0 k + gTc f pp ee tE tN Γ.2.2.2.1 a env yc (gSs sc).length k + cAt 109 1 k + gTc f pp ee tE tN Γ.2.2.2.1 b (env ++ [d.1 + 1]) yc ((gSs sc).length + yM1 (tN (d.1 + 1))) k + fitC (tE d.1) k)
    omega
  · have := e5.1
    rw [uUp_ne v3 (by decide)] at this
    show v6 98 = v 98 + (yLs (tE d.1) + g98 tE tN a + g98 tE tN b)
    have := e3.1
    have := e2.1
    omega
  · have := e5.2
    rw [uUp_ne v3 (by decide)] at this
    show v6 100 = v 100 + (yFz (tE d.1) 0 + g100 tE tN a + g100 tE tN b)
    have := e3.2
    have := e2.2
    omega
  · exact uTy.up g6.le fr6 _ _ _ ty2'
end URO
