/-! the reference's ofCall(): ARGS, and a call -/
section URO
variable {ks : Nat → Nat} {qs : List Nat} {T h0 len cnt lo N S P A : Nat} {L env : List Nat} {V τ : zSt} {kk pp ee f : Nat → Int32} {g : gG} {ρ tE tN : Nat → tY} {Γ : uGm} {CD : tT → Nat → Prop} {d : Nat × Nat × Nat × tS × tS} {z : Unit} {a b : tT}
set_option maxHeartbeats 1000000 in
/-- the type of an ARG that is an S -/
theorem ua_s {n x : Nat} {t : tS} {v : Nat → Nat} {s : gSt} {K : Int32 → zSt → zRs} (H : uH T len cnt lo N S P A L V kk pp ee f g ρ tN Γ CD) (hev : env.length ≤ 12 ∧ ∀ u, u ∈ env → u ∈ L) (o3 : pO3 t.2) (hb : ∀ p, p ∈ t.2 → p.2.2 < 2010) (hg : uSg T cnt f pp ee (V.2.2.1 32) L env t.2) (ts : rSm pp V S P x t) (al : uAl CD pp V S P Γ tN env v τ s) (hc : v 75 < 40000 ∧ v 79 < 24000 ∧ v 85 < 12000) (hn : 10 ≤ n) : ∃ t8 τ' v', (zci (zF h0 qs ks T n 48 [.ref h0, .int (nI x)] τ) fun r11 s9 => if r11 = 0 then zci (zF h0 qs ks T n 70 [.ref h0, .int (nI x)] s9) fun r15 s13 => zci (zF h0 qs ks T n 68 [.ref h0, .int (-1), .int r15, .int (-1)] s13) fun r18 s16 => zci (zF h0 qs ks T n 67 [.ref h0, .int 1, .int r18, .int (-1), .int (-1), .int (-1)] s16) fun r21 s19 => K r21 s19 else zgd (zin (nI x) 2100) (zgd (zin (s9.2.2.1 13 (nI x).toNatClampNeg) 2100) (zgd (zin (s9.2.2.1 18 (s9.2.2.1 13 (nI x).toNatClampNeg).toNatClampNeg) 2010) (zci (zF h0 qs ks T n 80 [.ref h0, .int (s9.2.2.1 32 (s9.2.2.1 18 (s9.2.2.1 13 (nI x).toNatClampNeg).toNatClampNeg).toNatClampNeg)] s9) fun r27 s25 => K r27 s25)))) = K (nI t8) τ' ∧ uAl CD pp V S P Γ tN env v' τ' s ∧ uGe v v' cE1 ∧ (v' 98 = v 98 ∧ v' 100 = v 100) ∧ uFr v τ τ' ∧ uIk Γ τ τ' ∧ uTy Γ v' τ' (gSk f pp ee tN env t.2) t8 (gSu T f pp ee env t.2 s) := by
  obtain ⟨n, rfl⟩ : ∃ n', n = n' + 4 := ⟨n - 4, by omega⟩
  obtain ⟨c75, c79, c85⟩ := hc
  have hx : x < 2100 := by have := ts.1; have := H.1.1.2.2.1; omega
  obtain ⟨i1, i2⟩ := r_sun (h0 := h0) (qs := qs) (ks := ks) (T := T) (n := n + 3) H al.2.1 o3 hg.2.2.1 ts
  rw [i1, zci_at]
  by_cases c : isN t.2 = true
  · obtain ⟨a', ⟨k1, k2⟩, k3, k4⟩ := i2 c
    obtain ⟨u1, u2, u3, u4⟩ := H.us k4
    have hd : (t.2.headD (0, false, 0)).2.2 < 2010 := by
      have c' := of_decide_eq_true c
      match e : t.2, c' with
      | [], c' => exact absurd c'.1 (by decide)
      | p :: ps, c' => exact hb p (by rw [e]; exact List.mem_cons_self ..)
    obtain ⟨t0, w1, w2⟩ := al.2.2.1.1 _ (Or.inl u1)
    obtain ⟨t', τ', c1, b1, b2, b3, b4, b5, b6⟩ := r_ofName (h0 := h0) (qs := qs) (ks := ks) (T := T) (n := n + 2) al.1 u4 w1 w2 c75 c79 c85
    have q32 := (al.2.1.r (k := 32) (by decide) (t.2.headD (0, false, 0)).2.2).trans u3
    rw [c, if_neg (show ¬ b01 true = 0 by decide), zgd_at (zin_n hx (by decide)), nI_clamp (show x < 2 ^ 31 by omega), k1, zgd_at (zin_n k2 (by decide)), nI_clamp (show a' < 2 ^ 31 by omega), k3, zgd_at (zin_n hd (by decide)), nI_clamp (show (t.2.headD (0, false, 0)).2.2 < 2 ^ 31 by omega), q32, b1, zci_at]
    refine ⟨t', τ', _, rfl, al.up (uAd_le v c1 c1 c1 0) rfl rfl b3 b4 (b5.kr (Γ := Γ)), uGe.ad3 b2 b2 b2 rfl, ⟨rfl, rfl⟩, b4, b5.ik, ?_⟩
    unfold gSk gSu
    rw [if_pos c, if_pos c]
    exact b6
  · have c' : isN t.2 = false := by simpa using c
    obtain ⟨τ2, r1, τ3, τ4, c1, b1, b2, b3, b4, b5, b6, b7, b8⟩ := r_su1 (h0 := h0) (qs := qs) (ks := ks) (n := n) (x := x) (k := 1) (t := t) (l := .leaf) (r := .leaf) (H.lh hev) al.2.1 H.2.1.1 hg ts (Or.inl rfl) al.1 c75 c79 c85
    have b3 : zF h0 qs ks T (n + 4) 67 [.ref h0, .int 1, .int (nI (v 79)), .int (-1), .int (-1), .int (-1)] τ3 = _ := b3
    rw [c', if_pos (show b01 false = 0 from rfl), b1, zci_at, b2, zci_at, b3, zci_at]
    refine ⟨v 75, τ4, _, rfl, al.up (uAd_le v 1 1 c1 0) rfl rfl b5 b6 b7, uGe.ad3 (Nat.le_refl 1) (Nat.le_refl 1) b4 rfl, ⟨rfl, rfl⟩, b6, b7.2, ?_⟩
    unfold gSk gSu
    rw [if_neg c, if_neg c]
    exact b8
set_option maxHeartbeats 1000000 in
theorem ua_33 (H : uH T len cnt lo N S P A L V kk pp ee f g ρ tN Γ CD) (Ib : uRg ks qs T h0 cnt lo N S P A L V kk pp ee f g ρ tE tN Γ CD b) (ha : a = .leaf) (hp : pOk cnt d.2.2.2.1.2) (hk : sKn kk d.2.2.2.1.2) (o3 : pO3 d.2.2.2.1.2) (hb : ∀ p, p ∈ d.2.2.2.1.2 → p.2.2 < 2010) (wb : tWf kk cnt b 2) : uRg ks qs T h0 cnt lo N S P A L V kk pp ee f g ρ tE tN Γ CD (.inner 33 d z a b) := fun env m x u k sc s A0 t4 x2 x3 n fu v τ y hm h10 h11 hu tr wf ⟨ft, ok, cp, nb, al, ⟨hs, hq⟩, hc⟩ ty hd he hn hf => by
  subst ha
  obtain ⟨gd, wo, ev, nc⟩ := ft
  obtain ⟨fu, rfl⟩ : ∃ f', fu = f' + 1 := ⟨fu - 1, by omega⟩
  have hqn := rTr_qn _ _ _ wf tr
  have hqn : x + u = x + k + (tQn b + 1) := hqn
  have hf : tQn b + 1 < fu + 1 := hf
  have e11 := (al.2.1.r (k := 11) (by decide) m).trans h11
  have e10 := (al.2.1.r (k := 10) (by decide) m).trans h10
  have ek : nI x + nI k = nI (x + k) := nI_add x k
  have c11 : ¬ nI u ≤ nI k := nI_ge (by omega) (by omega)
  have hn : 220 + max (tDq .leaf) (tDq b) ≤ n := hn
  have wo : rWs f pp ee (V.2.2.1 32) L env (sEv d.2.2.2.1.2) ∧ rWs f pp ee (V.2.2.1 32) L env (sEv d.2.2.2.2.2) ∧ rWo f pp ee (V.2.2.1 32) L _ env ∧ rWo f pp ee (V.2.2.1 32) L b env := wo
  have ev : (env.length ≤ 12 ∧ ∀ u, u ∈ env → u ∈ L) ∧ rEv L _ env ∧ rEv L b env := ev
  obtain ⟨⟨t0, t1, t2, xs, t3, ts⟩, tb⟩ := tr
  have hA := H.1.1.2.2.2.2
  have e19 : τ.2.2.1 19 (x + k) = 0 := (al.2.1.r (k := 19) (by decide) (x + k)).trans t1
  have e20 : τ.2.2.1 20 (x + k) = nI xs := (al.2.1.r (k := 20) (by decide) (x + k)).trans t3
  have nc : ∀ p, p ∈ nE V b (x + (k + 1)) 0 → p.2 ∈ tTg _ → nC V g ρ tE p := nc
  have sg : uSg T cnt f pp ee (V.2.2.1 32) L env d.2.2.2.1.2 := ⟨hp, gd.1.1, wo.1, H.2.2.2.2.2 _ gd.1.1 hk⟩
  obtain ⟨y1, ⟨y2, -⟩, y3⟩ : yIs y ∧ (yL y = gSk f pp ee tN env d.2.2.2.1.2 ∧ _) ∧ gOk f pp ee tE tN b env (yR y) := ok
  have sA : gSy A0 = y := ty.ms.2.2
  have cp : gCp tE tN b (gSs sc).length := cp.2.2.2
  have nb : gNb tE tN Γ b (v 100) (v 98) := nb
  have eW : gWk T f pp ee tE tN (.inner 33 d z .leaf b) env sc A0 s = gWk T f pp ee tE tN b env sc (if gMs (yL y) = true then gPu (gAn A0) (gPn A0) (gOf T f pp ee env d.2.2.2.1.2) else gAn A0) (gFt (gFi (yL y) (gSu T f pp ee env d.2.2.2.1.2 s) (gTk A0) sc) s) := by
    rw [← sA]
    rfl
  have hc2 : ∀ k, k ∈ uCt → v k + (cE1 k + fitC (yL y) k + ptC (yR y) k + gTc f pp ee tE tN Γ.2.2.2.1 b env (yR y) (gSs sc).length k) ≤ uLm k := hc
  rw [eW]
  show uRz CD pp V S P Γ tE tN _ _ env (yRs (tQn b) (yR y)) (fun k => cE1 k + fitC (yL y) k + ptC (yR y) k + gTc f pp ee tE tN Γ.2.2.2.1 b env (yR y) (gSs sc).length k) _ v τ
  have y1 : y = .inner 0 () () (yL y) (yR y) := y1
  generalize yL y = l at y1 y2 hc2 ⊢
  generalize yR y = r at y1 y3 hc2 ⊢
  subst y1
  have dr : yDp r ≤ 100 := by
    have eD : yDp (.inner 0 () () l r : tY) = max (yDp l) (yDp r) + 1 := rfl
    omega
  have cs : v 75 < 40000 ∧ v 79 < 24000 ∧ v 85 < 12000 := cap1 hc2 (fun k => by omega)
  obtain ⟨t8, τa, va, q1, al1, g1, e1, fr1, ik1, ty1⟩ := ua_s (h0 := h0) (qs := qs) (ks := ks) (n := n) (x := xs) (K := fun r s => j_ofCall_154 T (zF h0 qs ks T n) h0 qs ks (l_ofCall_21 T (zF h0 qs ks T n) h0 qs ks fu) (nI m) x2 x3 (nI t4) (nI k) (nI xs) r s) H ev.1 o3 hb sg ts al cs (by omega)
  rw [← y2] at ty1
  obtain ⟨τb, vb, trr, al2, g2, fr2, ik2, ty2, w1, w2, w3, w4, w5⟩ := ua_154 (h0 := h0) (qs := qs) (ks := ks) (T := T) (n := n) (k := k) (x1 := nI m) (x7 := nI xs) (k21 := l_ofCall_21 T (zF h0 qs ks T n) h0 qs ks fu) al1 (hs.up g1.le fr1) (hq.ik ik1) ev.1.1 (uTy.up g1.le fr1 _ _ _ ty) ty1 hd (fun k hk => by have := hc2 k hk; have := (g1 k).2; omega) (by omega)
  have z98 : fitC l 98 = 0 := rfl
  have z100 : fitC l 100 = 0 := rfl
  have h98 := g2 98
  have h100 := g2 100
  have go : l_ofCall_21 T (zF h0 qs ks T n) h0 qs ks (fu + 1) (nI m) x2 x3 (nI t4) (nI k) τ = j_ofCall_154 T (zF h0 qs ks T n) h0 qs ks (l_ofCall_21 T (zF h0 qs ks T n) h0 qs ks fu) (nI m) x2 x3 (nI t4) (nI k) (nI xs) (nI t8) τa := by
    unfold l_ofCall_21
    rw [zgd_at (zin_n hm (by decide)), nI_clamp (show m < 2 ^ 31 by omega), e11, if_neg c11, zgd_at (zin_n hm (by decide)), e10, ek, zgd_at (zin_n (show x + k < 2100 by omega) (by decide)), zgd_at (zin_n (show x + k < 2100 by omega) (by decide)), nI_clamp (show x + k < 2 ^ 31 by omega), e19, if_neg (by decide), zgd_at (zin_n (show x + k < 2100 by omega) (by decide)), if_pos (by decide), e20]
    exact q1
  have fin : ∀ tn τc vc X, uAl CD pp V S P Γ tN env vc τc (gFt (gFi l (gSu T f pp ee env d.2.2.2.1.2 s) (gTk A0) sc) s) → uGe vb vc (ptC r) → (vc 98 = vb 98 ∧ vc 100 = vb 100) → uFr vb τb τc → uIk Γ τb τc → uTy Γ vc τc r tn X → uRz CD pp V S P Γ tE tN (l_ofCall_21 T (zF h0 qs ks T n) h0 qs ks fu (nI m) x2 x3 (nI tn) (nI (k + 1)) τc) (.inner 33 d z .leaf b) env (yRs (tQn b) r) (fun k => cE1 k + fitC l k + ptC r k + gTc f pp ee tE tN Γ.2.2.2.1 b env r (gSs sc).length k) (gWk T f pp ee tE tN b env sc X (gFt (gFi l (gSu T f pp ee env d.2.2.2.1.2 s) (gTk A0) sc) s)) v τ := fun tn τc vc X al3 g3 e3 fr3 ik3 ty3 => by
    have G := (g1.tr g2).tr g3
    have fr := (fr1.tr fr2 g1.le).tr fr3 (fun k => Nat.le_trans (g1.le k) (g2.le k))
    have ik := (ik1.tr ik2).tr ik3
    obtain ⟨t', τ', v', r1, r2, r3, r4, r5, r6, r7⟩ := Ib env m x u (k + 1) sc (gFt (gFi l (gSu T f pp ee env d.2.2.2.1.2 s) (gTk A0) sc) s) X tn x2 x3 n fu vc τc r hm h10 h11 hu tb wb ⟨⟨gd.2.2.2.2, wo.2.2.2, ev.2.2, fun p hp ht => nc p hp (List.mem_append_right _ (List.mem_append_right _ ht))⟩, y3, cp, by rw [e3.1, e3.2, show vb 98 = v 98 by have := e1.1; omega, show vb 100 = v 100 by have := e1.2; omega]; exact nb, al3, ⟨hs.up G.le fr, hq.ik ik⟩, fun k hk => by
      have := hc2 k hk
      have q := (G k).2
      dsimp only at q
      omega⟩ ty3 dr he (by omega) (by omega)
    refine ⟨t', τ', v', r1, fun k => ⟨Nat.le_trans (G.le k) (r2.le k), ?_⟩, ⟨?_, ?_⟩, fr.tr r4 G.le, ik.tr r5, r6, r7⟩
    · have q := (G k).2
      have := (r2 k).2
      dsimp only at q
      show v' k ≤ v k + (cE1 k + fitC l k + ptC r k + gTc f pp ee tE tN Γ.2.2.2.1 b env r (gSs sc).length k)
      omega
    · show v' 98 = v 98 + g98 tE tN b
      have := r3.1
      have := e3.1
      have := e1.1
      omega
    · show v' 100 = v 100 + g100 tE tN b
      have := r3.2
      have := e3.2
      have := e1.2
      omega
  rw [go]
  by_cases c : gMs l = true
  · have w4' : t4 < va 75 ∧ t4 < 40000 := w3
    obtain ⟨tn, τc, vc, s1, s2, s3, s4, s5, s6, s7⟩ := ua_put (h0 := h0) (qs := qs) (ks := ks) (n := n) (k := k) (x1 := nI m) (x2 := x2) (x3 := x3) (k21 := l_ofCall_21 T (zF h0 qs ks T n) h0 qs ks fu) H ev.1 sg ts al2 ty2 ⟨Nat.lt_of_lt_of_le w3.1 (g2.le 75), w3.2⟩ (by rw [fr2.r (k := 44) (c := 75) rfl (by unfold uAy; omega) w3.1]; exact w4) (by rw [fr2.r (k := 46) (c := 75) rfl (by unfold uAy; omega) w3.1]; exact w5) dr (fun k hk => by have := hc2 k hk; have := (g1 k).2; have := (g2 k).2; omega) (by omega)
    rw [w2 c, s1, if_pos c]
    exact fin tn τc vc _ s2 s3 s4 s5 s6 s7
  · have c' : gMs l = false := by simpa using c
    rw [w1 c', if_neg c]
    exact fin trr τb vb _ al2 ((uGe.rf vb).mo (fun k => Nat.zero_le _)) ⟨rfl, rfl⟩ (uFr.rf _ _) ⟨rfl, fun _ _ h => h⟩ ty2
end URO
