/-! the reference's ofCall(): other ARGS, and a call -/
section URO
variable {ks : Nat → Nat} {qs : List Nat} {T h0 len cnt lo N S P A : Nat} {L env : List Nat} {V τ : zSt} {kk pp ee f : Nat → Int32} {g : gG} {ρ tE tN : Nat → tY} {Γ : uGm} {CD : tT → Nat → Prop} {d : Nat × Nat × Nat × tS × tS} {z : Unit} {a b : tT}
set_option maxHeartbeats 1000000 in
/-- an ARG that is a fun -/
theorem ua_34 (H : uH T len cnt lo N S P A L V kk pp ee f g ρ tN Γ CD) (Ia : uRo ks qs T h0 cnt lo N S P A L V kk pp ee f g ρ tE tN Γ CD a) (Ib : uRg ks qs T h0 cnt lo N S P A L V kk pp ee f g ρ tE tN Γ CD b) (h3 : ∃ d' z' a' b', a = .inner 3 d' z' a' b') (wa : tWf kk cnt a 0) (wb : tWf kk cnt b 2) : uRg ks qs T h0 cnt lo N S P A L V kk pp ee f g ρ tE tN Γ CD (.inner 34 d z a b) := fun env m x u k sc s A0 t4 x2 x3 n fu v τ y hm h10 h11 hu tr wf ⟨ft, ok, cp, nb, al, ⟨hs, hq⟩, hc⟩ ty hd he hn hf => by
  obtain ⟨gd, wo, ev, nc⟩ := ft
  obtain ⟨fu, rfl⟩ : ∃ f', fu = f' + 1 := ⟨fu - 1, by omega⟩
  have hqn := rTr_qn _ _ _ wf tr
  have hqn : x + u = x + k + (tQn b + 1) := hqn
  have hf : tQn b + 1 < fu + 1 := hf
  have e11 := (al.2.1.r (k := 11) (by decide) m).trans h11
  have e10 := (al.2.1.r (k := 10) (by decide) m).trans h10
  have ek : nI x + nI k = nI (x + k) := nI_add x k
  have c11 : ¬ nI u ≤ nI k := nI_ge (by omega) (by omega)
  have hn : 220 + max (tDq a) (tDq b) ≤ n := hn
  have wo : rWs f pp ee (V.2.2.1 32) L env (sEv d.2.2.2.1.2) ∧ rWs f pp ee (V.2.2.1 32) L env (sEv d.2.2.2.2.2) ∧ rWo f pp ee (V.2.2.1 32) L a env ∧ rWo f pp ee (V.2.2.1 32) L b env := wo
  have ev : (env.length ≤ 12 ∧ ∀ u, u ∈ env → u ∈ L) ∧ rEv L a env ∧ rEv L b env := ev
  obtain ⟨⟨t0, t1, t2, xs, t3, ta⟩, tb⟩ := tr
  have hA := H.1.1.2.2.2.2
  have hxs : xs < 2100 := by have := (rTr_fw ta wa).1; have := H.1.1.2.1; omega
  have e19 : τ.2.2.1 19 (x + k) = 1 := (al.2.1.r (k := 19) (by decide) (x + k)).trans t1
  have e20 : τ.2.2.1 20 (x + k) = nI xs := (al.2.1.r (k := 20) (by decide) (x + k)).trans t3
  have nc : ∀ p, p ∈ nE V a 0 (V.2.2.1 20 (x + k)).toNatClampNeg ++ nE V b (x + (k + 1)) 0 → p.2 ∈ tTg _ → nC V g ρ tE p := nc
  rw [show V.2.2.1 20 (x + k) = nI xs from t3, nI_clamp (by omega)] at nc
  obtain ⟨y1, y2, y3⟩ : yIs y ∧ gOk f pp ee tE tN a env (yL y) ∧ gOk f pp ee tE tN b env (yR y) := ok
  have sA : gSy A0 = y := ty.ms.2.2
  have cpa : gCp tE tN a (gSs sc).length := cp.2.2.1
  have cpb : gCp tE tN b (gSs sc).length := cp.2.2.2
  obtain ⟨n1, n2⟩ : gNb tE tN Γ a (v 100) (v 98) ∧ gNb tE tN Γ b (v 100 + g100 tE tN a) (v 98 + g98 tE tN a) := nb
  have eW : gWk T f pp ee tE tN (.inner 34 d z a b) env sc A0 s = gWk T f pp ee tE tN b env sc (gAn A0) (gFt (gFi (yL y) (gWk T f pp ee tE tN a env sc A0 s).2 (gTk A0) sc) (gWk T f pp ee tE tN a env sc A0 s).1) := by
    rw [← sA]
    rfl
  have hc2 : ∀ k, k ∈ uCt → v k + (gTc f pp ee tE tN Γ.2.2.2.1 a env y (gSs sc).length k + fitC (yL y) k + gTc f pp ee tE tN Γ.2.2.2.1 b env (yR y) (gSs sc).length k) ≤ uLm k := hc
  rw [eW]
  show uRz CD pp V S P Γ tE tN _ _ env (yRs (tQn b) (yR y)) (fun k => gTc f pp ee tE tN Γ.2.2.2.1 a env y (gSs sc).length k + fitC (yL y) k + gTc f pp ee tE tN Γ.2.2.2.1 b env (yR y) (gSs sc).length k) _ v τ
  generalize eco : gTc f pp ee tE tN Γ.2.2.2.1 a env y (gSs sc).length = co at hc2 ⊢
  obtain ⟨t8, τa, va, q1, g1, e1, fr1, ik1, al1, ty1⟩ := Ia env xs sc s A0 x2 x3 n v τ (yL y) y ta wa ⟨⟨gd.2.2.2.1, wo.2.2.1, ev.2.1, fun p hp ht => nc p (List.mem_append_left _ hp) (List.mem_append_right _ (List.mem_append_left _ ht))⟩, y2, cpa, n1, al, ⟨hs, hq⟩, fun k hk => by rw [eco]; have := hc2 k hk; omega⟩ (by omega)
  rw [eco] at g1
  generalize er1 : gWk T f pp ee tE tN a env sc A0 s = r1 at al1 ty1 ⊢
  have y1 : y = .inner 0 () () (yL y) (yR y) := y1
  generalize el : yL y = l at y1 y2 hc2 ty1 ⊢
  generalize er : yR y = r at y1 y3 hc2 ⊢
  rw [y1] at ty hd
  have dr : yDp r ≤ 100 := by
    have eD : yDp (.inner 0 () () l r : tY) = max (yDp l) (yDp r) + 1 := rfl
    omega
  have lm : gMs l = false := by
    obtain ⟨d', z', a', b', rfl⟩ := h3
    obtain ⟨-, r0, o2, -⟩ : tE d'.1 = l ∧ ∃ r, l = yA (tN (d'.1 + 1)) r ∧ _ := y2
    rw [o2]
    rfl
  obtain ⟨τb, vb, trr, al2, g2, fr2, ik2, ty2, w1, -⟩ := ua_154 (h0 := h0) (qs := qs) (ks := ks) (T := T) (n := n) (k := k) (x1 := nI m) (x7 := nI xs) (k21 := l_ofCall_21 T (zF h0 qs ks T n) h0 qs ks fu) al1 (hs.up g1.le fr1) (hq.ik ik1) ev.1.1 (uTy.up g1.le fr1 _ _ _ ty) ty1 hd (fun k hk => by have := hc2 k hk; have := (g1 k).2; omega) (by omega)
  have z98 : fitC l 98 = 0 := rfl
  have z100 : fitC l 100 = 0 := rfl
  have h98 := g2 98
  have h100 := g2 100
  have go : l_ofCall_21 T (zF h0 qs ks T n) h0 qs ks (fu + 1) (nI m) x2 x3 (nI t4) (nI k) τ = l_ofCall_21 T (zF h0 qs ks T n) h0 qs ks fu (nI m) x2 x3 (nI trr) (nI (k + 1)) τb := by
    rw [← w1 lm]
    conv => lhs; unfold l_ofCall_21
    rw [zgd_at (zin_n hm (by decide)), nI_clamp (show m < 2 ^ 31 by omega), e11, if_neg c11, zgd_at (zin_n hm (by decide)), e10, ek, zgd_at (zin_n (show x + k < 2100 by omega) (by decide)), zgd_at (zin_n (show x + k < 2100 by omega) (by decide)), nI_clamp (show x + k < 2 ^ 31 by omega), e19, if_pos rfl, e20, q1, zci_at]
  rw [go]
  have G := g1.tr g2
  have fr := fr1.tr fr2 g1.le
  have ik := ik1.tr ik2
  obtain ⟨t', τ', v', r1', r2, r3, r4, r5, r6, r7⟩ := Ib env m x u (k + 1) sc (gFt (gFi l r1.2 (gTk A0) sc) r1.1) (gAn A0) trr x2 x3 n fu vb τb r hm h10 h11 hu tb wb ⟨⟨gd.2.2.2.2, wo.2.2.2, ev.2.2, fun p hp ht => nc p (List.mem_append_right _ hp) (List.mem_append_right _ (List.mem_append_right _ ht))⟩, y3, cpb, by rw [show vb 98 = v 98 + g98 tE tN a by have := e1.1; omega, show vb 100 = v 100 + g100 tE tN a by have := e1.2; omega]; exact n2, al2, ⟨hs.up G.le fr, hq.ik ik⟩, fun k hk => by
    have := hc2 k hk
    have q := (G k).2
    dsimp only at q
    omega⟩ ty2 dr he (by omega) (by omega)
  refine ⟨t', τ', v', r1', fun k => ⟨Nat.le_trans (G.le k) (r2.le k), ?_⟩, ⟨?_, ?_⟩, fr.tr r4 G.le, ik.tr r5, r6, r7⟩
  · have q := (G k).2
    have := (r2 k).2
    dsimp only at q
    show v' k ≤ v k + (co k + fitC l k + gTc f pp ee tE tN Γ.2.2.2.1 b env r (gSs sc).length k)
    omega
  · show v' 98 = v 98 + (g98 tE tN a + g98 tE tN b)
    have := r3.1
    have := e1.1
    omega
  · show v' 100 = v 100 + (g100 tE tN a + g100 tE tN b)
    have := r3.2
    have := e1.2
    omega
set_option maxHeartbeats 1000000 in
/-- true, false -/
theorem ua_35 (H : uH T len cnt lo N S P A L V kk pp ee f g ρ tN Γ CD) (Ib : uRg ks qs T h0 cnt lo N S P A L V kk pp ee f g ρ tE tN Γ CD b) (ha : a = .leaf) (hd1 : d.2.1 ≤ 1) (wb : tWf kk cnt b 2) : uRg ks qs T h0 cnt lo N S P A L V kk pp ee f g ρ tE tN Γ CD (.inner 35 d z a b) := fun env m x u k sc s A0 t4 x2 x3 n fu v τ y hm h10 h11 hu tr wf ⟨ft, ok, cp, nb, al, ⟨hs, hq⟩, hc⟩ ty hd he hn hf => by
  subst ha
  obtain ⟨gd, wo, ev, nc⟩ := ft
  obtain ⟨fu, rfl⟩ : ∃ f', fu = f' + 1 := ⟨fu - 1, by omega⟩
  have hqn := rTr_qn _ _ _ wf tr
  have hqn : x + u = x + k + (tQn b + 1) := hqn
  have hf : tQn b + 1 < fu + 1 := hf
  have e11 := (al.2.1.r (k := 11) (by decide) m).trans h11
  have e10 := (al.2.1.r (k := 10) (by decide) m).trans h10
  have ek : nI x + nI k = nI (x + k) := nI_add x k
  have c11 : ¬ nI u ≤ nI k := nI_ge (by omega) (by omega)
  have hn : 220 + max (tDq .leaf) (tDq b) ≤ n := hn
  have wo : rWs f pp ee (V.2.2.1 32) L env (sEv d.2.2.2.1.2) ∧ rWs f pp ee (V.2.2.1 32) L env (sEv d.2.2.2.2.2) ∧ rWo f pp ee (V.2.2.1 32) L _ env ∧ rWo f pp ee (V.2.2.1 32) L b env := wo
  have ev : (env.length ≤ 12 ∧ ∀ u, u ∈ env → u ∈ L) ∧ rEv L _ env ∧ rEv L b env := ev
  obtain ⟨⟨t0, t1, t2⟩, tb⟩ := tr
  have hA := H.1.1.2.2.2.2
  have e19 : τ.2.2.1 19 (x + k) = nI (3 - d.2.1) := (al.2.1.r (k := 19) (by decide) (x + k)).trans t1
  have d1 : ¬ nI (3 - d.2.1) = 1 := fun h => by
    have := nI_inj' (b := 1) (by omega) (by decide) h
    omega
  have d0 : ¬ nI (3 - d.2.1) ≤ 1 := nI_ge (a := 1) (b := 3 - d.2.1) (by omega) (by omega)
  have nc : ∀ p, p ∈ nE V b (x + (k + 1)) 0 → p.2 ∈ tTg _ → nC V g ρ tE p := nc
  obtain ⟨y1, y2, y3⟩ : yIs y ∧ yL y = yB 1 ∧ gOk f pp ee tE tN b env (yR y) := ok
  have cp : gCp tE tN b (gSs sc).length := cp.2.2.2
  have nb : gNb tE tN Γ b (v 100) (v 98) := nb
  have hc2 : ∀ k, k ∈ uCt → v k + (cE1 k + gTc f pp ee tE tN Γ.2.2.2.1 b env (yR y) (gSs sc).length k) ≤ uLm k := hc
  show uRz CD pp V S P Γ tE tN _ _ env (yRs (tQn b) (yR y)) (fun k => cE1 k + gTc f pp ee tE tN Γ.2.2.2.1 b env (yR y) (gSs sc).length k) (gWk T f pp ee tE tN b env sc (gAn A0) s) v τ
  have y1 : y = .inner 0 () () (yL y) (yR y) := y1
  rw [y2] at y1
  generalize er : yR y = r at y1 y3 hc2 ⊢
  rw [y1] at ty hd
  have dr : yDp r ≤ 100 := by
    have eD : yDp (.inner 0 () () (yB 1) r : tY) = max (yDp (yB 1)) (yDp r) + 1 := rfl
    omega
  obtain ⟨c75, c79, c85⟩ := cap1 hc2 (fun k => Nat.le_add_right _ _)
  obtain ⟨n', rfl⟩ : ∃ n', n = n' + 2 := ⟨n - 2, by omega⟩
  obtain ⟨τa, q1, V1, fr1, ke1, ty1⟩ := r_pl2 (h0 := h0) (qs := qs) (ks := ks) (T := T) (n := n') (Γ := Γ) (l := .leaf) (r := .leaf) al.1 c75
  have g1 : uGe v (uAd v 1 0 0 0) cE1 := uGe.ad3 (Nat.le_refl 1) (Nat.zero_le _) (Nat.zero_le _) rfl
  have al1 := al.up (uAd_le v 1 0 0 0) rfl rfl V1 fr1 (ke1.kr (Γ := Γ))
  have ik1 : uIk Γ τ τa := ke1.ik
  have zf : ∀ k, fitC (yB 1) k = 0 := fun k => by
    show (if k = 75 then 0 else if k = 79 then 0 else if k = 91 then 0 else if k = 109 then 0 else if k = 116 then 0 else 0) = 0
    repeat' split
    all_goals rfl
  obtain ⟨τb, vb, trr, al2, g2, fr2, ik2, ty2, w1, -⟩ := ua_154 (h0 := h0) (qs := qs) (ks := ks) (T := T) (n := n' + 2) (k := k) (x1 := nI m) (x7 := τ.2.2.1 20 (x + k)) (k21 := l_ofCall_21 T (zF h0 qs ks T (n' + 2)) h0 qs ks fu) al1 (hs.up g1.le fr1) (hq.ik ik1) ev.1.1 (uTy.up g1.le fr1 _ _ _ ty) ty1 hd (fun k hk => by have := hc2 k hk; have := (g1 k).2; rw [zf]; omega) (by omega)
  have eG : gFt (gFi (yB 1) (gPl (yB 1)) (gTk A0) sc) s = s := by
    show (s.1, s.2.1 ++ [], s.2.2) = s
    rw [List.append_nil]
  rw [eG] at al2
  have g2' : uGe (uAd v 1 0 0 0) vb (fun _ => 0) := g2.mo (fun k => by rw [zf]; exact Nat.le_refl _)
  have go : l_ofCall_21 T (zF h0 qs ks T (n' + 2)) h0 qs ks (fu + 1) (nI m) x2 x3 (nI t4) (nI k) τ = l_ofCall_21 T (zF h0 qs ks T (n' + 2)) h0 qs ks fu (nI m) x2 x3 (nI trr) (nI (k + 1)) τb := by
    rw [← w1 rfl]
    conv => lhs; unfold l_ofCall_21
    rw [zgd_at (zin_n hm (by decide)), nI_clamp (show m < 2 ^ 31 by omega), e11, if_neg c11, zgd_at (zin_n hm (by decide)), e10, ek, zgd_at (zin_n (show x + k < 2100 by omega) (by decide)), zgd_at (zin_n (show x + k < 2100 by omega) (by decide)), nI_clamp (show x + k < 2 ^ 31 by omega), e19, if_neg d1, zgd_at (zin_n (show x + k < 2100 by omega) (by decide)), if_neg d0, q1, zci_at]
  rw [go]
  have G := g1.tr g2'
  have fr := fr1.tr fr2 g1.le
  have ik := ik1.tr ik2
  have w98 := g2' 98
  have w100 := g2' 100
  have x98 : uAd v 1 0 0 0 98 = v 98 := rfl
  have x100 : uAd v 1 0 0 0 100 = v 100 := rfl
  dsimp only at w98 w100
  obtain ⟨t', τ', v', r1', r2, r3, r4, r5, r6, r7⟩ := Ib env m x u (k + 1) sc s (gAn A0) trr x2 x3 (n' + 2) fu vb τb r hm h10 h11 hu tb wb ⟨⟨gd.2.2.2.2, wo.2.2.2, ev.2.2, fun p hp ht => nc p hp (List.mem_append_right _ (List.mem_append_right _ ht))⟩, y3, cp, by rw [show vb 98 = v 98 by omega, show vb 100 = v 100 by omega]; exact nb, al2, ⟨hs.up G.le fr, hq.ik ik⟩, fun k hk => by
    have := hc2 k hk
    have q := (G k).2
    dsimp only at q
    omega⟩ ty2 dr he (by omega) (by omega)
  refine ⟨t', τ', v', r1', fun k => ⟨Nat.le_trans (G.le k) (r2.le k), ?_⟩, ⟨?_, ?_⟩, fr.tr r4 G.le, ik.tr r5, r6, r7⟩
  · have q := (G k).2
    have := (r2 k).2
    dsimp only at q
    show v' k ≤ v k + (cE1 k + gTc f pp ee tE tN Γ.2.2.2.1 b env r (gSs sc).length k)
    omega
  · show v' 98 = v 98 + g98 tE tN b
    have := r3.1
    omega
  · show v' 100 = v 100 + g100 tE tN b
    have := r3.2
    omega
set_option maxHeartbeats 1000000 in
/-- a call -/
theorem ur_15 (H : uH T len cnt lo N S P A L V kk pp ee f g ρ tN Γ CD) (h15 : tQn a ≤ 4) (hw : d.1 < 2010) (Ia : uRg ks qs T h0 cnt lo N S P A L V kk pp ee f g ρ tE tN Γ CD a) (wa : tWf kk cnt a 2) : uRo ks qs T h0 cnt lo N S P A L V kk pp ee f g ρ tE tN Γ CD (.inner 15 d z a b) := fun env m sc s A0 x2 x3 n v τ y yc tr wf ⟨ft, ok, cp, nb, al, ⟨hs, hq⟩, hc⟩ hn => by
  obtain ⟨n, rfl⟩ : ∃ n', n = n' + 2 := ⟨n - 2, by omega⟩
  obtain ⟨gd, wo, ev, nc⟩ := ft
  obtain rfl : b = .leaf := gd.2.2.1.2.2 (Or.inr (Or.inr rfl))
  obtain ⟨t0, t9, x, u, ⟨t10, t11⟩, ta⟩ := tr
  have hm : m < 2100 := by have := t0.1.2; have := H.1.1.2.1; omega
  have hqn := rTr_qn _ _ _ wa ta
  have ez : nE V a (V.2.2.1 10 m).toNatClampNeg 0 = nE V a (x + 0) 0 := by
    cases a with
    | leaf => rfl
    | inner g' d' z' a' b' =>
      have : x < A := by
        rcases wa with ⟨h, _⟩ | ⟨_, _, _, hg⟩ | ⟨h, _⟩
        · cases h
        · rcases hg with ⟨rfl, _⟩ | ⟨rfl, _⟩ | ⟨rfl, _⟩
          · exact ta.1.1
          · exact ta.1.1
          · exact ta.1.1
        · cases h
      rw [show V.2.2.1 10 m = nI x from t10, nI_clamp (by have := H.1.1.2.2.2.2; omega)]
      rfl
  have nc : ∀ p, p ∈ (m, d.1) :: nE V a (V.2.2.1 10 m).toNatClampNeg 0 → p.2 ∈ tTg _ → nC V g ρ tE p := nc
  rw [ez] at nc
  have wo : rUs f pp ee (V.2.2.1 32) L env d.1 ∧ rWo f pp ee (V.2.2.1 32) L a env := wo
  have ev : (env.length ≤ 12 ∧ ∀ u, u ∈ env → u ∈ L) ∧ rEv L a env ∧ rEv L _ env := ev
  have hn : 220 + (max (tDq a) (tDq .leaf) + 3) ≤ n + 2 := hn
  have hT := H.1.1.1
  obtain ⟨u1, u2, u3, u4⟩ := H.us wo.1
  obtain ⟨o1, o2⟩ : y = yRs (tQn a) (tN (gNu f pp ee env d.1)) ∧ gOk f pp ee tE tN a env (tN (gNu f pp ee env d.1)) := ok
  obtain ⟨t4, w1, w2⟩ := al.2.2.1.1 _ (Or.inl u1)
  have e6 : τ.2.2.1 6 m = nI 15 := (al.2.1.r (k := 6) (by decide) m).trans t0.2.1
  have e9 := (al.2.1.r (k := 9) (by decide) m).trans t9
  have e32 := (al.2.1.r (k := 32) (by decide) d.1).trans u3
  obtain ⟨t', τ', v', b1, b2, b3, b4, b5, b6, b7⟩ := Ia env m x u 0 sc s (s.1 (gNu f pp ee env d.1)) t4 x2 x3 n T v τ (tN (gNu f pp ee env d.1)) hm t10 t11 (by omega) ta wa ⟨⟨gd.2.2.2.1, wo.2, ev.2.1, fun p hp ht => nc p (List.mem_cons_of_mem _ hp) (List.mem_append_right _ (List.mem_append_left _ ht))⟩, o2, cp.2.2.1, nb, al, ⟨hs, hq⟩, hc⟩ w2 (H.2.2.2.1 _ u2) ev.1.1 (by omega) (by omega)
  rw [show nI 0 = 0 from rfl] at b1
  rw [o1]
  refine ⟨t', τ', v', ?_, b2, b3, b4, b5, b6, b7⟩
  rw [show n + 2 = (n + 1) + 1 from rfl, zE_richOf]
  unfold b_richOf
  rw [zgd_at (zin_n hm (by decide)), nI_clamp (show m < 2 ^ 31 by omega), e6]
  iterate 14 rw [if_neg (by decide)]
  rw [if_pos (by decide), zE_ofCall]
  unfold b_ofCall
  rw [zgd_at (zin_n hm (by decide)), nI_clamp (show m < 2 ^ 31 by omega), show τ.2.2.1 9 m = nI d.1 from e9, zgd_at (zin_n hw (by decide)), nI_clamp (show d.1 < 2 ^ 31 by omega), e32, zgd_at (zin_n u4 (by decide)), nI_clamp (show Γ.1 (.inl (gNu f pp ee env d.1)) < 2 ^ 31 by omega), w1, b1, zci_at]
end URO
