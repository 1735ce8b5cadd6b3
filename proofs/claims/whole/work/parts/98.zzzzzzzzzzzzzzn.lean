/-! the reference's ofCall(): ARGS -/
/-- **the contract of ofCall()'s loop** -/
def uRg (ks : Nat → Nat) (qs : List Nat) (T h0 cnt lo N S P A : Nat) (L : List Nat) (V : zSt) (kk pp ee f : Nat → Int32) (g : gG) (ρ tE tN : Nat → tY) (Γ : uGm) (CD : tT → Nat → Prop) (t : tT) : Prop := ∀ env m x u k sc s A0 t4 x2 x3 n fu v τ y, m < 2100 → V.2.2.1 10 m = nI x → V.2.2.1 11 m = nI u → u < 2100 → rTr pp V lo N S P A t 0 (x + k) (x + u) → tWf kk cnt t 2 → uRa CD cnt kk pp ee f L V S P g ρ tE tN Γ t env (x + k) 0 sc s x2 x3 y y v τ → uTy Γ v τ y t4 A0 → yDp y ≤ 100 → env.length ≤ 12 → 220 + tDq t ≤ n → tQn t < fu → uRz CD pp V S P Γ tE tN (l_ofCall_21 T (zF h0 qs ks T n) h0 qs ks fu (nI m) x2 x3 (nI t4) (nI k) τ) t env (yRs (tQn t) y) (gTc f pp ee tE tN Γ.2.2.2.1 t env y (gSs sc).length) (gWk T f pp ee tE tN t env sc A0 s) v τ
section URO
variable {ks : Nat → Nat} {qs : List Nat} {T h0 len cnt lo N S P A : Nat} {L env : List Nat} {V τ : zSt} {kk pp ee f : Nat → Int32} {g : gG} {ρ tE tN : Nat → tY} {Γ : uGm} {CD : tT → Nat → Prop} {d : Nat × Nat × Nat × tS × tS} {z : Unit} {a b : tT}
theorem ua_Z : uRg ks qs T h0 cnt lo N S P A L V kk pp ee f g ρ tE tN Γ CD .leaf := fun env m x u k sc s A0 t4 x2 x3 n fu v τ y hm h10 h11 hu tr wf ⟨ft, ok, cp, nb, al, ⟨hs, hq⟩, hc⟩ ty hd he hn hf => by
  obtain ⟨fu, rfl⟩ : ∃ f', fu = f' + 1 := ⟨fu - 1, by omega⟩
  have tr : x + u = x + k := tr
  have hk : k = u := by omega
  subst hk
  have e11 := (al.2.1.r (k := 11) (by decide) m).trans h11
  refine ⟨t4, τ, v, ?_, uGe.rf v, ⟨rfl, rfl⟩, uFr.rf _ _, ⟨rfl, fun _ _ h => h⟩, al, ty⟩
  unfold l_ofCall_21
  rw [zgd_at (zin_n hm (by decide)), nI_clamp (by omega), e11, if_pos (Int32.le_refl _)]
theorem uGe.pt {v : Nat → Nat} {y : tY} {r s p : Nat} (h1 : r ≤ yNd y) (h2 : s ≤ yLs y) (h3 : p ≤ yLs y) : uGe v (uAd v r s 0 p) (ptC y) := fun k => by
  unfold uAd ptC
  by_cases k1 : k = 75
  · subst k1; simp; omega
  by_cases k2 : k = 79
  · subst k2; simp; omega
  by_cases k3 : k = 85
  · subst k3; simp
  by_cases k4 : k = 91
  · subst k4; simp; omega
  simp [k1, k2, k3, k4]
set_option maxHeartbeats 1000000 in
/-- an ARG's type FITS the parameter's; one that isn't measured -/
theorem ua_154 {n k t4 t8 : Nat} {x7 x2 x3 x1 : Int32} {k21 : Int32 → Int32 → Int32 → Int32 → Int32 → zSt → zRs} {l r : tY} {A0 B : gTy} {v : Nat → Nat} {s : gSt} {sc : List gEn} (al : uAl CD pp V S P Γ tN env v τ s) (hs : uSc env.length CD Γ v τ sc x2 x3) (hq : uIq Γ τ sc) (he : env.length ≤ 12) (ty : uTy Γ v τ (.inner 0 () () l r) t4 A0) (tyB : uTy Γ v τ l t8 B) (hd : yDp (.inner 0 () () l r : tY) ≤ 100) (hl : ∀ k, k ∈ uCt → v k + fitC l k ≤ uLm k) (hn : 210 ≤ n) : ∃ τ1 v1 tr, uAl CD pp V S P Γ tN env v1 τ1 (gFt (gFi l B (gTk A0) sc) s) ∧ uGe v v1 (fitC l) ∧ uFr v τ τ1 ∧ uIk Γ τ τ1 ∧ uTy Γ v1 τ1 r tr (gAn A0) ∧ (gMs l = false → j_ofCall_154 T (zF h0 qs ks T n) h0 qs ks k21 x1 x2 x3 (nI t4) (nI k) x7 (nI t8) τ = k21 x1 x2 x3 (nI tr) (nI (k + 1)) τ1) ∧ (gMs l = true → j_ofCall_154 T (zF h0 qs ks T n) h0 qs ks k21 x1 x2 x3 (nI t4) (nI k) x7 (nI t8) τ = zci (zF h0 qs ks T n 57 [.ref h0, .int x7] τ1) fun r13 s11 => zgd (zin (nI t4) 40000) (zgd (zin (nI t4) 40000) (if (s11.1 63) = 0 then j_ofCall_230 T (zF h0 qs ks T n) h0 qs ks k21 x1 x2 x3 (nI k) (s11.2.2.1 46 (nI t4).toNatClampNeg) (s11.2.2.1 44 (nI t4).toNatClampNeg) (-1) s11 else zgd (zin 0 40) (j_ofCall_230 T (zF h0 qs ks T n) h0 qs ks k21 x1 x2 x3 (nI k) (s11.2.2.1 46 (nI t4).toNatClampNeg) (s11.2.2.1 44 (nI t4).toNatClampNeg) (s11.2.2.1 40 ((0 : Int32)).toNatClampNeg) s11)))) ∧ (t4 < v 75 ∧ t4 < 40000) ∧ (τ.2.2.1 44 t4 = nI (Γ.1 (gPn A0)) ∧ τ.2.2.1 46 t4 = nI tr) := by
  obtain ⟨n, rfl⟩ : ∃ n', n = n' + 1 := ⟨n - 1, by omega⟩
  obtain ⟨k1, ⟨k44, -⟩, tl, tr, k2, k3, k4, k5⟩ := ty.fn
  have eD : yDp (.inner 0 () () l r : tY) = max (yDp l) (yDp r) + 1 := rfl
  rw [eD] at hd
  obtain ⟨τ1, v1, b1, al1, g1, fr1, kr1⟩ := r_fit (h0 := h0) (qs := qs) (ks := ks) (T := T) (n := n + 1) al tyB k4 hs hq (by omega) hl (by omega)
  have t4l : t4 < 40000 := by have h := (al.1 75 (by decide)).2; have e : uLm 75 = 40000 := rfl; omega
  have k4' := uTy.up g1.le fr1 _ _ _ k4
  obtain ⟨m1, m2, m3⟩ := k4'.ms
  have tll : tl < 40000 := by have h := (al1.1 75 (by decide)).2; have e : uLm 75 = 40000 := rfl; omega
  have q45 : τ1.2.2.1 45 t4 = nI tl := by rw [fr1.r (k := 45) (c := 75) rfl (by unfold uAy; omega) k1]; exact k2
  have q46 : τ1.2.2.1 46 t4 = nI tr := by rw [fr1.r (k := 46) (c := 75) rfl (by unfold uAy; omega) k1]; exact k3
  refine ⟨τ1, v1, tr, al1, g1, fr1, kr1.2, uTy.up g1.le fr1 _ _ _ k5, fun c => ?_, fun c => ?_, ⟨k1, t4l⟩, k44, k3⟩
  · unfold j_ofCall_154
    rw [zgd_at (zin_n t4l (by decide)), nI_clamp (by omega), k2, b1, zcv_at, zgd_at (zin_n t4l (by decide)), q45, zgd_at (zin_n tll (by decide)), nI_clamp (by omega), r_isSaid, zci_at, m2, c, if_pos (show b01 false = 0 from rfl), zgd_at (zin_n t4l (by decide)), q46]
    unfold j_ofCall_268
    rw [nI_p1]
  · unfold j_ofCall_154
    rw [zgd_at (zin_n t4l (by decide)), nI_clamp (by omega), k2, b1, zcv_at, zgd_at (zin_n t4l (by decide)), q45, zgd_at (zin_n tll (by decide)), nI_clamp (show tl < 2 ^ 31 by omega), r_isSaid, zci_at, m2, c, if_neg (show ¬ b01 true = 0 by decide)]
set_option maxHeartbeats 1000000 in
/-- and one that is: its S in the place of the parameter's NAME -/
theorem ua_put {n k t4 x : Nat} {x2 x3 x1 : Int32} {k21 : Int32 → Int32 → Int32 → Int32 → Int32 → zSt → zRs} {t : tS} {r : tY} {A0 : gTy} {v : Nat → Nat} {s : gSt} {tr : Nat} (H : uH T len cnt lo N S P A L V kk pp ee f g ρ tN Γ CD) (hev : env.length ≤ 12 ∧ ∀ u, u ∈ env → u ∈ L) (hg : uSg T cnt f pp ee (V.2.2.1 32) L env t.2) (ts : rSm pp V S P x t) (al : uAl CD pp V S P Γ tN env v τ s) (ty : uTy Γ v τ r tr (gAn A0)) (h4 : t4 < v 75 ∧ t4 < 40000) (h44 : τ.2.2.1 44 t4 = nI (Γ.1 (gPn A0))) (h46 : τ.2.2.1 46 t4 = nI tr) (hd : yDp r ≤ 100) (hl : ∀ k, k ∈ uCt → v k + ptC r k ≤ uLm k) (hn : 210 ≤ n) : ∃ t' τ' v', (zci (zF h0 qs ks T n 57 [.ref h0, .int (nI x)] τ) fun r13 s11 => zgd (zin (nI t4) 40000) (zgd (zin (nI t4) 40000) (if (s11.1 63) = 0 then j_ofCall_230 T (zF h0 qs ks T n) h0 qs ks k21 x1 x2 x3 (nI k) (s11.2.2.1 46 (nI t4).toNatClampNeg) (s11.2.2.1 44 (nI t4).toNatClampNeg) (-1) s11 else zgd (zin 0 40) (j_ofCall_230 T (zF h0 qs ks T n) h0 qs ks k21 x1 x2 x3 (nI k) (s11.2.2.1 46 (nI t4).toNatClampNeg) (s11.2.2.1 44 (nI t4).toNatClampNeg) (s11.2.2.1 40 ((0 : Int32)).toNatClampNeg) s11)))) = k21 x1 x2 x3 (nI t') (nI (k + 1)) τ' ∧ uAl CD pp V S P Γ tN env v' τ' s ∧ uGe v v' (ptC r) ∧ (v' 98 = v 98 ∧ v' 100 = v 100) ∧ uFr v τ τ' ∧ uIk Γ τ τ' ∧ uTy Γ v' τ' r t' (gPu (gAn A0) (gPn A0) (gOf T f pp ee env t.2)) := by
  obtain ⟨n, rfl⟩ : ∃ n', n = n' + 3 := ⟨n - 3, by omega⟩
  obtain ⟨g1, g2, g3, g4⟩ := hg
  have e32 : τ.2.2.1 32 = V.2.2.1 32 := al.2.1.2.2 32 (by decide)
  obtain ⟨τ0, a1, a2, a3, a4⟩ := r_isTerm (h0 := h0) (qs := qs) (ks := ks) (n := n) ((H.lh hev).ku al.2.1) (gFm.rf τ) g1 g2 (by rw [e32]; exact g3) (al.2.1.sm ts)
  rw [e32] at a2
  rw [nLs_s g4] at a4
  have V0 := a3.vn al.1
  have al0 := al.up (v' := v) (fun _ => Nat.le_refl _) rfl rfl V0 (a3.fr v) (a3.kr (Γ := Γ))
  obtain ⟨w1, w2⟩ := uTe_of (Γ := Γ) (T := T) (f := f) (pp := pp) (ee := ee) (env := env) (ps := t.2) (V := V) (τ := τ0) rfl (fun q hq => (H.2.1.1 _ (hev.2 _ (sL_env.1 q hq))).1) a2 a4
  have w3 := sL_env (f := f) (pp := pp) (ee := ee) (env := env) (ps := t.2).2 hev.1
  have ty0 := uTy.up (fun _ => Nat.le_refl _) (a3.fr v) _ _ _ ty
  have b75 : v 75 + yNd r ≤ 40000 := hl 75 (by decide)
  have b79 : v 79 + yLs r ≤ 24000 := hl 79 (by decide)
  have b91 : v 91 + yLs r ≤ 24000 := hl 91 (by decide)
  obtain ⟨t', τ', c1, c2, c3, b1, b2, ⟨b3, b4, b5⟩, b6, b7, b8⟩ := r_put (h0 := h0) (qs := qs) (ks := ks) (T := T) (x := gPn A0) (u := gOf T f pp ee env t.2) r tr (gAn A0) (n + 3) v τ0 V0 ty0 b75 b79 b91 (by omega)
  have q44 : τ0.2.2.1 44 t4 = nI (Γ.1 (gPn A0)) := by rw [a3.2.2.1 44 (by decide) (by decide)]; exact h44
  have q46 : τ0.2.2.1 46 t4 = nI tr := by rw [a3.2.2.1 46 (by decide) (by decide)]; exact h46
  refine ⟨t', τ', _, ?_, al0.up (uAd_le v c1 c2 0 c3) rfl rfl b2 b6 (b7.kr (Γ := Γ)), uGe.pt b3 b4 b5, ⟨rfl, rfl⟩, (a3.fr v).tr b6 (fun _ => Nat.le_refl _), a3.kr.2.tr b7.ik, b8⟩
  rw [a1, zci_at, zgd_at (zin_n h4.2 (by decide)), zgd_at (zin_n h4.2 (by decide)), nI_clamp (by omega), q44, q46]
  by_cases e : sL (nFind f pp ee env) t.2 = []
  · obtain ⟨x1', x2'⟩ := w1 e
    rw [x2'] at b1
    rw [if_pos x1']
    unfold j_ofCall_230 j_ofCall_247 j_ofCall_268
    rw [if_pos x1', b1, zci_at, nI_p1]
  · obtain ⟨x1', x2'⟩ := w2 e (by omega)
    rw [x2'] at b1
    rw [if_neg x1', zgd_at (by decide)]
    unfold j_ofCall_230 j_ofCall_247 j_ofCall_268
    rw [if_neg x1', zgd_at (by decide), show ((0 : Int32)).toNatClampNeg = 0 from rfl, b1, zci_at, nI_p1]
end URO
