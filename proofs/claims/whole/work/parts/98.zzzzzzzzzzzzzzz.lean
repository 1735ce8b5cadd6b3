/-! the reference's richOf(): S * S, S / S, S % S -/
section URO
variable {ks : Nat → Nat} {qs : List Nat} {T h0 len cnt lo N S P A : Nat} {L env : List Nat} {V τ : zSt} {kk pp ee f : Nat → Int32} {g : gG} {ρ tE tN : Nat → tY} {Γ : uGm} {CD : tT → Nat → Prop} {d : Nat × Nat × Nat × tS × tS} {z : Unit} {a b : tT}
theorem gFm.al {v : Nat → Nat} {s : gSt} {τ' : zSt} (h : gFm τ τ') (al : uAl CD pp V S P Γ tN env v τ s) : uAl CD pp V S P Γ tN env v τ' s := al.up (fun _ => Nat.le_refl _) rfl rfl (h.vn al.1) (h.fr v) h.kr
set_option maxHeartbeats 2000000 in
theorem ur_11 {tg : Nat} (htg : tg = 11 ∨ tg = 12 ∨ tg = 13) (H : uH T len cnt lo N S P A L V kk pp ee f g ρ tN Γ CD) (hp1 : pOk cnt d.2.2.2.1.2) (hp2 : pOk cnt d.2.2.2.2.2) (hk1 : sKn kk d.2.2.2.1.2) (hk2 : sKn kk d.2.2.2.2.2) (o2 : pO3 d.2.2.2.2.2) : uRo ks qs T h0 cnt lo N S P A L V kk pp ee f g ρ tE tN Γ CD (.inner tg d z a b) := fun env m sc s A0 x2 x3 n v τ y yc tr wf ⟨ft, ok, cp, nb, al, ⟨hs, hq⟩, hc⟩ hn => by
  obtain ⟨n, rfl⟩ : ∃ n', n = n' + 6 := ⟨n - 6, by omega⟩
  obtain ⟨t0, t8, x, y2, ⟨t10, t11⟩, ts1, ts2⟩ : rNd pp V lo N m tg d.1 ∧ nV V m 2 = pp d.2.1 ∧ ∃ x y, (nV V m 4 = nI x ∧ nV V m 5 = nI y) ∧ rSm pp V S P x d.2.2.2.1 ∧ rSm pp V S P y d.2.2.2.2 := by rcases htg with rfl | rfl | rfl <;> exact tr
  have wo : rWs f pp ee (V.2.2.1 32) L env (sEv d.2.2.2.1.2) ∧ rWs f pp ee (V.2.2.1 32) L env (sEv d.2.2.2.2.2) := by
    have w := ft.2.1
    rcases htg with rfl | rfl | rfl <;> exact ⟨w.1, w.2.1⟩
  have ev : env.length ≤ 12 ∧ ∀ u, u ∈ env → u ∈ L := ft.2.2.1.1
  have gd := ft.1.1
  have sg1 : uSg T cnt f pp ee (V.2.2.1 32) L env d.2.2.2.1.2 := ⟨hp1, gd.1, wo.1, H.2.2.2.2.2 _ gd.1 hk1⟩
  have sg2 : uSg T cnt f pp ee (V.2.2.1 32) L env d.2.2.2.2.2 := ⟨hp2, gd.2, wo.2, H.2.2.2.2.2 _ gd.2 hk2⟩
  have oy : y = yB 0 := by rcases htg with rfl | rfl | rfl <;> exact ok.1
  have hm : m < 2100 := by have := t0.1.2; have := H.1.1.2.1; omega
  have eC : gTc f pp ee tE tN Γ.2.2.2.1 (.inner tg d z a b) env yc (gSs sc).length = fun k => cAt 123 1 k + cE1 k + cAt 85 1 k := by rcases htg with rfl | rfl | rfl <;> rfl
  have z98 : g98 tE tN (.inner tg d z a b) = 0 := by rcases htg with rfl | rfl | rfl <;> rfl
  have z100 : g100 tE tN (.inner tg d z a b) = 0 := by rcases htg with rfl | rfl | rfl <;> rfl
  rw [eC] at hc ⊢
  have m123 : v 123 + 1 ≤ 2100 := hc 123 (by decide)
  have m75 : v 75 + 1 ≤ 40000 := hc 75 (by decide)
  have m79 : v 79 + 1 ≤ 24000 := hc 79 (by decide)
  have m85 : v 85 + 2 ≤ 12000 := hc 85 (by decide)
  -- the second S
  obtain ⟨τ0, τ1, a1, f0, a2, fm1, l2, q2⟩ := r_ln1 (h0 := h0) (qs := qs) (ks := ks) (n := n + 2) (H.lh ev) al.2.1 sg2 ts2
  have al1 := fm1.al al
  have hs1 := hs.up (fun _ => Nat.le_refl _) (fm1.fr v)
  have hq1 : uIq Γ τ1 sc := hq.ik (fm1.kr (Γ := Γ)).2
  have e6 : ∀ {τ' : zSt}, uTf V τ' → τ'.2.2.1 6 m = nI tg := fun h => (h.r (k := 6) (by decide) m).trans t0.2.1
  have e11 : ∀ {τ' : zSt}, uTf V τ' → τ'.2.2.1 11 m = nI y2 := fun h => (h.r (k := 11) (by decide) m).trans t11
  have e10 : ∀ {τ' : zSt}, uTf V τ' → τ'.2.2.1 10 m = nI x := fun h => (h.r (k := 10) (by decide) m).trans t10
  have e8 : ∀ {τ' : zSt}, uTf V τ' → τ'.2.2.1 8 m = pp d.2.1 := fun h => (h.r (k := 8) (by decide) m).trans t8
  have t11' : ¬ tg = 11 → ¬ (nI tg : Int32) = 11 := fun c h => c (nI_inj' (b := 11) (by omega) (by decide) h)
  have t13' : ¬ tg = 13 → ¬ (nI tg : Int32) = 13 := fun c h => c (nI_inj' (b := 13) (by omega) (by decide) h)
  have cm : (nI m).toNatClampNeg = m := nI_clamp (by omega)
  have zm : zin (nI m) 2100 = true := zin_n hm (by decide)
  -- what must be SO
  obtain ⟨τ2, v2, b1, al2, g2, e2, fr2, ik2⟩ : ∃ τ2 v2, (∀ t0 c5, j_ofSign_100 T (zF h0 qs ks T (n + 4)) h0 qs ks (nI m) x2 x3 t0 c5 τ1 = j_ofSign_139 T (zF h0 qs ks T (n + 4)) h0 qs ks (nI m) t0 c5 (sPl T f pp ee d.2.2.2.2.2) τ2) ∧ uAl CD pp V S P Γ tN env v2 τ2 (if tg = 11 then s else gNe (sc, d.2.1, 1, .leaf, d.2.2.2.2.2, env, 0) s) ∧ uGe v v2 (cAt 123 1) ∧ (v2 98 = v 98 ∧ v2 100 = v 100 ∧ v2 75 = v 75 ∧ v2 79 = v 79 ∧ v2 85 = v 85) ∧ uFr v τ τ2 ∧ uIk Γ τ τ2 := by
    by_cases c : tg = 11
    · refine ⟨τ1, v, fun t0 c5 => ?_, by rw [if_pos c]; exact al1, (uGe.rf v).mo (fun k => Nat.zero_le _), ⟨rfl, rfl, rfl, rfl, rfl⟩, fm1.fr v, (fm1.kr (Γ := Γ)).2⟩
      unfold j_ofSign_100
      rw [zgd_at zm, cm, e6 al1.2.1, c, if_pos (show nI 11 = 11 from rfl), q2]
    · obtain ⟨τ2, a1', a2', a3', a4'⟩ := r_so1 (h0 := h0) (qs := qs) (ks := ks) (T := T) (n := n + 3) (x := (sc, d.2.1, 1, .leaf, d.2.2.2.2.2, env, 0)) (kd := 1) (x2 := nI y2) (e := x2) (g := x3) al1.q ⟨y2, d.2.2.2.2.1, rfl, ts2⟩ hs1 (by have := ev.1; omega) hq1 (by omega)
      have a1' : zF h0 qs ks T (n + 4) 79 [.ref h0, .int 1, .int (nI y2), .int (-1), .int x2, .int x3, .int (pp d.2.1)] τ1 = _ := a1'
      refine ⟨τ2, uUp v 123, fun t0 c5 => ?_, by rw [if_neg c]; exact uNq.al a2', uGe.at1 v 123, ⟨uUp_ne v (by decide), uUp_ne v (by decide), uUp_ne v (by decide), uUp_ne v (by decide), uUp_ne v (by decide)⟩, (fm1.fr v).tr a3' (fun _ => Nat.le_refl _), (fm1.kr (Γ := Γ)).2.tr a4'.2⟩
      unfold j_ofSign_100
      rw [zgd_at zm, cm, e6 al1.2.1, if_neg (t11' c), zgd_at zm, zgd_at zm, e11 al1.2.1, e8 al1.2.1, a1', zcv_at, q2]
  generalize es2 : (if tg = 11 then s else gNe (sc, d.2.1, 1, .leaf, d.2.2.2.2.2, env, 0) s) = s2 at al2
  have eW : gWk T f pp ee tE tN (.inner tg d z a b) env sc A0 s = (s2, gSg T f pp ee tg env d.2.2.2.1.2 d.2.2.2.2.2) := by
    rw [← es2]
    rcases htg with rfl | rfl | rfl <;> rfl
  rw [eW, oy]
  have start : ∀ t5 τ5, (∀ t0, (t0 = 1 ∧ (sL (nFind f pp ee env) d.2.2.2.2.2).length = 0 ∨ t0 = 0 ∧ ¬ (sL (nFind f pp ee env) d.2.2.2.2.2).length = 0) → j_ofSign_139 T (zF h0 qs ks T (n + 4)) h0 qs ks (nI m) t0 (b01 (sNu d.2.2.2.2.2)) (sPl T f pp ee d.2.2.2.2.2) τ2 = some (some (.int (nI t5)), τ5)) → zF h0 qs ks T (n + 6) 83 [.ref h0, .int (nI m), .int x2, .int x3] τ = some (some (.int (nI t5)), τ5) := fun t5 τ5 h => by
    have e81 : zF h0 qs ks T (n + 5) 81 [.ref h0, .int (nI m), .int x2, .int x3] τ = some (some (.int (nI t5)), τ5) := by
      rw [show n + 5 = (n + 4) + 1 from rfl, zE_ofSign]
      unfold b_ofSign
      have o27 := fun t0 => r_os27 (n := T) (call := zF h0 qs ks T (n + 4)) (h0 := h0) (qs := qs) (ks := ks) (x2 := x2) (x3 := x3) (t0 := t0) hm H.1.1.2.2.1 H.1.1.2.2.2.1 (e11 al1.2.1) (al1.2.1.sm ts2) o2
      rw [a1, zcv_at, zgd_at zm, cm, e11 f0, a2, zcv_at]
      by_cases c : τ1.1 63 = 0
      · rw [if_pos c, o27, b1]
        exact h 1 (Or.inl ⟨rfl, l2.mp c⟩)
      · rw [if_neg c, o27, b1]
        exact h 0 (Or.inr ⟨rfl, fun z => c (l2.mpr z)⟩)
    rw [show n + 6 = (n + 5) + 1 from rfl, zE_richOf]
    unfold b_richOf
    rw [zgd_at zm, cm, e6 al.2.1]
    rcases htg with rfl | rfl | rfl
    · iterate 10 rw [if_neg (by decide)]
      rw [if_pos (by decide), e81, zci_at]
    · iterate 11 rw [if_neg (by decide)]
      rw [if_pos (by decide), e81, zci_at]
    · iterate 12 rw [if_neg (by decide)]
      rw [if_pos (by decide), e81, zci_at]
  have done : ∀ {t5 r q e : Nat} {τ5 : zSt} {B : gTy}, r ≤ 1 → q ≤ 1 → e ≤ 2 → uVn τ5 (uAd v2 r q e 0) → uFr v2 τ2 τ5 → uKr Γ τ2 τ5 → uTy Γ (uAd v2 r q e 0) τ5 (yB 0) t5 B → zF h0 qs ks T (n + 6) 83 [.ref h0, .int (nI m), .int x2, .int x3] τ = some (some (.int (nI t5)), τ5) → uRz CD pp V S P Γ tE tN (zF h0 qs ks T (n + 6) 83 [.ref h0, .int (nI m), .int x2, .int x3] τ) (.inner tg d z a b) env (yB 0) (fun k => cAt 123 1 k + cE1 k + cAt 85 1 k) (s2, B) v τ := fun {t5 r q e τ5 B} h1 h2 h3 hV hF hK hT hR => by
    refine ⟨t5, τ5, _, hR, fun k => ?_, ⟨by rw [z98]; exact e2.1, by rw [z100]; exact e2.2.1⟩, fr2.tr hF g2.le, ik2.tr hK.2, al2.up (uAd_le v2 r q e 0) rfl rfl hV hF hK, hT⟩
    have h := g2 k
    have l := uAd_le v2 r q e 0 k
    refine ⟨Nat.le_trans h.1 l, ?_⟩
    show uAd v2 r q e 0 k ≤ v k + (cAt 123 1 k + cE1 k + cAt 85 1 k)
    unfold uAd cE1
    have k85 : k = 85 → cAt 85 1 k = 1 := fun e => by rw [e]; rfl
    by_cases k1 : k = 75
    · subst k1; simp; omega
    by_cases k2 : k = 79
    · subst k2; simp; omega
    by_cases k3 : k = 85
    · have := k85 k3; subst k3; simp; omega
    by_cases k4 : k = 91
    · subst k4; simp; omega
    simp [k1, k2, k3, k4]; omega
  -- the plain one, behind the first S
  obtain ⟨τ3, τ4, c1, f3, c2, fm4, l4, q4⟩ := r_ln1 (h0 := h0) (qs := qs) (ks := ks) (n := n + 2) (H.lh ev) al2.2.1 sg1 ts1
  have al4 := fm4.al al2
  have j195 : ∀ t0, j_ofSign_195 T (zF h0 qs ks T (n + 4)) h0 qs ks (nI m) t0 (sPl T f pp ee d.2.2.2.2.2) τ2 = (if nI tg = 11 then if t0 = 0 then j_ofSign_263 T (zF h0 qs ks T (n + 4)) h0 qs ks τ4 else if τ4.1 63 = 0 then zci (zF h0 qs ks T (n + 4) 69 [.ref h0, .int 0, .int (-1), .int 0, .long ((τ4.2.1 64) * sPl T f pp ee d.2.2.2.2.2), .int (-1)] τ4) fun r12 s10 => zci (zF h0 qs ks T (n + 4) 68 [.ref h0, .int (-1), .int r12, .int (-1)] s10) fun r15 s13 => zci (zF h0 qs ks T (n + 4) 67 [.ref h0, .int 1, .int r15, .int (-1), .int (-1), .int (-1)] s13) fun r18 s16 => some (some (.int r18), s16) else j_ofSign_263 T (zF h0 qs ks T (n + 4)) h0 qs ks τ4 else j_ofSign_263 T (zF h0 qs ks T (n + 4)) h0 qs ks τ4) := fun t0 => by
    unfold j_ofSign_195
    rw [c1, zcv_at, zgd_at zm, cm, e10 f3, c2, zcv_at, zgd_at zm, e6 al4.2.1]
  obtain ⟨τ5, p1, p2, p3, p4, p5⟩ := r_pl3 (h0 := h0) (qs := qs) (ks := ks) (T := T) (n := n + 2) (Γ := Γ) (l := .leaf) (r := .leaf) al4.1 (by omega) (by omega)
  have j263 : j_ofSign_263 T (zF h0 qs ks T (n + 4)) h0 qs ks τ4 = some (some (.int (nI (v2 75))), τ5) := by
    unfold j_ofSign_263
    rw [p1, zci_at]
  have plain : (∀ t0, (t0 = 1 ∧ (sL (nFind f pp ee env) d.2.2.2.2.2).length = 0 ∨ t0 = 0 ∧ ¬ (sL (nFind f pp ee env) d.2.2.2.2.2).length = 0) → j_ofSign_139 T (zF h0 qs ks T (n + 4)) h0 qs ks (nI m) t0 (b01 (sNu d.2.2.2.2.2)) (sPl T f pp ee d.2.2.2.2.2) τ2 = some (some (.int (nI (v2 75))), τ5)) → uRz CD pp V S P Γ tE tN (zF h0 qs ks T (n + 6) 83 [.ref h0, .int (nI m), .int x2, .int x3] τ) (.inner tg d z a b) env (yB 0) (fun k => cAt 123 1 k + cE1 k + cAt 85 1 k) (s2, gPl (yB 0)) v τ := fun h => done (Nat.le_refl 1) (Nat.le_refl 1) (Nat.zero_le _) p2 ((fm4.fr v2).tr p3 (fun _ => Nat.le_refl _)) (fm4.kr.tr p4.kr) p5 (start _ _ h)
  by_cases c13 : tg = 13
  · have n11 : ¬ (nI tg : Int32) = 11 := t11' (by omega)
    have j139 : ∀ t0, j_ofSign_139 T (zF h0 qs ks T (n + 4)) h0 qs ks (nI m) t0 (b01 (sNu d.2.2.2.2.2)) (sPl T f pp ee d.2.2.2.2.2) τ2 = (if b01 (sNu d.2.2.2.2.2) = 0 then j_ofSign_195 T (zF h0 qs ks T (n + 4)) h0 qs ks (nI m) t0 (sPl T f pp ee d.2.2.2.2.2) τ2 else if (lg_cmp (sPl T f pp ee d.2.2.2.2.2) 0) ≤ 0 then j_ofSign_195 T (zF h0 qs ks T (n + 4)) h0 qs ks (nI m) t0 (sPl T f pp ee d.2.2.2.2.2) τ2 else zci (zF h0 qs ks T (n + 4) 69 [.ref h0, .int 1, .int (-1), .int 0, .long (sPl T f pp ee d.2.2.2.2.2), .int (-1)] τ2) fun r7 s5 => zci (zF h0 qs ks T (n + 4) 69 [.ref h0, .int 4, .int (-1), .int 0, .long 0, .int r7] s5) fun r10 s8 => zci (zF h0 qs ks T (n + 4) 68 [.ref h0, .int (-1), .int r10, .int (-1)] s8) fun r13 s11 => zci (zF h0 qs ks T (n + 4) 67 [.ref h0, .int 1, .int r13, .int (-1), .int (-1), .int (-1)] s11) fun r16 s14 => some (some (.int r16), s14)) := fun t0 => by
      unfold j_ofSign_139
      rw [zgd_at zm, cm, e6 al2.2.1, if_pos (show nI tg = 13 by rw [c13]; rfl)]
    by_cases cn : sNu d.2.2.2.2.2 = true
    · by_cases cp : 0 < (sPl T f pp ee d.2.2.2.2.2).toInt
      · have eG : gSg T f pp ee tg env d.2.2.2.1.2 d.2.2.2.2.2 = (.inl (yB 0, [(4, (none, 0)), (1, (none, (sPl T f pp ee d.2.2.2.2.2).toInt))]), []) := by
          unfold gSg
          have := of_decide_eq_true cn
          rw [if_pos ⟨c13, this.1, this.2.1, this.2.2, cp⟩]
        obtain ⟨k1, k2, k3, k4, r1, r2, r3, r4, r5, r6, r7, r8⟩ := r_eq2 (h0 := h0) (qs := qs) (ks := ks) (T := T) (n := n + 3) (Γ := Γ) (c := sPl T f pp ee d.2.2.2.2.2) al2.1 (by omega) (by omega) (by omega)
        rw [eG]
        refine done (Nat.le_refl 1) (Nat.le_refl 1) (Nat.le_refl 2) r5 r6 r7.kr r8 (start _ _ (fun t0 _ => ?_))
        rw [j139, cn, if_neg (show ¬ b01 true = 0 by decide), if_neg (fun h => by
          have h1 := (l_gt (sPl T f pp ee d.2.2.2.2.2) 0).mpr cp
          exact absurd h (Int32.not_le.mpr h1)), r1, zci_at, r2, zci_at, r3, zci_at, r4, zci_at]
      · have eG : gSg T f pp ee tg env d.2.2.2.1.2 d.2.2.2.2.2 = gPl (yB 0) := by
          unfold gSg
          rw [if_neg (fun h => cp h.2.2.2.2), if_neg (fun h => by omega)]
        rw [eG]
        refine plain (fun t0 _ => ?_)
        rw [j139, cn, if_neg (show ¬ b01 true = 0 by decide), if_pos (by
          refine Int32.not_lt.mp (fun h => cp ((l_gt _ 0).mp h))), j195, if_neg n11, j263]
    · have cn' : sNu d.2.2.2.2.2 = false := by simpa using cn
      have eG : gSg T f pp ee tg env d.2.2.2.1.2 d.2.2.2.2.2 = gPl (yB 0) := by
        unfold gSg
        rw [if_neg (fun h => cn (decide_eq_true ⟨h.2.1, h.2.2.1, h.2.2.2.1⟩)), if_neg (fun h => by omega)]
      rw [eG]
      refine plain (fun t0 _ => ?_)
      rw [j139, cn', if_pos (show b01 false = 0 from rfl), j195, if_neg n11, j263]
  · have j139 : ∀ t0, j_ofSign_139 T (zF h0 qs ks T (n + 4)) h0 qs ks (nI m) t0 (b01 (sNu d.2.2.2.2.2)) (sPl T f pp ee d.2.2.2.2.2) τ2 = j_ofSign_195 T (zF h0 qs ks T (n + 4)) h0 qs ks (nI m) t0 (sPl T f pp ee d.2.2.2.2.2) τ2 := fun t0 => by
      unfold j_ofSign_139
      rw [zgd_at zm, cm, e6 al2.2.1, if_neg (t13' c13)]
    by_cases c11 : tg = 11
    · have i11 : (nI tg : Int32) = 11 := by rw [c11]; rfl
      by_cases k2 : (sL (nFind f pp ee env) d.2.2.2.2.2).length = 0
      · by_cases k1 : (sL (nFind f pp ee env) d.2.2.2.1.2).length = 0
        · have eG : gSg T f pp ee tg env d.2.2.2.1.2 d.2.2.2.2.2 = gEq (yB 0) (none, (sPl T f pp ee d.2.2.2.1.2).toInt * (sPl T f pp ee d.2.2.2.2.2).toInt) := by
            unfold gSg
            rw [if_neg (fun h => c13 h.1), if_pos ⟨c11, k1, k2⟩]
          obtain ⟨w1, w2, w3, r1, r2, r3, r4, r5, r6, r7⟩ := r_eq1 (h0 := h0) (qs := qs) (ks := ks) (T := T) (n := n + 3) (Γ := Γ) (te := (none, (sPl T f pp ee d.2.2.2.1.2).toInt * (sPl T f pp ee d.2.2.2.2.2).toInt)) (k := 1) (l := .leaf) (r := .leaf) (Or.inl rfl) al4.1 (by omega) (by omega) (by omega)
          have eT : uTe Γ (none, (sPl T f pp ee d.2.2.2.1.2).toInt * (sPl T f pp ee d.2.2.2.2.2).toInt) = (-1, 0, sPl T f pp ee d.2.2.2.1.2 * sPl T f pp ee d.2.2.2.2.2) := by
            show ((-1 : Int32), (0 : Int32), Int64.ofInt ((sPl T f pp ee d.2.2.2.1.2).toInt * (sPl T f pp ee d.2.2.2.2.2).toInt)) = _
            rw [Int64.ofInt_mul, Int64.ofInt_toInt, Int64.ofInt_toInt]
          rw [eT] at r1
          rw [eG]
          refine done (Nat.le_refl 1) (Nat.le_refl 1) (show 1 ≤ 2 by omega) r4 ((fm4.fr v2).tr r5 (fun _ => Nat.le_refl _)) (fm4.kr.tr r6.kr) r7 (start _ _ (fun t0 ht0 => ?_))
          have t1 : t0 = 1 := by
            rcases ht0 with h | h
            · exact h.1
            · exact absurd k2 h.2
          have r3 : zF h0 qs ks T (n + 4) 67 [.ref h0, .int 1, .int (nI (v2 79)), .int (-1), .int (-1), .int (-1)] w2 = _ := r3
          rw [j139, j195, if_pos i11, t1, if_neg (by decide), if_pos (l4.mpr k1), q4, r1, zci_at, r2, zci_at, r3, zci_at]
        · have eG : gSg T f pp ee tg env d.2.2.2.1.2 d.2.2.2.2.2 = gPl (yB 0) := by
            unfold gSg
            rw [if_neg (fun h => c13 h.1), if_neg (fun h => k1 h.2.1)]
          rw [eG]
          refine plain (fun t0 ht0 => ?_)
          have t1 : t0 = 1 := by
            rcases ht0 with h | h
            · exact h.1
            · exact absurd k2 h.2
          rw [j139, j195, if_pos i11, t1, if_neg (by decide), if_neg (fun h => k1 (l4.mp h)), j263]
      · have eG : gSg T f pp ee tg env d.2.2.2.1.2 d.2.2.2.2.2 = gPl (yB 0) := by
          unfold gSg
          rw [if_neg (fun h => c13 h.1), if_neg (fun h => k2 h.2.2)]
        rw [eG]
        refine plain (fun t0 ht0 => ?_)
        have t1 : t0 = 0 := by
          rcases ht0 with h | h
          · exact absurd h.2 k2
          · exact h.1
        rw [j139, j195, if_pos i11, t1, if_pos rfl, j263]
    · have eG : gSg T f pp ee tg env d.2.2.2.1.2 d.2.2.2.2.2 = gPl (yB 0) := by
        unfold gSg
        rw [if_neg (fun h => c13 h.1), if_neg (fun h => c11 h.1)]
      rw [eG]
      refine plain (fun t0 ht0 => ?_)
      rw [j139, j195, if_neg (t11' c11), j263]
end URO
