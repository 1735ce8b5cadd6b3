/-! the reference's richOf(): conditions; assert, an S, let -/
section URO
variable {ks : Nat → Nat} {qs : List Nat} {T h0 len cnt lo N S P A : Nat} {L env : List Nat} {V τ : zSt} {kk pp ee f : Nat → Int32} {g : gG} {ρ tE tN : Nat → tY} {Γ : uGm} {CD : tT → Nat → Prop} {d : Nat × Nat × Nat × tS × tS} {z : Unit} {a b : tT}
/-- the node of a C -/
theorem rTr_cb : ∀ (t : tT) (gl m0 m : Nat) (l : Bool), cWf cnt t l → (l = true → m0 < N) → rTr pp V lo N S P A t gl m0 m → m < N
  | .leaf, gl, m0, m, l, wf, h0, tr => by
    have tr : m = m0 := tr
    rw [tr]
    exact h0 wf
  | .inner g d _ a b, gl, m0, m, l, wf, h0, tr => by
    rcases wf with ⟨rfl, rfl, wa, wb⟩ | ⟨rfl, w⟩
    · obtain ⟨m1, mb, ⟨⟨-, h1⟩, -⟩, -, -, tb⟩ := tr
      exact rTr_cb b gl m1 m true wb (fun _ => h1) tb
    · rcases w with ⟨rfl | rfl, wa, wb⟩ | ⟨rfl, _⟩ | ⟨rfl, _⟩ | ⟨rfl, _⟩ | ⟨rfl, _⟩
      · obtain ⟨m1, ta, tb⟩ := tr
        exact rTr_cb b 20 m1 m true wb (fun _ => rTr_cb a 0 0 m1 false wa (fun z => by cases z) ta) tb
      · obtain ⟨m1, ta, tb⟩ := tr
        exact rTr_cb b 21 m1 m true wb (fun _ => rTr_cb a 0 0 m1 false wa (fun z => by cases z) ta) tb
      · exact tr.1.1.2
      · exact tr.1.1.2
      · exact tr.1.1.2
      · exact tr.1.1.2
/-- gone(): a condition more -/
theorem r_gn {n Nn : Nat} {c : gCd} {hb : Bool} {v : Nat → Nat} {s : gSt} {sc : List gEn} {x2 e1 g1 : Int32} (al : uAl CD pp V S P Γ tN env v τ s) (hs : uSc Nn CD Γ v τ sc e1 g1) (hq : uIq Γ τ sc) (hc : match c with | .inl c => ∃ m, x2 = nI m ∧ m < 2100 ∧ CD c.1 m | .inr l => x2 = (-2) - nI (Γ.1 (.inl l))) (hl : v 110 < 12000) : ∃ τ', zF h0 qs ks T (n + 1) 74 [.ref h0, .int g1, .int x2, .int (b01 hb)] τ = some (some (.int (nI (v 110))), τ') ∧ uAl CD pp V S P Γ tN env (uUp v 110) τ' s ∧ uSc Nn CD Γ (uUp v 110) τ' (.inr (c, hb) :: sc) e1 (nI (v 110)) ∧ uIq Γ τ' (.inr (c, hb) :: sc) ∧ uFr v τ τ' ∧ uKr Γ τ τ' := by
  obtain ⟨τ', a1, a2, a3, ⟨a4, a5, a6⟩, a7⟩ := r_gone (h0 := h0) (qs := qs) (ks := ks) (T := T) (n := n) (x1 := g1) (x2 := x2) (x3 := b01 hb) al.1 hl
  have ke : uKe τ τ' := ⟨a7.1, a7.2.1, a7.2.2.1, a7.2.2.2⟩
  have kr : uKr Γ τ τ' := ke.kr
  have le := uUp_le v 110
  have hs' := hs.up le a3
  refine ⟨τ', a1, al.up le (uUp_ne v (by decide)) (uUp_ne v (by decide)) a2 a3 kr (uUp_ne v (by decide)), ⟨hs'.1, v 110, ⟨rfl, by rw [uUp_at]; omega⟩, a5, ?_, ?_⟩, hq.ik kr.2, a3, kr⟩
  · rw [a4]
    exact hc
  · rw [a6]
    exact hs'.2
theorem gSs_c (c : gCd × Bool) (sc : List gEn) : gSs (.inr c :: sc) = gSs sc := by
  rw [gSs_eq, gSs_eq]
  rfl
theorem gSs_nm (x : gN) (X : gTy) (sc : List gEn) : (gSs (gNm x X sc)).length = (gSs sc).length + yM1 (gSy X) := by
  rw [gSs_eq, gSs_eq, List.length_reverse, List.length_map, List.length_reverse, List.length_map, scN_nm]
  unfold yM1
  split
  · rfl
  · rfl
set_option maxHeartbeats 1000000 in
/-- assert -/
theorem ur_5 (H : uH T len cnt lo N S P A L V kk pp ee f g ρ tN Γ CD) (Ib : uRo ks qs T h0 cnt lo N S P A L V kk pp ee f g ρ tE tN Γ CD b) (wc : cWf cnt a false) (wb : tWf kk cnt b 0) : uRo ks qs T h0 cnt lo N S P A L V kk pp ee f g ρ tE tN Γ CD (.inner 5 d z a b) := fun env m sc s A0 x2 x3 n v τ y yc tr wf ⟨ft, ok, cp, nb, al, ⟨hs, hq⟩, hc⟩ hn => by
  obtain ⟨n, rfl⟩ : ∃ n', n = n' + 3 := ⟨n - 3, by omega⟩
  obtain ⟨gd, wo, ev, nc⟩ := ft
  obtain ⟨t0, t8, x, yb, ⟨t9, t11⟩, tc, tb⟩ := tr
  have hm : m < 2100 := by have := t0.1.2; have := H.1.1.2.1; omega
  have hy : yb < 2100 := by have := (rTr_fw tb wb).1; have := H.1.1.2.1; omega
  have hx : x < 2100 := by have := rTr_cb a 0 0 x false wc (fun z => by cases z) tc; have := H.1.1.2.1; omega
  have cd : CD a x := H.2.2.2.2.1 a x tc wc hx
  have nc : ∀ p, p ∈ (m, d.1) :: nE V b 0 (V.2.2.1 11 m).toNatClampNeg → p.2 ∈ tTg _ → nC V g ρ tE p := nc
  rw [show V.2.2.1 11 m = nI yb from t11, nI_clamp (by omega)] at nc
  have wo : rWs f pp ee (V.2.2.1 32) L env (cEv a) ∧ rWo f pp ee (V.2.2.1 32) L b env := wo
  have ev : (env.length ≤ 12 ∧ ∀ u, u ∈ env → u ∈ L) ∧ rEv L b env := ev
  have hn : 220 + (tDq b + 3) ≤ n + 3 := hn
  have e6 : τ.2.2.1 6 m = nI 5 := (al.2.1.r (k := 6) (by decide) m).trans t0.2.1
  have e7 : τ.2.2.1 7 m = pp d.1 := (al.2.1.r (k := 7) (by decide) m).trans t0.2.2
  have e9 : τ.2.2.1 9 m = nI x := (al.2.1.r (k := 9) (by decide) m).trans t9
  have eC : ∀ k, cAt 123 1 k + cAt 110 1 k + gTc f pp ee tE tN Γ.2.2.2.1 b env yc (gSs sc).length k ≤ gTc f pp ee tE tN Γ.2.2.2.1 (.inner 5 d z a b) env yc (gSs sc).length k := fun k => Nat.le_refl _
  have c123 : v 123 < 2100 := by
    have h1 : v 123 + _ ≤ 2100 := hc 123 (by decide)
    have h2 : 1 + 0 + _ ≤ gTc f pp ee tE tN Γ.2.2.2.1 (.inner 5 d z a b) env yc (gSs sc).length 123 := eC 123
    omega
  have c110 : v 110 < 12000 := by
    have h1 : v 110 + _ ≤ 12000 := hc 110 (by decide)
    have h2 : 0 + 1 + _ ≤ gTc f pp ee tE tN Γ.2.2.2.1 (.inner 5 d z a b) env yc (gSs sc).length 110 := eC 110
    omega
  obtain ⟨τ1, a1, a2, a3, a4⟩ := r_so1 (h0 := h0) (qs := qs) (ks := ks) (T := T) (n := n + 1) (x := (sc, d.1, 0, a, [], env, 0)) (kd := 0) (x2 := nI x) (e := x2) (g := x3) al.q ⟨x, rfl, hx, cd⟩ hs (by have := ev.1.1; omega) hq c123
  have al1 : uAl CD pp V S P Γ tN env (uUp v 123) τ1 (gNe (sc, d.1, 0, a, [], env, 0) s) := uNq.al a2
  have g1 := uGe.at1 v 123
  obtain ⟨τ2, b1, al2, hs2, hq2, b3, b4⟩ := r_gn (h0 := h0) (qs := qs) (ks := ks) (T := T) (n := n + 1) (c := .inl (a, env)) (hb := true) (x2 := nI x) al1 (hs.up g1.le a3) (hq.ik a4.2) ⟨x, rfl, hx, cd⟩ c110
  have g2 := uGe.at1 (uUp v 123) 110
  have g12 := g1.tr g2
  have nb : gNb tE tN Γ b (v 100) (v 98) := nb
  have ok : _ ∧ gOk f pp ee tE tN b env y := ok
  have eS : (gSs (.inr (.inl (a, env), true) :: sc)).length = (gSs sc).length := by rw [gSs_c]
  have hc2 := cap.pre (c2 := gTc f pp ee tE tN Γ.2.2.2.1 b env yc (gSs sc).length) hc g12 eC
  obtain ⟨t', τ', v', d1, d2, d3, d4, d5, d6, d7⟩ := Ib env yb (.inr (.inl (a, env), true) :: sc) (gNe (sc, d.1, 0, a, [], env, 0) s) A0 x2 (nI (v 110)) (n + 2) (uUp (uUp v 123) 110) τ2 y yc tb wb ⟨⟨gd.2.2.2.2, wo.2, ev.2, fun p hp ht => nc p (List.mem_cons_of_mem _ hp) (List.mem_append_right _ (List.mem_append_right _ ht))⟩, ok.2, by rw [eS]; exact cp.2.2.2, nb, al2, ⟨hs2, hq2⟩, by rw [eS]; exact hc2⟩ (by omega)
  rw [eS] at d2
  have q9 := (al1.2.1.r (k := 9) (by decide) m).trans t9
  have q11 := (al1.2.1.r (k := 11) (by decide) m).trans t11
  have a1 : zF h0 qs ks T (n + 2) 79 [.ref h0, .int 0, .int (nI x), .int (-1), .int x2, .int x3, .int (pp d.1)] τ = _ := a1
  have b1 : zF h0 qs ks T (n + 2) 74 [.ref h0, .int x3, .int (nI x), .int 1] τ1 = some (some (.int (nI (v 110))), τ2) := b1
  rw [show n + 3 = (n + 2) + 1 from rfl, zE_richOf]
  unfold b_richOf
  rw [zgd_at (zin_n hm (by decide)), nI_clamp (by omega), e6]
  iterate 4 rw [if_neg (by decide)]
  rw [if_pos (by decide), zgd_at (zin_n hm (by decide)), zgd_at (zin_n hm (by decide)), e9, e7, a1, zcv_at, zgd_at (zin_n hm (by decide)), zgd_at (zin_n hm (by decide)), show τ1.2.2.1 9 m = nI x from q9, b1, zci_at, show τ1.2.2.1 11 m = nI yb from q11, d1, zci_at]
  exact uRz.pre ⟨t', τ', v', rfl, d2, d3, d4, d5, d6, d7⟩ g12 ⟨rfl, rfl⟩ (a3.tr b3 g1.le) (a4.tr b4).2 eC
/-- isName(), and an S that is a NAME -/
theorem r_sun {n x : Nat} {t : tS} (H : uH T len cnt lo N S P A L V kk pp ee f g ρ tN Γ CD) (fm : uTf V τ) (o3 : pO3 t.2) (hu : rWs f pp ee (V.2.2.1 32) L env (sEv t.2)) (ts : rSm pp V S P x t) : zF h0 qs ks T (n + 1) 48 [.ref h0, .int (nI x)] τ = some (some (.int (b01 (isN t.2))), τ) ∧ (isN t.2 = true → ∃ a', (τ.2.2.1 13 x = nI a' ∧ a' < 2100) ∧ (τ.2.2.1 18 a' = nI (t.2.headD (0, false, 0)).2.2) ∧ rUs f pp ee (V.2.2.1 32) L env (t.2.headD (0, false, 0)).2.2) := by
  have ts' := fm.sm ts
  refine ⟨r_isN H.1.1.2.2.1 H.1.1.2.2.2.1 o3 ts', fun c => ?_⟩
  obtain ⟨h1, h2, a', q3, q4, q5, q6⟩ := ts'
  have c' := of_decide_eq_true c
  match e : t.2, c' with
  | [], c' => exact absurd c'.1 (by decide)
  | p :: ps, c' =>
    rw [e] at q5 q6 hu
    have := H.1.1.2.2.2.1
    have := q6 0 p rfl
    refine ⟨a', ⟨q3, by simp at q5; omega⟩, this.2.2, hu _ ?_⟩
    show p.2.2 ∈ sEv (p :: ps)
    have p1 : p.1 = 1 := c'.2.1
    unfold sEv sNm
    rw [List.filter_cons, if_pos (by rw [p1]; rfl)]
    exact List.mem_cons_self ..
set_option maxHeartbeats 1000000 in
/-- an S -/
theorem ur_10 (H : uH T len cnt lo N S P A L V kk pp ee f g ρ tN Γ CD) (hp : pOk cnt d.2.2.2.1.2) (hk : sKn kk d.2.2.2.1.2) (o3 : pO3 d.2.2.2.1.2) (hb : ∀ p, p ∈ d.2.2.2.1.2 → p.2.2 < 2010) : uRo ks qs T h0 cnt lo N S P A L V kk pp ee f g ρ tE tN Γ CD (.inner 10 d z a b) := fun env m sc s A0 x2 x3 n v τ y yc tr wf ⟨ft, ok, cp, nb, al, ⟨hs, hq⟩, hc⟩ hn => by
  obtain ⟨n, rfl⟩ : ∃ n', n = n' + 5 := ⟨n - 5, by omega⟩
  obtain ⟨t0, x, t10, ts⟩ := tr
  have hm : m < 2100 := by have := t0.1.2; have := H.1.1.2.1; omega
  have hx : x < 2100 := by have := ts.1; have := H.1.1.2.2.1; omega
  have e6 : τ.2.2.1 6 m = nI 10 := (al.2.1.r (k := 6) (by decide) m).trans t0.2.1
  have e10 : τ.2.2.1 10 m = nI x := (al.2.1.r (k := 10) (by decide) m).trans t10
  have wo : rWs f pp ee (V.2.2.1 32) L env (sEv d.2.2.2.1.2) ∧ _ := ft.2.1
  have ev := ft.2.2.1.1
  have gd := ft.1.1.1
  obtain ⟨c75, c79, c85⟩ := cap1 hc (fun k => Nat.le_refl _)
  obtain ⟨i1, i2⟩ := r_sun (h0 := h0) (qs := qs) (ks := ks) (T := T) (n := n + 3) H al.2.1 o3 wo.1 ts
  rw [show n + 5 = (n + 4) + 1 from rfl, zE_richOf]
  unfold b_richOf
  rw [zgd_at (zin_n hm (by decide)), nI_clamp (by omega), e6]
  iterate 9 rw [if_neg (by decide)]
  rw [if_pos (by decide), zgd_at (zin_n hm (by decide)), e10, i1, zci_at]
  by_cases c : isN d.2.2.2.1.2 = true
  · obtain ⟨a', ⟨k1, k2⟩, k3, k4⟩ := i2 c
    obtain ⟨u1, u2, u3, u4⟩ := H.us k4
    have hd : (d.2.2.2.1.2.headD (0, false, 0)).2.2 < 2010 := by
      have c' := of_decide_eq_true c
      match e : d.2.2.2.1.2, c' with
      | [], c' => exact absurd c'.1 (by decide)
      | p :: ps, c' => exact hb p (by rw [e]; exact List.mem_cons_self ..)
    obtain ⟨t, w1, w2⟩ := al.2.2.1.1 _ (Or.inl u1)
    obtain ⟨t', τ', c1, b1, b2, b3, b4, b5, b6⟩ := r_ofName (h0 := h0) (qs := qs) (ks := ks) (T := T) (n := n + 2) al.1 u4 w1 w2 c75 c79 c85
    have q32 := (al.2.1.r (k := 32) (by decide) (d.2.2.2.1.2.headD (0, false, 0)).2.2).trans u3
    rw [c, if_neg (show ¬ b01 true = 0 by decide), zgd_at (zin_n hm (by decide)), e10, zgd_at (zin_n hx (by decide)), nI_clamp (show x < 2 ^ 31 by omega), k1, zgd_at (zin_n k2 (by decide)), nI_clamp (show a' < 2 ^ 31 by omega), k3, zgd_at (zin_n hd (by decide)), nI_clamp (show (d.2.2.2.1.2.headD (0, false, 0)).2.2 < 2 ^ 31 by omega), q32, b1, zci_at]
    have ey : y = tN (gNu f pp ee env (d.2.2.2.1.2.headD (0, false, 0)).2.2) := ok.1.trans (if_pos c)
    have eW : gWk T f pp ee tE tN (.inner 10 d z a b) env sc A0 s = (s, gOn (gNu f pp ee env (d.2.2.2.1.2.headD (0, false, 0)).2.2) s) := by
      show (s, gSu T f pp ee env d.2.2.2.1.2 s) = _
      unfold gSu
      rw [if_pos c]
    rw [ey, eW]
    exact uRz.one rfl al b2 b2 b2 (fun k => Nat.le_refl _) rfl rfl b3 b4 b5.kr b6
  · have c' : isN d.2.2.2.1.2 = false := by simpa using c
    obtain ⟨τ2, r1, τ3, τ4, c1, b1, b2, b3, b4, b5, b6, b7, b8⟩ := r_su1 (h0 := h0) (qs := qs) (ks := ks) (n := n) (x := x) (k := 1) (t := d.2.2.2.1) (l := .leaf) (r := .leaf) (H.lh ev) al.2.1 H.2.1.1 ⟨hp, gd, wo.1, H.2.2.2.2.2 _ gd hk⟩ ts (Or.inl rfl) al.1 c75 c79 c85
    have b3 : zF h0 qs ks T (n + 4) 67 [.ref h0, .int 1, .int (nI (v 79)), .int (-1), .int (-1), .int (-1)] τ3 = _ := b3
    rw [c', if_pos (show b01 false = 0 from rfl), zgd_at (zin_n hm (by decide)), e10, b1, zci_at, b2, zci_at, b3, zci_at]
    have ey : y = yB 0 := ok.1.trans (if_neg c)
    have eW : gWk T f pp ee tE tN (.inner 10 d z a b) env sc A0 s = (s, if gTs f pp ee env d.2.2.2.1.2 = true then gEq (yB 0) (gOf T f pp ee env d.2.2.2.1.2) else gPl (yB 0)) := by
      show (s, gSu T f pp ee env d.2.2.2.1.2 s) = _
      unfold gSu
      rw [if_neg c]
    rw [ey, eW]
    exact uRz.one rfl al (Nat.le_refl 1) (Nat.le_refl 1) b4 (fun k => Nat.le_refl _) rfl rfl b5 b6 b7 b8
end URO
