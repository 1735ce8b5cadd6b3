/-! the reference's richOf(): an S, NAME [ S ], set, assert, ( E ) -/
section URO
variable {ks : Nat → Nat} {qs : List Nat} {T h0 len cnt lo N S P A : Nat} {L env : List Nat} {V τ : zSt} {kk pp ee f : Nat → Int32} {g : gG} {ρ tE tN : Nat → tY} {Γ : uGm} {CD : tT → Nat → Prop} {d : Nat × Nat × Nat × tS × tS} {z : Unit} {a b : tT}
/-- an index: two rows -/
theorem r_so2 {n x pl u : Nat} {t : tS} {v : Nat → Nat} {s : gSt} {sc : List gEn} {e1 g1 : Int32} (al : uAl CD pp V S P Γ tN env v τ s) (ts : rSm pp V S P x t) (hs : uSc env.length CD Γ v τ sc e1 g1) (he : env.length ≤ 12) (hq : uIq Γ τ sc) (hc : v 123 + 2 ≤ 2100) : ∃ τ1 τ2, zF h0 qs ks T (n + 1) 79 [.ref h0, .int 2, .int (nI x), .int (-1), .int e1, .int g1, .int (pp pl)] τ = some (none, τ1) ∧ uTf V τ1 ∧ zF h0 qs ks T (n + 1) 79 [.ref h0, .int 3, .int (nI x), .int (nI (Γ.1 (.inl u))), .int e1, .int g1, .int (pp pl)] τ1 = some (none, τ2) ∧ uAl CD pp V S P Γ tN env (uUp (uUp v 123) 123) τ2 (gNe (sc, pl, 3, .leaf, t.2, env, u) s) ∧ uFr v τ τ2 ∧ uKr Γ τ τ2 := by
  obtain ⟨τ1, a1, a2, a3, a4⟩ := r_so1 (h0 := h0) (qs := qs) (ks := ks) (T := T) (n := n) (x := (sc, pl, 3, .leaf, t.2, env, u)) (kd := 2) (x2 := nI x) (e := e1) (g := g1) al.q ⟨x, t.1, rfl, ts⟩ hs (by omega) hq (by omega)
  have le := uUp_le v 123
  obtain ⟨τ2, b1, b2, b3, b4⟩ := r_so1 (h0 := h0) (qs := qs) (ks := ks) (T := T) (n := n) (x := (sc, pl, 3, .leaf, t.2, env, u)) (kd := 3) (x2 := nI x) (e := e1) (g := g1) a2 ⟨x, t.1, rfl, ts⟩ (hs.up le a3) (by omega) (hq.ik a4.2) (by rw [uUp_at]; omega)
  refine ⟨τ1, τ2, a1, a2.2.1, b1, uNq.al ?_, a3.tr b3 le, a4.tr b4⟩
  rw [List.append_assoc] at b2
  exact b2
theorem uGe.at2 (v : Nat → Nat) (c : Nat) : uGe v (uUp (uUp v c) c) (cAt c 2) := fun k => by
  unfold uUp cAt
  split <;> omega
set_option maxHeartbeats 1000000 in
/-- NAME [ S ] -/
theorem ur_14 (H : uH T len cnt lo N S P A L V kk pp ee f g ρ tN Γ CD) (hw : d.1 < 2010) : uRo ks qs T h0 cnt lo N S P A L V kk pp ee f g ρ tE tN Γ CD (.inner 14 d z a b) := fun env m sc s A0 x2 x3 n v τ y yc tr wf ⟨ft, ok, cp, nb, al, ⟨hs, hq⟩, hc⟩ hn => by
  obtain ⟨n, rfl⟩ : ∃ n', n = n' + 3 := ⟨n - 3, by omega⟩
  obtain ⟨t0, ⟨t8, t9⟩, x, t10, ts⟩ := tr
  have hm : m < 2100 := by have := t0.1.2; have := H.1.1.2.1; omega
  have e6 : τ.2.2.1 6 m = nI 14 := (al.2.1.r (k := 6) (by decide) m).trans t0.2.1
  have e8 : τ.2.2.1 8 m = pp (d.1 + 1) := (al.2.1.r (k := 8) (by decide) m).trans t8
  have e10 : τ.2.2.1 10 m = nI x := (al.2.1.r (k := 10) (by decide) m).trans t10
  have wo : rUs f pp ee (V.2.2.1 32) L env d.1 ∧ _ := ft.2.1
  obtain ⟨u1, u2, u3, u4⟩ := H.us wo.1
  have ev := ft.2.2.1.1
  have eC : ∀ k, cAt 123 2 k + cE1 k ≤ gTc f pp ee tE tN Γ.2.2.2.1 (.inner 14 d z a b) env yc (gSs sc).length k := fun k => Nat.le_refl _
  have c123 : v 123 + 2 ≤ 2100 := by
    have h1 : v 123 + _ ≤ 2100 := hc 123 (by decide)
    have h2 : 2 ≤ gTc f pp ee tE tN Γ.2.2.2.1 (.inner 14 d z a b) env yc (gSs sc).length 123 := eC 123
    omega
  obtain ⟨τ1, τ2, a1, f1, a2, al2, a3, a4⟩ := r_so2 (h0 := h0) (qs := qs) (ks := ks) (T := T) (n := n + 1) (pl := d.1 + 1) (u := gNu f pp ee env d.1) al ts hs ev.1 hq c123
  have g2 := uGe.at2 v 123
  obtain ⟨c75, c79, c85⟩ := cap1 (cap.pre hc g2 eC) (fun k => Nat.le_refl _)
  obtain ⟨τ3, b1, b2, b3, b4, b5⟩ := r_pl3 (h0 := h0) (qs := qs) (ks := ks) (T := T) (n := n) (Γ := Γ) (l := .leaf) (r := .leaf) al2.1 c75 c79
  have q9 := (f1.r (k := 9) (by decide) m).trans t9
  have q8 := (f1.r (k := 8) (by decide) m).trans t8
  have q10 := (f1.r (k := 10) (by decide) m).trans t10
  have q32 := (f1.r (k := 32) (by decide) d.1).trans u3
  rw [show n + 3 = (n + 2) + 1 from rfl, zE_richOf]
  unfold b_richOf
  rw [zgd_at (zin_n hm (by decide)), nI_clamp (by omega), e6]
  iterate 13 rw [if_neg (by decide)]
  rw [if_pos (by decide), zgd_at (zin_n hm (by decide)), zgd_at (zin_n hm (by decide)), e10, e8, a1, zcv_at, zgd_at (zin_n hm (by decide)), zgd_at (zin_n hm (by decide)), show τ1.2.2.1 9 m = nI d.1 from q9, zgd_at (zin_n hw (by decide)), zgd_at (zin_n hm (by decide)), show τ1.2.2.1 10 m = nI x from q10, nI_clamp (show d.1 < 2 ^ 31 by omega), q32, show τ1.2.2.1 8 m = pp (d.1 + 1) from q8, a2, zcv_at, b1, zci_at, show y = yB 0 from ok.1]
  refine uRz.pre (c1 := cAt 123 2) (c2 := cE1) ?_ g2 ⟨rfl, rfl⟩ a3 a4.2 eC
  exact uRz.one rfl al2 (Nat.le_refl 1) (Nat.le_refl 1) (Nat.zero_le _) (fun k => Nat.le_refl _) rfl rfl b2 b3 b4.kr b5
set_option maxHeartbeats 1000000 in
/-- set -/
theorem ur_6 (H : uH T len cnt lo N S P A L V kk pp ee f g ρ tN Γ CD) (hw : d.1 + 1 < 2010) (Ia : uRo ks qs T h0 cnt lo N S P A L V kk pp ee f g ρ tE tN Γ CD a) (wa : tWf kk cnt a 0) : uRo ks qs T h0 cnt lo N S P A L V kk pp ee f g ρ tE tN Γ CD (.inner 6 d z a b) := fun env m sc s A0 x2 x3 n v τ y yc tr wf ⟨ft, ok, cp, nb, al, ⟨hs, hq⟩, hc⟩ hn => by
  obtain ⟨n, rfl⟩ : ∃ n', n = n' + 3 := ⟨n - 3, by omega⟩
  obtain ⟨gd, wo, ev, nc⟩ := ft
  obtain rfl : b = .leaf := gd.2.2.1.2.2 (Or.inr (Or.inl rfl))
  obtain ⟨t0, ⟨t8, t9⟩, x, y', xa, ⟨t10, t11, t12⟩, ts, -, ta⟩ := tr
  have hm : m < 2100 := by have := t0.1.2; have := H.1.1.2.1; omega
  have hx : xa < 2100 := by have := (rTr_fw ta wa).1; have := H.1.1.2.1; omega
  have nc : ∀ p, p ∈ (m, d.1) :: nE V a 0 (V.2.2.1 12 m).toNatClampNeg → p.2 ∈ tTg _ → nC V g ρ tE p := nc
  rw [show V.2.2.1 12 m = nI xa from t12, nI_clamp (by omega)] at nc
  have e6 : τ.2.2.1 6 m = nI 6 := (al.2.1.r (k := 6) (by decide) m).trans t0.2.1
  have e8 : τ.2.2.1 8 m = pp (d.1 + 2) := (al.2.1.r (k := 8) (by decide) m).trans t8
  have e10 : τ.2.2.1 10 m = nI x := (al.2.1.r (k := 10) (by decide) m).trans t10
  have wo : rUs f pp ee (V.2.2.1 32) L env (d.1 + 1) ∧ rWs f pp ee (V.2.2.1 32) L env (sEv d.2.2.2.1.2) ∧ rWs f pp ee (V.2.2.1 32) L env (sEv d.2.2.2.2.2) ∧ rWo f pp ee (V.2.2.1 32) L a env := wo
  obtain ⟨u1, u2, u3, u4⟩ := H.us wo.1
  have ev : (env.length ≤ 12 ∧ ∀ u, u ∈ env → u ∈ L) ∧ rEv L a env ∧ rEv L _ env := ev
  have hn : 220 + (max (tDq a) (tDq .leaf) + 3) ≤ n + 3 := hn
  have eC : ∀ k, cAt 123 2 k + gTc f pp ee tE tN Γ.2.2.2.1 a env yc (gSs sc).length k ≤ gTc f pp ee tE tN Γ.2.2.2.1 (.inner 6 d z a .leaf) env yc (gSs sc).length k := fun k => Nat.le_refl _
  have c123 : v 123 + 2 ≤ 2100 := by
    have h1 : v 123 + _ ≤ 2100 := hc 123 (by decide)
    have h2 : 2 + _ ≤ gTc f pp ee tE tN Γ.2.2.2.1 (.inner 6 d z a .leaf) env yc (gSs sc).length 123 := eC 123
    omega
  obtain ⟨τ1, τ2, a1, f1, a2, al2, a3, a4⟩ := r_so2 (h0 := h0) (qs := qs) (ks := ks) (T := T) (n := n + 1) (pl := d.1 + 2) (u := gNu f pp ee env (d.1 + 1)) al ts hs ev.1.1 hq c123
  have g2 := uGe.at2 v 123
  have ok : _ ∧ _ ∧ gOk f pp ee tE tN a env y := ok
  have nb : gNb tE tN Γ a (v 100) (v 98) := nb
  obtain ⟨t', τ', v', b1, b2, b3, b4, b5, b6, b7⟩ := Ia env xa sc (gNe (sc, d.1 + 2, 3, .leaf, d.2.2.2.1.2, env, gNu f pp ee env (d.1 + 1)) s) A0 x2 x3 (n + 2) (uUp (uUp v 123) 123) τ2 y yc ta wa ⟨⟨gd.2.2.2.1, wo.2.2.2, ev.2.1, fun p hp ht => nc p (List.mem_cons_of_mem _ hp) (List.mem_append_right _ (List.mem_append_left _ ht))⟩, ok.2.2, cp.2.2.1, nb, al2, ⟨hs.up g2.le a3, hq.ik a4.2⟩, cap.pre hc g2 eC⟩ (by omega)
  have q9 := (f1.r (k := 9) (by decide) m).trans t9
  have q8 := (f1.r (k := 8) (by decide) m).trans t8
  have q10 := (f1.r (k := 10) (by decide) m).trans t10
  have q32 := (f1.r (k := 32) (by decide) (d.1 + 1)).trans u3
  have q12 := (al2.2.1.r (k := 12) (by decide) m).trans t12
  rw [show n + 3 = (n + 2) + 1 from rfl, zE_richOf]
  unfold b_richOf
  rw [zgd_at (zin_n hm (by decide)), nI_clamp (by omega), e6]
  iterate 5 rw [if_neg (by decide)]
  rw [if_pos (by decide), zgd_at (zin_n hm (by decide)), zgd_at (zin_n hm (by decide)), e10, e8, a1, zcv_at, zgd_at (zin_n hm (by decide)), zgd_at (zin_n hm (by decide)), show τ1.2.2.1 9 m = nI (d.1 + 1) from q9, zgd_at (zin_n hw (by decide)), zgd_at (zin_n hm (by decide)), show τ1.2.2.1 10 m = nI x from q10, nI_clamp (show d.1 + 1 < 2 ^ 31 by omega), q32, show τ1.2.2.1 8 m = pp (d.1 + 2) from q8, a2, zcv_at, zgd_at (zin_n hm (by decide)), show τ2.2.2.1 12 m = nI xa from q12, b1, zci_at]
  exact uRz.pre (c1 := cAt 123 2) (c2 := gTc f pp ee tE tN Γ.2.2.2.1 a env yc (gSs sc).length) ⟨t', τ', v', rfl, b2, b3, b4, b5, b6, b7⟩ g2 ⟨rfl, rfl⟩ a3 a4.2 eC
set_option maxHeartbeats 1000000 in
/-- ( E ) -/
theorem ur_16 (H : uH T len cnt lo N S P A L V kk pp ee f g ρ tN Γ CD) (Ia : uRo ks qs T h0 cnt lo N S P A L V kk pp ee f g ρ tE tN Γ CD a) (wa : tWf kk cnt a 0) (hb : b = .leaf) : uRo ks qs T h0 cnt lo N S P A L V kk pp ee f g ρ tE tN Γ CD (.inner 16 d z a b) := fun env m sc s A0 x2 x3 n v τ y yc tr wf ⟨ft, ok, cp, nb, al, ⟨hs, hq⟩, hc⟩ hn => by
  subst hb
  obtain ⟨n, rfl⟩ : ∃ n', n = n' + 1 := ⟨n - 1, by omega⟩
  obtain ⟨gd, wo, ev, nc⟩ := ft
  obtain ⟨t0, x, t11, ta⟩ := tr
  have hm : m < 2100 := by have := t0.1.2; have := H.1.1.2.1; omega
  have hx : x < 2100 := by have := (rTr_fw ta wa).1; have := H.1.1.2.1; omega
  have nc : ∀ p, p ∈ (m, d.1) :: nE V a 0 (V.2.2.1 11 m).toNatClampNeg → p.2 ∈ tTg _ → nC V g ρ tE p := nc
  rw [show V.2.2.1 11 m = nI x from t11, nI_clamp (by omega)] at nc
  have e6 : τ.2.2.1 6 m = nI 16 := (al.2.1.r (k := 6) (by decide) m).trans t0.2.1
  have e11 : τ.2.2.1 11 m = nI x := (al.2.1.r (k := 11) (by decide) m).trans t11
  have wo : rWs f pp ee (V.2.2.1 32) L env (sEv d.2.2.2.1.2) ∧ rWs f pp ee (V.2.2.1 32) L env (sEv d.2.2.2.2.2) ∧ rWo f pp ee (V.2.2.1 32) L a env ∧ rWo f pp ee (V.2.2.1 32) L _ env := wo
  have ev : (env.length ≤ 12 ∧ ∀ u, u ∈ env → u ∈ L) ∧ rEv L a env ∧ rEv L _ env := ev
  have hn : 220 + (max (tDq a) (tDq .leaf) + 3) ≤ n + 1 := hn
  obtain ⟨t', τ', v', b1, b2, b3, b4, b5, b6, b7⟩ := Ia env x sc s A0 x2 x3 n v τ y yc ta wa ⟨⟨gd.2.2.2.1, wo.2.2.1, ev.2.1, fun p hp ht => nc p (List.mem_cons_of_mem _ hp) (List.mem_append_right _ (List.mem_append_left _ ht))⟩, ok, cp.2.2.1, nb, al, ⟨hs, hq⟩, hc⟩ (by omega)
  rw [zE_richOf]
  unfold b_richOf
  rw [zgd_at (zin_n hm (by decide)), nI_clamp (by omega), e6]
  iterate 15 rw [if_neg (by decide)]
  rw [if_pos (by decide), zgd_at (zin_n hm (by decide)), e11, b1, zci_at]
  exact ⟨t', τ', v', rfl, b2, b3, b4, b5, b6, b7⟩
end URO
