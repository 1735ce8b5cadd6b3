/-! the reference's richOf(): cons, new, an S, what passes on -/
section URO
variable {ks : Nat → Nat} {qs : List Nat} {T h0 len cnt lo N S P A : Nat} {L env : List Nat} {V τ : zSt} {kk pp ee f : Nat → Int32} {g : gG} {ρ tE tN : Nat → tY} {Γ : uGm} {CD : tT → Nat → Prop} {d : Nat × Nat × Nat × tS × tS} {z : Unit} {a b : tT}
/-- a NAME that counts -/
theorem uH.us {w : Nat} (H : uH T len cnt lo N S P A L V kk pp ee f g ρ tN Γ CD) (hu : rUs f pp ee (V.2.2.1 32) L env w) : gNu f pp ee env w ∈ env ∧ gNu f pp ee env w ∈ L ∧ V.2.2.1 32 w = nI (Γ.1 (.inl (gNu f pp ee env w))) ∧ Γ.1 (.inl (gNu f pp ee env w)) < 700 := by
  obtain ⟨u, u1, u2, u3⟩ := H.1.2.2.1.us hu
  have e : gNu f pp ee env w = u := by unfold gNu; rw [u1]; rfl
  obtain ⟨k, -, ek⟩ := nFind_mem u1
  rw [e]
  obtain ⟨h1, h2⟩ := H.2.1.1 u u2
  exact ⟨List.mem_of_getElem? ek, u2, by rw [u3, h1], h2⟩
/-- what went before -/
theorem uRz.pre {R : zRs} {t : tT} {y : tY} {c1 c2 co v v1 : Nat → Nat} {r : gSt × gTy} {τ1 : zSt} (h : uRz CD pp V S P Γ tE tN R t env y c2 r v1 τ1) (hg : uGe v v1 c1) (e : v1 98 = v 98 ∧ v1 100 = v 100) (hf : uFr v τ τ1) (k : uIk Γ τ τ1) (hc : ∀ k, c1 k + c2 k ≤ co k) : uRz CD pp V S P Γ tE tN R t env y co r v τ := by
  obtain ⟨t', τ', v', a1, a2, a3, a4, a5, a6, a7⟩ := h
  exact ⟨t', τ', v', a1, (hg.tr a2).mo hc, by rw [a3.1, a3.2, e.1, e.2]; exact ⟨rfl, rfl⟩, hf.tr a4 (fun k => (hg k).1), k.tr a5, a6, a7⟩
theorem uGe.le {v v1 c1 : Nat → Nat} (hg : uGe v v1 c1) : ∀ k, v k ≤ v1 k := fun k => (hg k).1
theorem cap.pre {v v1 c1 c2 co : Nat → Nat} (hc : ∀ k, k ∈ uCt → v k + co k ≤ uLm k) (hg : uGe v v1 c1) (h : ∀ k, c1 k + c2 k ≤ co k) : ∀ k, k ∈ uCt → v1 k + c2 k ≤ uLm k := fun k hk => by
  have := hc k hk
  have := (hg k).2
  have := h k
  omega
theorem uGe.at1 (v : Nat → Nat) (c : Nat) : uGe v (uUp v c) (cAt c 1) := fun k => by
  unfold uUp cAt
  split <;> omega
set_option maxHeartbeats 1000000 in
/-- cons -/
theorem ur_18 (H : uH T len cnt lo N S P A L V kk pp ee f g ρ tN Γ CD) (hw : d.2.1 < 2010) : uRo ks qs T h0 cnt lo N S P A L V kk pp ee f g ρ tE tN Γ CD (.inner 18 d z a b) := fun env m sc s A0 x2 x3 n v τ y yc tr wf ⟨ft, ok, cp, nb, al, ⟨hs, hq⟩, hc⟩ hn => by
  obtain ⟨n, rfl⟩ : ∃ n', n = n' + 3 := ⟨n - 3, by omega⟩
  obtain ⟨t0, t9, -⟩ := tr
  have hm : m < 2100 := by have := t0.1.2; have := H.1.1.2.1; omega
  have e6 : τ.2.2.1 6 m = nI 18 := (al.2.1.r (k := 6) (by decide) m).trans t0.2.1
  have e9 : τ.2.2.1 9 m = nI d.2.1 := (al.2.1.r (k := 9) (by decide) m).trans t9
  have wo : _ ∧ rUs f pp ee (V.2.2.1 32) L env d.2.1 := ft.2.1
  obtain ⟨u1, u2, u3, u4⟩ := H.us wo.2
  have e32 := (al.2.1.r (k := 32) (by decide) d.2.1).trans u3
  obtain ⟨c75, c79, c85⟩ := cap1 hc (fun k => Nat.le_refl _)
  rw [show n + 3 = (n + 2) + 1 from rfl, zE_richOf]
  unfold b_richOf
  rw [zgd_at (zin_n hm (by decide)), nI_clamp (by omega), e6]
  iterate 17 rw [if_neg (by decide)]
  rw [if_pos (by decide), zgd_at (zin_n hm (by decide)), e9, zgd_at (zin_n hw (by decide)), nI_clamp (by omega), e32]
  obtain ⟨τ1, τ2, τ3, b1, b2, b3, b4, b5, b6, b7⟩ := r_eq1 (h0 := h0) (qs := qs) (ks := ks) (T := T) (n := n + 1) (Γ := Γ) (te := (some (.inl (gNu f pp ee env d.2.1), 1), 1)) (k := 4) (l := .leaf) (r := .leaf) (Or.inr (Or.inr rfl)) al.1 c75 c79 c85
  have b1 : zF h0 qs ks T (n + 2) 69 [.ref h0, .int 0, .int (nI (Γ.1 (.inl (gNu f pp ee env d.2.1)))), .int 1, .long 1, .int (-1)] τ = _ := b1
  have b3 : zF h0 qs ks T (n + 2) 67 [.ref h0, .int 5, .int (nI (v 79)), .int (-1), .int (-1), .int (-1)] τ2 = _ := b3
  rw [b1, zci_at, b2, zci_at, b3, zci_at, show y = yB 3 from ok.1]
  exact uRz.one rfl al (Nat.le_refl 1) (Nat.le_refl 1) (Nat.le_refl 1) (fun k => Nat.le_refl _) rfl rfl b4 b5 b6.kr b7
theorem uH.lh (H : uH T len cnt lo N S P A L V kk pp ee f g ρ tN Γ CD) (he : env.length ≤ 12 ∧ ∀ u, u ∈ env → u ∈ L) : rLh T len cnt S P L env V kk pp ee f := H.1.lh he
set_option maxHeartbeats 1000000 in
/-- new S -/
theorem ur_7 (H : uH T len cnt lo N S P A L V kk pp ee f g ρ tN Γ CD) (hp : pOk cnt d.2.2.2.1.2) (hk : sKn kk d.2.2.2.1.2) : uRo ks qs T h0 cnt lo N S P A L V kk pp ee f g ρ tE tN Γ CD (.inner 7 d z a b) := fun env m sc s A0 x2 x3 n v τ y yc tr wf ⟨ft, ok, cp, nb, al, ⟨hs, hq⟩, hc⟩ hn => by
  obtain ⟨n, rfl⟩ : ∃ n', n = n' + 5 := ⟨n - 5, by omega⟩
  obtain ⟨t0, x, t10, ts⟩ := tr
  have hm : m < 2100 := by have := t0.1.2; have := H.1.1.2.1; omega
  have e6 : τ.2.2.1 6 m = nI 7 := (al.2.1.r (k := 6) (by decide) m).trans t0.2.1
  have e7 : τ.2.2.1 7 m = pp d.1 := (al.2.1.r (k := 7) (by decide) m).trans t0.2.2
  have e10 : τ.2.2.1 10 m = nI x := (al.2.1.r (k := 10) (by decide) m).trans t10
  have wo : rWs f pp ee (V.2.2.1 32) L env (sEv d.2.2.2.1.2) ∧ _ := ft.2.1
  have ev := ft.2.2.1.1
  have gd := ft.1.1.1
  have eC : ∀ k, cAt 123 1 k + cE1 k ≤ gTc f pp ee tE tN Γ.2.2.2.1 (.inner 7 d z a b) env yc (gSs sc).length k := fun k => Nat.le_refl _
  have c123 : v 123 < 2100 := by
    have h1 : v 123 + _ ≤ 2100 := hc 123 (by decide)
    have h2 : 1 ≤ gTc f pp ee tE tN Γ.2.2.2.1 (.inner 7 d z a b) env yc (gSs sc).length 123 := eC 123
    omega
  obtain ⟨τ1, a1, a2, a3, a4⟩ := r_so1 (h0 := h0) (qs := qs) (ks := ks) (T := T) (n := n + 3) (x := (sc, d.1, 2, .leaf, d.2.2.2.1.2, env, 0)) (kd := 2) (x2 := nI x) (e := x2) (g := x3) al.q ⟨x, d.2.2.2.1.1, rfl, ts⟩ hs (by have := ev.1; omega) hq c123
  have al1 : uAl CD pp V S P Γ tN env (uUp v 123) τ1 (gNe (sc, d.1, 2, .leaf, d.2.2.2.1.2, env, 0) s) := uNq.al a2
  have a1 : zF h0 qs ks T (n + 4) 79 [.ref h0, .int 2, .int (nI x), .int (-1), .int x2, .int x3, .int (pp d.1)] τ = _ := a1
  have g1 := uGe.at1 v 123
  obtain ⟨c75, c79, c85⟩ := cap1 (cap.pre hc g1 eC) (fun k => Nat.le_refl _)
  obtain ⟨τ2, r1, τ3, τ4, c, b1, b2, b3, b4, b5, b6, b7, b8⟩ := r_su1 (h0 := h0) (qs := qs) (ks := ks) (n := n) (x := x) (k := 3) (t := d.2.2.2.1) (l := .leaf) (r := .leaf) (H.lh ev) al1.2.1 H.2.1.1 ⟨hp, gd, wo.1, H.2.2.2.2.2 _ gd hk⟩ ts (Or.inr (Or.inl rfl)) al1.1 c75 c79 c85
  have e10' : τ1.2.2.1 10 m = nI x := (al1.2.1.r (k := 10) (by decide) m).trans t10
  rw [show n + 5 = (n + 4) + 1 from rfl, zE_richOf]
  unfold b_richOf
  rw [zgd_at (zin_n hm (by decide)), nI_clamp (by omega), e6]
  iterate 6 rw [if_neg (by decide)]
  rw [if_pos (by decide), zgd_at (zin_n hm (by decide)), zgd_at (zin_n hm (by decide)), e10, e7, a1, zcv_at, zgd_at (zin_n hm (by decide)), e10', b1, zci_at, b2, zci_at]
  have b3 : zF h0 qs ks T (n + 4) 67 [.ref h0, .int 3, .int (nI (uUp v 123 79)), .int (-1), .int (-1), .int (-1)] τ3 = _ := b3
  rw [b3, zci_at, show y = yB 2 from ok.1]
  refine uRz.pre (c1 := cAt 123 1) (c2 := cE1) ?_ g1 ⟨uUp_ne v (by decide), uUp_ne v (by decide)⟩ a3 a4.2 eC
  exact uRz.one rfl al1 (Nat.le_refl 1) (Nat.le_refl 1) b4 (fun k => Nat.le_refl _) rfl rfl b5 b6 b7 b8
end URO
