/-! type(): a told NAME of a PROGRAM, as the reference prints it -/
/-- the letters of a NAME -/
def tyW (pp ee f : Nat → Int32) (w : Nat) : List Int32 := tTx f (wL pp ee w) (wA pp w)
/-- how a NAME is printed -/
def tyKd (Γ : uGm) (a : gN) : Nat := tBk (cKd (yK (Γ.2.2.2.2.1 a)))
theorem tTx_bt {f g : Nat → Int32} : ∀ m i, (∀ j, i ≤ j → j < i + m → tBt (f j) = tBt (g j)) → (tTx f m i).map tBt = (tTx g m i).map tBt
  | 0, _, _ => rfl
  | m + 1, i, h => by
    show tBt (f i) :: (tTx f m (i + 1)).map tBt = tBt (g i) :: (tTx g m (i + 1)).map tBt
    rw [h i (Nat.le_refl _) (by omega), tTx_bt m (i + 1) (fun j h1 h2 => h j (by omega) (by omega))]
theorem bk_is {Γ : uGm} {v : zSt} {a : gN} (h : uIs Γ v a) (hk : yK (Γ.2.2.2.2.1 a) ≤ 5) : tyKd Γ a = if v.2.2.1 66 (Γ.1 a) = 0 then 0 else if v.2.2.1 67 (Γ.1 a) = 0 then 1 else 2 := by
  obtain ⟨h1, h2⟩ := h
  rw [h1, h2]
  unfold tyKd gLn
  generalize yK (Γ.2.2.2.2.1 a) = k at hk ⊢
  have : k = 0 ∨ k = 1 ∨ k = 2 ∨ k = 3 ∨ k = 4 ∨ k = 5 := by omega
  rcases this with rfl | rfl | rfl | rfl | rfl | rfl <;> rfl
theorem yW_pt : ∀ (y : tY) (n : Nat) (p : List Bool), pUn y n p → yW y → yW (yL (pTy y p))
  | .leaf, _, _, h, _ => h.elim
  | .inner k _ _ a b, n, [], h, w => by
    have h : k = 0 ∧ n = 0 := h
    unfold yW at w
    rw [if_pos h.1] at w
    exact w.1
  | .inner k _ _ a b, n, false :: p, h, w => by
    have h : k = 0 ∧ pUn a 0 p := h
    unfold yW at w
    rw [if_pos h.1] at w
    exact yW_pt a 0 p h.2 w.1
  | .inner k _ _ a b, n, true :: p, h, w => by
    have h : k = 0 ∧ pUn b (n - 1) p := h
    unfold yW at w
    rw [if_pos h.1] at w
    exact yW_pt b (n - 1) p h.2 w.2
theorem yW_5 : ∀ {y : tY}, yW y → yK y ≤ 5
  | .leaf, h => h.elim
  | .inner k _ _ a b, h => by
    unfold yW at h
    show k + 1 ≤ 5
    split at h <;> omega
theorem un_len {Γ : uGm} {Nm : gN → Prop} (h : ∀ a, Nm a → uNm Γ a) (D : List gN) (hn : D.Nodup) (hD : ∀ b, b ∈ D → Nm b) : D.length ≤ 1500 := by
  have := nodup_lt 1500 (D.map Γ.1) ?_ ?_
  · rwa [List.length_map] at this
  · refine List.pairwise_map.mpr (List.Pairwise.imp_of_mem ?_ hn)
    intro a b ha hb ne e
    refine ne ?_
    have q1 := (h a (hD a ha)).2
    have q2 := (h b (hD b hb)).2
    rw [e, q2] at q1
    exact q1.symm
  · intro q hq
    obtain ⟨a, ha, e⟩ := List.mem_map.mp hq
    rw [← e]
    exact (h a (hD a ha)).1
section TYR
variable {κ : oKv} {T len cnt j N S P A x0 u : Nat} {kk pp ee f fc : Nat → Int32} {xs : List tQ} {is : List (Nat × Nat)} {e : tT} {α : Nat → tY} {g' : gG} {ρ' : Nat → tY} {τ v : zSt} {q0 : Nat → gTy} {A0 : gTy} {inv : Nat → gN} {Γ : uGm} {q : Nat → gTy} {G : Nat}
/-- what the reference says of a told NAME -/
def tyR (Γ : uGm) (pp ee f : Nat → Int32) (Lp : Nat → Prop) (tN : Nat → tY) (q : Nat → gTy) (v : zSt) (i u : Nat) : Prop := ∃ vv t, (∀ k, vv k ≤ uLm k) ∧ v.2.2.1 74 i = nI t ∧ uTy Γ vv v (tN u) t (q u) ∧ uQr Γ v ∧ vTy Γ (nmA Lp (q u)) (tN u) (q u) ∧ rNmo Γ.1 (nmA Lp (q u)) (tyW pp ee f) v ∧ rBk Γ.1 (nmA Lp (q u)) (tyKd Γ) v ∧ (∀ p, p ∈ (q u).2 → uNm Γ p.1 ∧ gTw Γ p.2) ∧ ∀ a, nmA Lp (q u) a → uNm Γ a
theorem pGm_nd {a b : gN} (ha : uNm Γ a) (hb : uNm Γ b) (e : Γ.1 a = Γ.1 b) : a = b := by
  have q1 := ha.2
  rw [e, hb.2] at q1
  exact q1.symm
set_option maxHeartbeats 1000000 in
theorem ty_r (hT : 2010 ≤ T) (hp : pgT T len cnt j kk pp ee f fc xs is e α) (hR : pgR T len cnt kk pp ee f xs is e α N S P A x0 g' ρ' τ) (hi : pGi T f pp ee xs is e α (τ.2.2.1 32) inv) (mx : gMx f pp ee (pTE f pp ee is e α) (pTN f pp ee is e α) 59 e (is.map Prod.fst)) (hq0 : ∀ u, q0 u = gNtd) (hA0 : nbL A0) (hΓ : pGm T f pp ee xs is e α (τ.2.2.1 32) inv = Γ) (hq : (pWk T f pp ee is e α q0 A0).1.1 = q) (hd : dTd Γ (pTN f pp ee is e α) (g100 (pTE f pp ee is e α) (pTN f pp ee is e α) e) v q) (ac : ∀ k, k < 40 → v.2.2.1 k = τ.2.2.1 k) (yw : ∀ u, u ∈ is.map Prod.fst ++ tW e → yW (pTN f pp ee is e α u)) (hu : u ∈ is.map Prod.fst ++ tW e) : tyR Γ pp ee f (fun v => v ∈ is.map Prod.fst ++ tW e) (pTN f pp ee is e α) q v (nuO (τ.2.2.1 32) u) u := by
  have gd := tx_gd (q0 := q0) (A0 := A0) hT hp hR hi mx
  have hN := tx_rn hT hp hR.2.1
  have hpr := tx_pr hp hR
  have hnl := tx_nl hR
  obtain ⟨u1, u2, u3, u4, u5⟩ := hi
  rw [hΓ] at gd u1 u2 u3 u4 u5
  rw [hq] at gd
  obtain ⟨vv, ⟨d1, d2⟩, d3, d4, d5⟩ := hd
  have ntd : ∀ w, w ∈ is.map Prod.fst ++ tW e → q w ≠ gNtd := fun w hw => (gd w hw).ne (hnl w hw)
  obtain ⟨t, t1, t2⟩ := d4 u (Or.inr ⟨u1 u hu, ntd u hu⟩)
  obtain ⟨gs, S0, hS, hw⟩ := gd u hu
  have eNu : ∀ w, Γ.1 (.inl w) = nuO (τ.2.2.1 32) w := fun w => by rw [← hΓ]; rfl
  rw [eNu] at t1
  have hL : ∀ a, nmA (fun v => v ∈ is.map Prod.fst ++ tW e) (q u) a → uNm Γ a := by
    rintro a (⟨w, w1, w2⟩ | ⟨m, p, m1, m2, m3⟩)
    · rw [w2]; exact u1 w w1
    · have hy : m.2.2.1 = pTN f pp ee is e α u := by
        rw [← gs]; unfold gSy; rw [m1]
      rw [m3]
      have e0 : q u = (.inr m, (q u).2) := by rw [← m1]
      rw [e0] at t2
      exact (uTy.nm _ m t p t2 (by rw [← hy]; exact m2)).1
  have hK : ∀ a, nmA (fun v => v ∈ is.map Prod.fst ++ tW e) (q u) a → yK (Γ.2.2.2.2.1 a) ≤ 5 := by
    rintro a (⟨w, w1, w2⟩ | ⟨m, p, m1, m2, m3⟩)
    · rw [w2, ← hΓ]; exact yW_5 (yw w w1)
    · have hy : m.2.2.1 = pTN f pp ee is e α u := by
        rw [← gs]; unfold gSy; rw [m1]
      rw [m3]
      have e0 : q u = (.inr m, (q u).2) := by rw [← m1]
      rw [e0] at t2
      rw [(uTy.nm _ m t p t2 (by rw [← hy]; exact m2)).2]
      exact yW_5 (yW_pt _ _ p (by rw [← hy]; exact m2) (yw u hu))
  have hV : ∀ kp, nmA (fun v => v ∈ is.map Prod.fst ++ tW e) (q u) (.inr kp) → 700 ≤ Γ.1 (.inr kp) ∧ Γ.1 (.inr kp) < 700 + vv 100 := by
    rintro kp (⟨w, -, w2⟩ | ⟨m, p, m1, m2, m3⟩)
    · cases w2
    · injection m3 with m3
      rw [m3]
      unfold wfT at hw
      rw [m1] at hw
      have va := nm_va (L := is.map Prod.fst ++ tW e) (fun x hx => (hpr x hx).1) hw.1.1 m2
      rw [d2, ← hΓ]
      exact nm_nu va
  have hd100 : vv 100 ≤ 800 := d1 100
  obtain ⟨-, -, -, -, -, ⟨⟨⟨-, g1'⟩, g2, -⟩, p6', -⟩, -⟩ := id hp
  obtain ⟨-, ⟨⟨r1, r2, r3, -, r5, -, r7, r8⟩, -, -, -, -, -, ⟨-, -, r4⟩⟩, -⟩ := id hR
  have lt : ∀ w, w ∈ is.map Prod.fst ++ tW e → w < cnt := fun w hw => by
    rcases List.mem_append.mp hw with z | z
    · obtain ⟨y, y1, y2⟩ := List.mem_map.mp z
      rw [← y2]; exact (g1' y y1).1
    · exact tWf_tW e _ g2 w z
  have pm := wW_pm e 0 g2 p6'
  refine ⟨vv, t, d1, t1, t2, d3, ?_, ?_, ?_, ?_, hL⟩
  · refine vTy_w u2 u5 _ _ S0 gs (yw u hu) hw (fun s hs => ?_) ?_ ?_
    · obtain ⟨w, w1, -, w3⟩ := hS s hs
      exact Or.inl ⟨w, w1, w3⟩
    · rw [← hq]
      exact (gWk_nb e _ _ A0 _ hA0 (gIs_nb is [] _ (fun u => by show nbL (q0 u); rw [hq0]; exact fun x hx w => by injection hx with hx; rw [← hx]))).2 u
    · intro m em
      have hy : m.2.2.1 = pTN f pp ee is e α u := by
        rw [← gs]; unfold gSy; rw [em]
      refine tAq_un _ m hy (fun p hp => Or.inr ⟨m, p, em, by rw [hy]; exact hp, rfl⟩) (fun w hw' => Or.inl ⟨w, ?_, rfl⟩)
      unfold wfT at hw
      rw [em] at hw
      rw [hw.1.1] at hw'
      have := rtO_ns (Lp := fun w => w ∈ wW e) _ _ (fun m hm => tLe_ns e _ m hm) w (mGo_nx _ _ w hw')
      exact List.mem_append_right _ (pm.mem_iff.mp this)
  · refine ⟨fun a b ha hb => pGm_nd (hL a ha) (hL b hb), fun kp hk => ⟨(hV kp hk).1, by have := (hV kp hk).2; omega⟩, ?_⟩
    rintro w (⟨w', w1, w2⟩ | ⟨m, p, -, -, m3⟩)
    · injection w2 with w2
      subst w2
      obtain ⟨n1, n2, n3⟩ := hN.at w1
      have hc := lt w w1
      obtain ⟨a, a1, a2, a3, a4, a5, -⟩ := r5 w hc
      obtain ⟨-, b1, b2⟩ := r3 w hc
      rw [eNu, ac 30 (by decide), ac 4 (by decide), ac 5 (by decide), ac 1 (by decide)]
      refine ⟨w, a, wEnd len (fun j => f j &&& 255) a, n3, r4 _ w n2, by omega, by rw [b1, a4], by rw [b2, a5], by omega, by omega, ?_⟩
      rw [r1]
      unfold tyW wL wA
      rw [a4, a5, nI_clamp (show a < 2 ^ 31 by omega), nI_clamp (show wEnd len (fun j => f j &&& 255) a < 2 ^ 31 by omega)]
    · cases m3
  · intro a ha
    have hn := hL a ha
    refine ⟨by have := hn.1; omega, bk_is (d5 a hn ?_) (hK a ha)⟩
    match a, ha with
    | .inr kp, ha => exact Or.inr (hV kp ha)
    | .inl w, Or.inl ⟨w', w1, w2⟩ => exact Or.inl ⟨w, rfl, by injection w2 with w2; rw [w2]; exact ntd w' w1⟩
  · intro p hp
    unfold wfT at hw
    cases e1 : (q u).1 with
    | inl x => rw [e1] at hw; rw [hw.1.1] at hp; cases hp
    | inr m =>
      rw [e1] at hw
      have h1 := hw.2.1.2 p hp
      exact ⟨hw.1.2.2.2.2 _ h1.1, h1.2.1⟩
end TYR
