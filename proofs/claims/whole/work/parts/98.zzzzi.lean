/-! the reference: join -/
section RJP
variable {ks : Nat → Nat} {qs : List Nat} {T n h0 M : Nat}
set_option maxHeartbeats 1000000 in
theorem r_join (hT : 9010 ≤ T) : ∀ (F : Nat) (g : gG) (k a b x0 x1 kd : Nat) (τ : zSt), rG τ g k → gK g → gC g → (∃ ρ, gS g ρ) → a < g.n → b < g.n → x0 < g.n → x1 < g.n → (∀ ρ, gS g ρ → kd + yH (ρ a) ≤ yH (ρ x0) ∧ kd + yH (ρ b) ≤ yH (ρ x1)) → xN g.n (fun y => decide (g.K y = 1)) ≤ M → M + 1 ≤ F + kd → k + xN g.n (gRoot g) + 1 < 2 ^ 30 → ∃ (r : Bool) (τ' : zSt), zF h0 qs ks T (F + 3) 44 [.ref h0, .int (nI a), .int (nI b)] τ = some (some (.int (b01 r)), τ') ∧ rJ τ τ' g a b k r := by
  intro F
  induction F with
  | zero =>
    intro g k a b x0 x1 kd τ h hK hC hs ha hb hx0 hx1 hd hM hF hkk
    obtain ⟨ρ0, hs0⟩ := hs
    obtain ⟨ρ1, h1, h2⟩ := gCan hK hC hs0
    have := (hd ρ1 h1).1
    have := h2 x0 hx0
    have := (hd ρ1 h1).2
    have := h2 x1 hx1
    have h9 := h.1.2
    have hya : yH (ρ1 a) = 0 := by omega
    have hyb : yH (ρ1 b) = 0 := by omega
    have hun := gR_lt hK.1 ha
    have hvn := gR_lt hK.1 hb
    have nk : ∀ x, x < g.n → yH (ρ1 x) = 0 → g.K (gR g x) = 0 := fun x hx hy => by
      by_cases c : g.K (gR g x) = 0
      · exact c
      · have hr := gR_lt hK.1 hx
        have e := gR_eq hK.1 hx h1
        by_cases c1 : g.K (gR g x) = 1
        · have := (gCh hK h1 hx c1).2.1; omega
        · have := (h1 _ hr).2.2 (g.K (gR g x) - 2) (by omega)
          rw [e] at this
          rw [this] at hy
          cases hy
    rw [zE_join]
    unfold b_join
    simp only [r_real (n := 1) hT h hK.1 ha, r_real (n := 1) hT h hK.1 hb, zci]
    by_cases c : gR g a = gR g b
    · rw [if_pos (by rw [c])]
      exact ⟨true, τ, rfl, jFj.rf τ, fun _ => ⟨g, k, h, ⟨⟨rfl, rfl, rfl, rfl⟩, hK, hC, fun _ _ _ _ e => e, c, fun ρ => ⟨fun z => ⟨z, by rw [← gR_eq hK.1 ha z, ← gR_eq hK.1 hb z, c]⟩, fun z => z.1⟩⟩, ⟨ρ0, hs0⟩, Nat.le_refl _⟩, fun z => by cases z⟩
    · rw [if_neg (fun z => c (nI_inj' (by omega) (by omega) z))]
      obtain ⟨⟨k5, e34⟩, -⟩ := h.2.2 _ hun
      simp only [zgd, zin_n (show gR g a < 9000 by omega) (by decide), if_true, nI_clamp (show gR g a < 2 ^ 31 by omega), e34]
      rw [nk a ha hya, if_pos (show rKd 0 = 0 from rfl)]
      unfold j_join_40
      simp only [zgd, zin_n (show gR g a < 9000 by omega) (by decide), if_true, nI_clamp (show gR g a < 2 ^ 31 by omega), e34]
      rw [nk a ha hya, if_pos (show rKd 0 = 0 from rfl)]
      unfold j_join_55
      rw [if_pos rfl]
      exact r_bind (F := 0) hT h hK hC h1 ha hb rfl rfl c (nk a ha hya) (by omega) (by omega)
  | succ F IH =>
    intro g k a b x0 x1 kd τ h hK hC hs ha hb hx0 hx1 hd hM hF hkk
    obtain ⟨ρ0, hs0⟩ := hs
    obtain ⟨ρ1, h1, h2⟩ := gCan hK hC hs0
    have y1 := (hd ρ1 h1).1
    have y2 := h2 x0 hx0
    have y3 := (hd ρ1 h1).2
    have y4 := h2 x1 hx1
    have h9 := h.1.2
    have hya : yH (ρ1 a) ≤ F + 1 := by omega
    have hyb : yH (ρ1 b) ≤ F + 1 := by omega
    have hun := gR_lt hK.1 ha
    have hvn := gR_lt hK.1 hb
    rw [zE_join]
    unfold b_join
    simp only [r_real (n := F + 2) hT h hK.1 ha, r_real (n := F + 2) hT h hK.1 hb, zci]
    by_cases c : gR g a = gR g b
    · rw [if_pos (by rw [c])]
      exact ⟨true, τ, rfl, jFj.rf τ, fun _ => ⟨g, k, h, ⟨⟨rfl, rfl, rfl, rfl⟩, hK, hC, fun _ _ _ _ e => e, c, fun ρ => ⟨fun z => ⟨z, by rw [← gR_eq hK.1 ha z, ← gR_eq hK.1 hb z, c]⟩, fun z => z.1⟩⟩, ⟨ρ0, hs0⟩, Nat.le_refl _⟩, fun z => by cases z⟩
    · rw [if_neg (fun z => c (nI_inj' (by omega) (by omega) z))]
      obtain ⟨⟨k5, e34⟩, e35a, -⟩ := h.2.2 _ hun
      obtain ⟨⟨k5', e34'⟩, e35b, -⟩ := h.2.2 _ hvn
      simp only [zgd, zin_n (show gR g a < 9000 by omega) (by decide), zin_n (show gR g b < 9000 by omega) (by decide), if_true, nI_clamp (show gR g a < 2 ^ 31 by omega), nI_clamp (show gR g b < 2 ^ 31 by omega), e34, e34']
      by_cases ca : g.K (gR g a) = 0
      · rw [if_pos (by rw [ca]; rfl)]
        unfold j_join_40
        simp only [zgd, zin_n (show gR g a < 9000 by omega) (by decide), if_true, nI_clamp (show gR g a < 2 ^ 31 by omega), e34]
        rw [if_pos (by rw [ca]; rfl)]
        unfold j_join_55
        rw [if_pos rfl]
        exact r_bind (F := F + 1) hT h hK hC h1 ha hb rfl rfl c ca hyb (by omega)
      · have na : ¬ rKd (g.K (gR g a)) = 0 := fun z => ca (rKd_inj (k := 0) k5 (by omega) z)
        rw [if_neg na]
        by_cases cb : g.K (gR g b) = 0
        · rw [if_pos (by rw [cb]; rfl)]
          unfold j_join_40
          simp only [zgd, zin_n (show gR g a < 9000 by omega) (by decide), if_true, nI_clamp (show gR g a < 2 ^ 31 by omega), e34]
          rw [if_neg na]
          unfold j_join_55
          rw [if_neg (fun z => c (nI_inj' (by omega) (by omega) z.symm))]
          obtain ⟨r, τ', i1, i2, i3, i4⟩ := r_bind (h0 := h0) (qs := qs) (ks := ks) (F := F + 1) hT h hK hC h1 hb ha rfl rfl (fun z => c z.symm) cb hya (by omega)
          refine ⟨r, τ', i1, i2, fun z => ?_, fun z => ?_⟩
          · obtain ⟨g', k', q1, q2, q3⟩ := i3 z
            exact ⟨g', k', q1, q2.sy, q3⟩
          · obtain ⟨q1, q2⟩ := i4 z
            exact ⟨fun ρ hρ e => q1 ρ hρ e.symm, q2⟩
        · have nb : ¬ rKd (g.K (gR g b)) = 0 := fun z => cb (rKd_inj (k := 0) k5' (by omega) z)
          rw [if_neg nb]
          by_cases ck : g.K (gR g a) = g.K (gR g b)
          · rw [if_pos (by rw [ck])]
            by_cases c1 : g.K (gR g a) = 1
            · rw [if_pos (by rw [c1]; rfl)]
              obtain ⟨e35, e36⟩ := e35a c1
              obtain ⟨e35', e36'⟩ := e35b (ck ▸ c1)
              have c1b : g.K (gR g b) = 1 := ck ▸ c1
              obtain ⟨⟨l1, l2⟩, -⟩ := gCh hK h1 ha c1
              obtain ⟨⟨m1, m2⟩, -⟩ := gCh hK h1 hb c1b
              rw [e35, e35']
              obtain ⟨r, τ1, i1, i2, i3, i4⟩ := IH g k (g.L (gR g a)) (g.L (gR g b)) x0 x1 (kd + 1) τ h hK hC ⟨ρ0, hs0⟩ l1 m1 hx0 hx1 (fun ρ hρ => by
                have := hd ρ hρ
                have := (gCh hK hρ ha c1).2.1
                have := (gCh hK hρ hb c1b).2.1
                omega) hM (by omega) hkk
              rw [i1]
              simp only [zci]
              cases r with
              | false =>
                rw [if_pos (show b01 false = 0 from rfl)]
                obtain ⟨q1, q2⟩ := i4 rfl
                refine ⟨false, τ1, rfl, i2, fun z => (by cases z), fun _ => ⟨fun ρ hρ e => q1 ρ hρ ?_, q2⟩⟩
                have ea := (hρ _ hun).2.1 c1
                have eb := (hρ _ hvn).2.1 c1b
                rw [gR_eq hK.1 ha hρ] at ea
                rw [gR_eq hK.1 hb hρ] at eb
                exact (yA_inj (ea.symm.trans (e.trans eb))).1
              | true =>
                rw [if_neg (show ¬ b01 true = 0 by decide)]
                obtain ⟨g1, k1, p1, ⟨⟨p2, p3, p4, p5⟩, p6, p7, p8, p9, p10⟩, p11, p12⟩ := i3 rfl
                have r36 : τ1.2.2.1 36 (gR g a) = nI (g.R (gR g a)) := (congrFun (i2.2.2.1 36 (by decide) (by decide)) _).trans e36
                have r36' : τ1.2.2.1 36 (gR g b) = nI (g.R (gR g b)) := (congrFun (i2.2.2.1 36 (by decide) (by decide)) _).trans e36'
                rw [r36, r36']
                obtain ⟨r, τ2, j1, j2, j3, j4⟩ := IH g1 k1 (g.R (gR g a)) (g.R (gR g b)) x0 x1 (kd + 1) τ1 p1 p6 p7 p11 (by rw [p2]; exact l2) (by rw [p2]; exact m2) (by rw [p2]; exact hx0) (by rw [p2]; exact hx1) (fun ρ hρ => by
                  have hρ' := ((p10 ρ).mp hρ).1
                  have := hd ρ hρ'
                  have := (gCh hK hρ' ha c1).2.2
                  have := (gCh hK hρ' hb c1b).2.2
                  omega) (by rw [p2, p3]; exact hM) (by omega) (by rw [p2]; omega)
                rw [j1]
                simp only [zci]
                cases r with
                | false =>
                  rw [if_pos (show b01 false = 0 from rfl)]
                  obtain ⟨q1, k2, q2, q3⟩ := j4 rfl
                  rw [p2] at q3
                  refine ⟨false, τ2, rfl, i2.tr j2, fun z => (by cases z), fun _ => ⟨fun ρ hρ e => ?_, k2, q2, by omega⟩⟩
                  have ea := (hρ _ hun).2.1 c1
                  have eb := (hρ _ hvn).2.1 c1b
                  rw [gR_eq hK.1 ha hρ] at ea
                  rw [gR_eq hK.1 hb hρ] at eb
                  have ee := yA_inj (ea.symm.trans (e.trans eb))
                  exact q1 ρ ((p10 ρ).mpr ⟨hρ, ee.1⟩) ee.2
                | true =>
                  rw [if_neg (show ¬ b01 true = 0 by decide)]
                  obtain ⟨g2, k2, s1, ⟨⟨s2, s3, s4, s5⟩, s6, s7, s8, s9, s10⟩, s11, s12⟩ := j3 rfl
                  have n2 : g2.n = g.n := s2.trans p2
                  have k2e : g2.K = g.K := s3.trans p3
                  have l2e : g2.L = g.L := s4.trans p4
                  have r2e : g2.R = g.R := s5.trans p5
                  have mono : ∀ x y, x < g.n → y < g.n → gR g x = gR g y → gR g2 x = gR g2 y := fun x y hx hy e => s8 x y (by rw [p2]; exact hx) (by rw [p2]; exact hy) (p8 x y hx hy e)
                  have hun2 : gR g a < g2.n := by rw [n2]; exact hun
                  have hvn2 : gR g b < g2.n := by rw [n2]; exact hvn
                  have ka : g2.K (gR g2 (gR g a)) = 1 := by
                    rcases gR_kind s6 hun2 with e | e
                    · rw [k2e, c1] at e; cases e
                    · rw [e, k2e]; exact c1
                  have kb : g2.K (gR g2 (gR g b)) = 1 := by
                    rcases gR_kind s6 hvn2 with e | e
                    · rw [k2e, c1b] at e; cases e
                    · rw [e, k2e]; exact c1b
                  have Ca := s7 _ hun2 (by rw [k2e]; exact c1)
                  have Cb := s7 _ hvn2 (by rw [k2e]; exact c1b)
                  have el : gR g2 (g.L (gR g a)) = gR g2 (g.L (gR g b)) := s8 _ _ (by rw [p2]; exact l1) (by rw [p2]; exact m1) p9
                  have er : gR g2 (g.R (gR g a)) = gR g2 (g.R (gR g b)) := s9
                  have sol : ∀ ρ, gS g2 ρ → gS g ρ ∧ ρ a = ρ b := fun ρ hρ => by
                    obtain ⟨w1, w2⟩ := (s10 ρ).mp hρ
                    obtain ⟨w3, w4⟩ := (p10 ρ).mp w1
                    refine ⟨w3, ?_⟩
                    have ea := (w3 _ hun).2.1 c1
                    have eb := (w3 _ hvn).2.1 c1b
                    rw [gR_eq hK.1 ha w3] at ea
                    rw [gR_eq hK.1 hb w3] at eb
                    rw [ea, eb, w2, w4]
                  have sol' : ∀ ρ, gS g ρ → ρ a = ρ b → gS g2 ρ := fun ρ w3 w4 => by
                    have ea := (w3 _ hun).2.1 c1
                    have eb := (w3 _ hvn).2.1 c1b
                    rw [gR_eq hK.1 ha w3] at ea
                    rw [gR_eq hK.1 hb w3] at eb
                    have ee := yA_inj (ea.symm.trans (w4.trans eb))
                    exact (s10 ρ).mpr ⟨(p10 ρ).mpr ⟨w3, ee.1⟩, ee.2⟩
                  obtain ⟨τ3, g3, t1, t2, t3, ⟨⟨t4, t5, t6, t7⟩, t8, t9, t10, t11, t12⟩, t13, t14⟩ := r_186 (h0 := h0) (qs := qs) (ks := ks) (F := F + 2) (a := gR g a) (b := gR g b) hT s1 s6 s7 hun2 hvn2 s11 ⟨by rw [ka]; decide, by rw [ka, kb]⟩ (fun _ => by rw [← Ca.1, ← Ca.2, ← Cb.1, ← Cb.2, l2e, r2e]; exact ⟨el, er⟩) (fun ρ hρ => by
                    obtain ⟨w3, w4⟩ := sol ρ hρ
                    rw [gR_eq hK.1 ha w3, gR_eq hK.1 hb w3]; exact w4)
                  have ga : gR g3 a = gR g3 (gR g a) := t10 _ _ (by rw [n2]; exact ha) hun2 (mono _ _ ha hun (by rw [gR_fix (gR_root hK.1 ha)]))
                  have gb : gR g3 b = gR g3 (gR g b) := t10 _ _ (by rw [n2]; exact hb) hvn2 (mono _ _ hb hvn (by rw [gR_fix (gR_root hK.1 hb)]))
                  rw [n2] at t14
                  rw [p2] at s12
                  refine ⟨true, τ3, t1, (i2.tr j2).tr t2, fun _ => ⟨g3, k2, t3, ⟨⟨t4.trans n2, t5.trans k2e, t6.trans l2e, t7.trans r2e⟩, t8, t9, fun x y hx hy e => t10 x y (by rw [n2]; exact hx) (by rw [n2]; exact hy) (mono x y hx hy e), by rw [ga, gb]; exact t11, fun ρ => ?_⟩, t13, by omega⟩, fun z => by cases z⟩
                  rw [t12]
                  refine ⟨fun z => sol ρ z.1, fun z => ⟨sol' ρ z.1 z.2, ?_⟩⟩
                  rw [gR_eq hK.1 ha z.1, gR_eq hK.1 hb z.1]; exact z.2
            · rw [if_neg (show ¬ rKd (g.K (gR g a)) = 4 from fun z => c1 (rKd_inj (k := 1) k5 (by omega) z))]
              have fa : gR g (gR g a) = gR g a := gR_fix (gR_root hK.1 ha)
              have fb : gR g (gR g b) = gR g b := gR_fix (gR_root hK.1 hb)
              have eq : ∀ ρ, gS g ρ → ρ (gR g a) = ρ (gR g b) := fun ρ hρ => by
                rw [(hρ _ hun).2.2 (g.K (gR g a) - 2) (by omega), (hρ _ hvn).2.2 (g.K (gR g a) - 2) (by omega)]
              obtain ⟨τ3, g3, t1, t2, t3, ⟨t4, t8, t9, t10, t11, t12⟩, t13, t14⟩ := r_186 (h0 := h0) (qs := qs) (ks := ks) (F := F + 2) (a := gR g a) (b := gR g b) hT h hK hC hun hvn ⟨ρ0, hs0⟩ (by rw [fa, fb]; exact ⟨ca, ck.symm⟩) (fun z => by rw [fa] at z; exact absurd z c1) eq
              refine ⟨true, τ3, t1, t2, fun _ => ⟨g3, k, t3, ⟨t4, t8, t9, t10, by rw [t10 a (gR g a) ha hun (by rw [fa]), t10 b (gR g b) hb hvn (by rw [fb])]; exact t11, fun ρ => ?_⟩, t13, by omega⟩, fun z => by cases z⟩
              rw [t12]
              refine ⟨fun z => ⟨z.1, by rw [← gR_eq hK.1 ha z.1, ← gR_eq hK.1 hb z.1]; exact z.2⟩, fun z => ⟨z.1, eq ρ z.1⟩⟩
          · rw [if_neg (fun z => ck (rKd_inj k5 k5' z))]
            refine ⟨false, τ, rfl, jFj.rf τ, fun z => (by cases z), fun _ => ⟨fun ρ hρ e => ?_, k, h.2.1.1, by omega⟩⟩
            rw [← gR_eq hK.1 ha hρ, ← gR_eq hK.1 hb hρ] at e
            by_cases c1 : g.K (gR g a) = 1
            · have eb := (hρ _ hvn).2.2 (g.K (gR g b) - 2) (by omega)
              rw [(hρ _ hun).2.1 c1, eb] at e
              exact yA_ne e
            · have ea := (hρ _ hun).2.2 (g.K (gR g a) - 2) (by omega)
              by_cases c2 : g.K (gR g b) = 1
              · rw [(hρ _ hvn).2.1 c2, ea] at e
                exact yA_ne e.symm
              · have eb := (hρ _ hvn).2.2 (g.K (gR g b) - 2) (by omega)
                rw [ea, eb] at e
                have := yB_inj e
                omega
end RJP
