/-! **gWk: all that it makes speaks of what is in scope** -/
section GWX
variable {T : Nat} {f pp ee : Nat → Int32} {tE tN : Nat → tY} {Γ : uGm} {C B : Int} {rt : Nat → gTm} {M : Nat} {CB : List Nat → List (gCd × Bool) → Prop} {NB : List Nat → List (gCd × Bool) → (Nat × Nat × tT × List tP × List Nat × Nat) → Prop}
theorem nm_sub (x : gN) (A : gTy) (sc : List gEn) : ∀ s, s ∈ nmS sc → s ∈ nmS (gNm x A sc) := fun s hs => by
  rw [nmS_nm]
  split
  · exact List.mem_cons_of_mem _ hs
  · exact hs
set_option maxHeartbeats 2000000 in
theorem gWk_w (hQ : rtQ Γ rt) (hC : 0 ≤ C) (hB : 4 ≤ B) : ∀ (t : tT) (env : List Nat) (sc : List gEn) (A : gTy) (s : gSt) (y : tY), gHq T f pp ee tE tN Γ C B rt M CB NB t env (scC sc) → gOk f pp ee tE tN t env y → eW Γ C B rt tN env sc s.1 → aH tN Γ C B rt M env sc A y t → outW Γ C B rt M tN CB NB env sc s (yOu y t) (gWk T f pp ee tE tN t env sc A s)
  | .leaf, env, sc, A, s, y, _, _, e, h => ⟨h, stW.rf env s⟩
  | .inner g d z a b, env, sc, A, s, y, hq, ok, e, h => by
    have Ia := fun env' sc' A' s' y' => gWk_w hQ hC hB a env' sc' A' s' y'
    have Ib := fun env' sc' A' s' y' => gWk_w hQ hC hB b env' sc' A' s' y'
    unfold gHq at hq
    unfold gOk at ok
    rw [gWk]
    obtain ⟨cb, hq⟩ := hq
    have yo : ¬ (g = 33 ∨ g = 34 ∨ g = 35) → yOu y (.inner g d z a b) = y := fun c => if_neg c
    have hB2 : 2 ≤ B := by omega
    by_cases c1 : g = 1
    · rw [if_pos c1] at hq ok ⊢
      rw [yo (by omega)]
      obtain ⟨⟨q1, ⟨q2, q3⟩, q4, q5⟩, ⟨ta, tb⟩, qa, qb⟩ := hq
      have Oa := Ia env sc A s _ qa ok.2.1 e (aH.e ta)
      rw [yOu_e ta] at Oa
      generalize gWk T f pp ee tE tN a env sc A s = r1 at Oa ⊢
      have e2 := (e.st Oa.2).tel q2 q3 Oa.1.2 Oa.1.1
      have Ob := Ib (env ++ [d.1 + 1]) (gNm (.inl (d.1 + 1)) r1.2 sc) A (gTn (d.1 + 1) r1.2 r1.1) y (by rw [scC_nm]; exact qb) ok.2.2 e2 (aH.e tb)
      rw [yOu_e tb] at Ob
      dsimp only
      generalize gWk T f pp ee tE tN b (env ++ [d.1 + 1]) (gNm (.inl (d.1 + 1)) r1.2 sc) A (gTn (d.1 + 1) r1.2 r1.1) = r2 at Ob ⊢
      have hT := e.tp q1
      refine ⟨⟨ok.1, hT⟩, ((Oa.2.tn q2).tr Ob.2 (fun u hu => List.mem_append_left _ hu)).ft (fits_w hQ hC e2 ?_ ⟨rfl, hT.mo (nm_sub _ _ _)⟩ (gTp_ns rfl) (by rw [scC_nm]; exact q5) q4)⟩
      rw [ok.1]
      exact Ob.1
    rw [if_neg c1] at hq ok ⊢
    by_cases c2 : g = 2
    · rw [if_pos c2] at hq ok ⊢
      rw [yo (by omega)]
      obtain ⟨⟨q1, q2, ⟨q3, q4⟩, q5, q6, q7, q8, q9⟩, ⟨ta, tb⟩, qa, qb⟩ := hq
      obtain ⟨o1, ⟨r, o2, o3⟩, o4⟩ := ok
      dsimp only
      have HF := e.tp q2
      have ng : gNm (.inl (d.1 + 2)) (gTp (2 * d.1 + 1) (tN (d.1 + 2)) (List.range' (d.1 + 3) d.2.1) sc) sc = sc := by
        refine if_neg (fun w => gMs_1 w ?_)
        show yK (tN (d.1 + 2)) = 1
        obtain ⟨k, hk⟩ : ∃ k, d.2.1 = k + 1 := ⟨d.2.1 - 1, by omega⟩
        rw [o2, hk]
        rfl
      have eF := e.tel q3 q4 HF rfl
      rw [ng] at eF
      have P := gPa_w hQ (r := r) d.2.1 (d.1 + 3) (gTp (2 * d.1 + 1) (tN (d.1 + 2)) (List.range' (d.1 + 3) d.2.1) sc) sc (gTn (d.1 + 2) (gTp (2 * d.1 + 1) (tN (d.1 + 2)) (List.range' (d.1 + 3) d.2.1) sc) s) (env ++ [d.1 + 2]) o2 eF HF (fun m w => by injection w with w; rw [← w]) (fun _ => ⟨_, rfl⟩) q5
      generalize gPa d.2.1 (d.1 + 3) (gTp (2 * d.1 + 1) (tN (d.1 + 2)) (List.range' (d.1 + 3) d.2.1) sc) sc (gTn (d.1 + 2) (gTp (2 * d.1 + 1) (tN (d.1 + 2)) (List.range' (d.1 + 3) d.2.1) sc) s) = p at P ⊢
      obtain ⟨p1, p2, p3, p4, p5, p6, p7⟩ := P
      rw [List.append_assoc] at p1
      have Oa := Ia (env ++ ([d.1 + 2] ++ List.range' (d.1 + 3) d.2.1)) p.1 A p.2.2 r (by rw [p5]; exact qa) o3 p1 (aH.e ta)
      rw [yOu_e ta] at Oa
      generalize gWk T f pp ee tE tN a (env ++ ([d.1 + 2] ++ List.range' (d.1 + 3) d.2.1)) p.1 A p.2.2 = r1 at Oa ⊢
      have st1 : stW Γ C B rt M tN CB NB (env ++ [d.1 + 2]) (gTn (d.1 + 2) (gTp (2 * d.1 + 1) (tN (d.1 + 2)) (List.range' (d.1 + 3) d.2.1) sc) s) p.2.2 := ⟨fun u hu => p6 u (fun w => (q5 u w).1 hu), fun x hx => Or.inl (by rw [p7] at hx; exact hx), fun x hx => Or.inl (by rw [p7] at hx; exact hx)⟩
      have st2 := st1.tr Oa.2 (fun u hu => by rw [← List.append_assoc]; exact List.mem_append_left _ hu)
      have st3 := st2.ft (l := gFi (gSy p.2.1) r1.2 p.2.1 p.1) (by rw [p3]; exact fits_w hQ hC p1 Oa.1 ⟨p3, p2⟩ p4 (by rw [p5]; exact q8) (q9 r o2))
      have eB := eW.st (s := gTn (d.1 + 2) (gTp (2 * d.1 + 1) (tN (d.1 + 2)) (List.range' (d.1 + 3) d.2.1) sc) s) eF st3
      have Ob := Ib (env ++ [d.1 + 2]) sc A _ y qb o4 eB (aH.e tb)
      rw [yOu_e tb] at Ob
      generalize gWk T f pp ee tE tN b (env ++ [d.1 + 2]) sc A (gFt (gFi (gSy p.2.1) r1.2 p.2.1 p.1) r1.1) = r2 at Ob ⊢
      have hT := e.tp q1
      refine ⟨⟨o1, hT⟩, (((stW.rf env s).tn q3).tr (st3.tr Ob.2 (fun _ hu => hu)) (fun u hu => List.mem_append_left _ hu)).ft (fits_w hQ hC e ?_ ⟨rfl, hT⟩ (gTp_ns rfl) cb q7)⟩
      rw [o1]
      exact Ob.1
    rw [if_neg c2] at hq ok ⊢
    by_cases c3 : g = 3
    · rw [if_pos c3] at hq ok ⊢
      rw [yo (by omega)]
      obtain ⟨⟨q1, q2, q3, q4⟩, ta, qa⟩ := hq
      obtain ⟨o1, r, o2, o3⟩ := ok
      dsimp only
      have HF := e.tp q1
      have nw : d.1 + 1 ∉ env := q1.2.2.2.2 _ (List.mem_singleton_self _)
      have eE : tE d.1 = yA (tN (d.1 + 1)) r := o1.trans o2
      have eR : yR (tE d.1) = r := by rw [eE]; rfl
      have kF : yK (gSy (gTp (2 * d.1) (tE d.1) [d.1 + 1] sc)) = 1 := by show yK (tE d.1) = 1; rw [eE]; rfl
      have sy := gSy_tk (A := gTp (2 * d.1) (tE d.1) [d.1 + 1] sc) rfl
      rw [show gSy (gTp (2 * d.1) (tE d.1) [d.1 + 1] sc) = yA (tN (d.1 + 1)) r from eE] at sy
      have e2 := e.tel nw q2 (HF.tk kF) sy.1
      have HA : wfT Γ C B rt (nmS (gNm (.inl (d.1 + 1)) (gTk (gTp (2 * d.1) (tE d.1) [d.1 + 1] sc)) sc)) (gAn (gTp (2 * d.1) (tE d.1) [d.1 + 1] sc)) := HF.an hQ kF (nm_sub _ _ _) (fun w => by
        rw [show gSy (gTp (2 * d.1) (tE d.1) [d.1 + 1] sc) = yA (tN (d.1 + 1)) r from eE] at w
        have w : gMs (tN (d.1 + 1)) = true := w
        rw [nmS_nm, sy.1, show yL (yA (tN (d.1 + 1)) r) = tN (d.1 + 1) from rfl, if_pos w]
        exact List.mem_cons_self ..)
      have Oa := Ia (env ++ [d.1 + 1]) (gNm (.inl (d.1 + 1)) (gTk (gTp (2 * d.1) (tE d.1) [d.1 + 1] sc)) sc) A (gTn (d.1 + 1) (gTk (gTp (2 * d.1) (tE d.1) [d.1 + 1] sc)) s) r (by rw [scC_nm]; exact qa) o3 e2 (aH.e ta)
      rw [yOu_e ta] at Oa
      generalize gWk T f pp ee tE tN a (env ++ [d.1 + 1]) (gNm (.inl (d.1 + 1)) (gTk (gTp (2 * d.1) (tE d.1) [d.1 + 1] sc)) sc) A (gTn (d.1 + 1) (gTk (gTp (2 * d.1) (tE d.1) [d.1 + 1] sc)) s) = r1 at Oa ⊢
      refine ⟨⟨o1, HF⟩, (((stW.rf env s).tn nw).tr Oa.2 (fun u hu => List.mem_append_left _ hu)).ft (fits_w hQ hC e2 ?_ ⟨?_, HA⟩ (fun m w => ?_) (by rw [scC_nm]; exact q4) q3)⟩
      · exact ⟨Oa.1.1.trans eR.symm, Oa.1.2⟩
      · exact sy.2.trans eR.symm
      · injection w with w
        rw [← w]
        rfl
    rw [if_neg c3] at hq ok ⊢
    by_cases c4 : g = 4
    · rw [if_pos c4] at hq ok ⊢
      rw [yo (by omega)]
      obtain ⟨⟨q1, q2⟩, ⟨d', z', a', b', hb⟩, qb⟩ := hq
      have hT := e.tp q1
      have Ob := Ib env (.inr (.inl (a, env), true) :: sc) (gTp (2 * d.1) (tE d.1) [] sc) s y qb ok.2.2 (e.cd _) (by
        rw [hb]
        exact ⟨fun _ => ⟨⟨ok.1, hT⟩, gTp_ns rfl, by rw [← ok.1]; exact q2, _, _, rfl⟩, fun w => absurd w (by decide)⟩)
      exact ⟨⟨ok.1, hT⟩, Ob.2⟩
    rw [if_neg c4] at hq ok ⊢
    by_cases c5 : g = 5
    · rw [if_pos c5] at hq ok ⊢
      rw [yo (by omega)]
      obtain ⟨q1, tb, qb⟩ := hq
      have st1 := (stW.rf (M := M) env s).ne (e.np (NB := NB) cb q1)
      have Ob := Ib env (.inr (.inl (a, env), true) :: sc) A (gNe (sc, d.1, 0, a, [], env, 0) s) y qb ok.2 e (aH.e tb)
      rw [yOu_e tb] at Ob
      exact ⟨Ob.1, st1.tr Ob.2 (fun _ hu => hu)⟩
    rw [if_neg c5] at hq ok ⊢
    by_cases c6 : g = 6
    · rw [if_pos c6] at hq ok ⊢
      rw [yo (by omega)]
      obtain ⟨q1, ta, qa⟩ := hq
      have st1 := (stW.rf (M := M) env s).ne (e.np (NB := NB) cb q1)
      have Oa := Ia env sc A (gNe (sc, d.1 + 2, 3, .leaf, d.2.2.2.1.2, env, gNu f pp ee env (d.1 + 1)) s) y qa ok.2.2 e (aH.e ta)
      rw [yOu_e ta] at Oa
      exact ⟨Oa.1, st1.tr Oa.2 (fun _ hu => hu)⟩
    rw [if_neg c6] at hq ok ⊢
    by_cases c7 : g = 7
    · rw [if_pos c7] at hq ok ⊢
      rw [yo (by omega), ok.1]
      refine ⟨?_, (stW.rf env s).ne (e.np cb hq.1)⟩
      dsimp only
      by_cases w : gTs f pp ee env d.2.2.2.1.2 = true
      · rw [if_pos w]
        obtain ⟨t1, t2, -, t3⟩ := hq.2 w
        exact ⟨rfl, gEq_w (by decide) t1 t2 (fun x e' hx => e.me.mpr (t3 x e' hx))⟩
      · rw [if_neg w]
        exact ⟨rfl, gPl_w (by decide)⟩
    rw [if_neg c7] at hq ok ⊢
    by_cases c8 : g = 8 ∨ g = 9
    · rw [if_pos c8] at hq ok ⊢
      rw [yo (by omega), ok]
      exact ⟨⟨rfl, gPl_w (by decide)⟩, stW.rf env s⟩
    rw [if_neg c8] at hq ok ⊢
    by_cases c10 : g = 10
    · rw [if_pos c10] at hq ok ⊢
      rw [yo (by omega), ok.1]
      exact ⟨e.su hB2 hq, stW.rf env s⟩
    rw [if_neg c10] at hq ok ⊢
    by_cases c11 : g = 11 ∨ g = 12 ∨ g = 13
    · rw [if_pos c11] at hq ok ⊢
      rw [yo (by omega), ok.1]
      refine ⟨⟨gSg_y g _ _, hq.2 _⟩, ?_⟩
      dsimp only
      by_cases w : g = 11
      · rw [if_pos w]; exact stW.rf env s
      · rw [if_neg w]; exact (stW.rf env s).ne (e.np cb (hq.1 w))
    rw [if_neg c11] at hq ok ⊢
    by_cases c14 : g = 14
    · rw [if_pos c14] at hq ok ⊢
      rw [yo (by omega), ok.1]
      exact ⟨⟨rfl, gPl_w (by decide)⟩, (stW.rf env s).ne (e.np cb hq)⟩
    rw [if_neg c14] at hq ok ⊢
    by_cases c15 : g = 15
    · rw [if_pos c15] at hq ok ⊢
      rw [yo (by omega), ok.1]
      obtain ⟨q1, ta, qa⟩ := hq
      have Oa := Ia env sc (s.1 (gNu f pp ee env d.1)) s _ qa ok.2 e (aH.a ta (e.2.2 _ q1))
      rw [yOu_a ta] at Oa
      exact Oa
    rw [if_neg c15] at hq ok ⊢
    by_cases c16 : g = 16
    · rw [if_pos c16] at hq ok ⊢
      rw [yo (by omega)]
      have Oa := Ia env sc A s y hq.2 ok e (aH.e hq.1)
      rw [yOu_e hq.1] at Oa
      exact Oa
    rw [if_neg c16] at hq ok ⊢
    by_cases c17 : g = 17
    · rw [if_pos c17] at hq ok ⊢
      rw [yo (by omega), ok]
      exact ⟨⟨rfl, gEq_w (by decide) (fun x e' w => by cases w) (gTb_0 hB2 _) (fun x e' w => by cases w)⟩, stW.rf env s⟩
    rw [if_neg c17] at hq ok ⊢
    have one : ∀ c : Int, (c = 1 ∨ c = -1) → ∀ u, u ∈ env → tN u = yB 3 → wfT Γ C B rt (nmS sc) (gEq (yB 3) (some (.inl u, 1), c)) := fun c hc u hu ht => by
      have mu : Sum.inl u ∈ nmS sc := e.me.mpr (gSv_me.mpr ⟨u, hu, by rw [ht]; rfl, rfl⟩)
      refine gEq_w (by decide) (fun x e' w => ?_) ⟨⟨?_, ?_⟩, ?_, ?_⟩ (fun x e' w => ?_)
      · injection w with w; injection w with w1 w2
        rw [← w1, ← w2]
        exact ⟨scW.nm _ e.2.1 _ mu, Or.inl rfl⟩
      · show -1125899906842624 ≤ c; omega
      · show c ≤ 1125899906842624; omega
      · show -B ≤ 2 * c - 2; omega
      · show 2 * c + 2 ≤ B; omega
      · injection w with w; injection w with w1 w2
        rw [← w1]
        exact mu
    by_cases c18 : g = 18
    · rw [if_pos c18] at hq ok ⊢
      rw [yo (by omega), ok.1]
      exact ⟨⟨rfl, one 1 (Or.inl rfl) _ hq ok.2.1⟩, stW.rf env s⟩
    rw [if_neg c18] at hq ok ⊢
    by_cases c19 : g = 19
    · rw [if_pos c19] at hq ok ⊢
      rw [yo (by omega)]
      obtain ⟨⟨q1, q2, ⟨q3, q4, q5, q6⟩, ⟨q7, q7'⟩, q8, q9⟩, ⟨ta, tb⟩, qa, qb⟩ := hq
      obtain ⟨o1, o2, ⟨o3, o4⟩, o5, o6⟩ := ok
      dsimp only
      have hT := e.tp q1
      have LL := one (-1) (Or.inr rfl) _ q2 o2
      have Oa := Ia env (.inr (.inr (gNu f pp ee env (d.1 + 1)), true) :: sc) A s y qa o5 e (aH.e ta)
      rw [yOu_e ta] at Oa
      generalize gWk T f pp ee tE tN a env (.inr (.inr (gNu f pp ee env (d.1 + 1)), true) :: sc) A s = r1 at Oa ⊢
      have st1 := Oa.2.ft (l := gFi (tE d.1) r1.2 (gTp (2 * d.1) (tE d.1) [] sc) (.inr (.inr (gNu f pp ee env (d.1 + 1)), true) :: sc)) (fits_w hQ hC (e.cd (.inr (gNu f pp ee env (d.1 + 1)), true)) (by rw [o1]; exact Oa.1) ⟨rfl, hT⟩ (gTp_ns rfl) q8 q7)
      have e1 : eW Γ C B rt tN env (.inr (.inr (gNu f pp ee env (d.1 + 1)), false) :: sc) (gFt (gFi (tE d.1) r1.2 (gTp (2 * d.1) (tE d.1) [] sc) (.inr (.inr (gNu f pp ee env (d.1 + 1)), true) :: sc)) r1.1).1 := eW.st (s := s) e st1
      have e2 := e1.tel (w := d.2.1) (A := gPl (yB 0)) q3 q5 (gPl_w (by decide)) o3.symm
      have e3 := e2.tel (w := d.2.1 + 1) (A := gEq (yB 3) (some (.inl (gNu f pp ee env (d.1 + 1)), 1), -1)) (fun w => by
        rcases List.mem_append.mp w with w | w
        · exact q4 w
        · have := List.mem_singleton.mp w; omega) q6 (LL.mo (nm_sub _ _ _)) o4.symm
      rw [List.append_assoc] at e3
      have Ob := Ib (env ++ [d.2.1, d.2.1 + 1]) (gNm (.inl (d.2.1 + 1)) (gEq (yB 3) (some (.inl (gNu f pp ee env (d.1 + 1)), 1), -1)) (gNm (.inl d.2.1) (gPl (yB 0)) (.inr (.inr (gNu f pp ee env (d.1 + 1)), false) :: sc))) A (gTn (d.2.1 + 1) (gEq (yB 3) (some (.inl (gNu f pp ee env (d.1 + 1)), 1), -1)) (gTn d.2.1 (gPl (yB 0)) (gFt (gFi (tE d.1) r1.2 (gTp (2 * d.1) (tE d.1) [] sc) (.inr (.inr (gNu f pp ee env (d.1 + 1)), true) :: sc)) r1.1))) y (by rw [scC_nm, scC_nm]; exact qb) o6 e3 (aH.e tb)
      rw [yOu_e tb] at Ob
      generalize gWk T f pp ee tE tN b (env ++ [d.2.1, d.2.1 + 1]) (gNm (.inl (d.2.1 + 1)) (gEq (yB 3) (some (.inl (gNu f pp ee env (d.1 + 1)), 1), -1)) (gNm (.inl d.2.1) (gPl (yB 0)) (.inr (.inr (gNu f pp ee env (d.1 + 1)), false) :: sc))) A (gTn (d.2.1 + 1) (gEq (yB 3) (some (.inl (gNu f pp ee env (d.1 + 1)), 1), -1)) (gTn d.2.1 (gPl (yB 0)) (gFt (gFi (tE d.1) r1.2 (gTp (2 * d.1) (tE d.1) [] sc) (.inr (.inr (gNu f pp ee env (d.1 + 1)), true) :: sc)) r1.1))) = r2 at Ob ⊢
      refine ⟨⟨o1, hT⟩, ((((st1.tn q3).tn q4)).tr Ob.2 (fun u hu => List.mem_append_left _ hu)).ft (fits_w hQ hC e3 ?_ ⟨rfl, (hT.mo (fun x hx => nm_sub (.inl d.2.1) (gPl (yB 0)) (.inr (.inr (gNu f pp ee env (d.1 + 1)), false) :: sc) x hx)).mo (nm_sub _ _ _)⟩ (gTp_ns rfl) (by rw [scC_nm, scC_nm]; exact q9) q7')⟩
      rw [o1]
      exact Ob.1
    rw [if_neg c19] at hq ok ⊢
    by_cases c31 : g = 31
    · rw [if_pos c31] at hq ok ⊢
      rw [yo (by omega)]
      obtain ⟨q1, ⟨ta, tb⟩, qa, qb⟩ := hq
      obtain ⟨⟨hy, hA⟩, hns, hM, c, r, hsc⟩ := h.1 c31
      dsimp only
      have ef : scC (gFl sc) = cFl (scC sc) := by
        rw [hsc]
        obtain ⟨c, hh⟩ := c
        rfl
      have en : nmS (gFl sc) = nmS sc := by unfold nmS; rw [scN_fl]
      have Oa := Ia env sc A s y qa ok.1 e (aH.e ta)
      rw [yOu_e ta] at Oa
      generalize gWk T f pp ee tE tN a env sc A s = r1 at Oa ⊢
      have st1 := Oa.2.ft (l := gFi (gSy A) r1.2 A sc) (by rw [hy]; exact fits_w hQ hC e Oa.1 ⟨hy, hA⟩ hns cb hM)
      have e1 : eW Γ C B rt tN env (gFl sc) (gFt (gFi (gSy A) r1.2 A sc) r1.1).1 := (eW.st (s := s) e st1).fl
      have Ob := Ib env (gFl sc) A (gFt (gFi (gSy A) r1.2 A sc) r1.1) y (by rw [ef]; exact qb) ok.2 e1 (aH.e tb)
      rw [yOu_e tb] at Ob
      generalize gWk T f pp ee tE tN b env (gFl sc) A (gFt (gFi (gSy A) r1.2 A sc) r1.1) = r2 at Ob ⊢
      refine ⟨⟨hy, hA⟩, (st1.tr Ob.2 (fun _ hu => hu)).ft ?_⟩
      rw [hy]
      exact fits_w hQ hC e1 Ob.1 ⟨hy, by rw [en]; exact hA⟩ hns (by rw [ef]; exact q1) hM
    rw [if_neg c31] at hq ok ⊢
    by_cases c33 : g = 33
    · rw [if_pos c33] at hq ok ⊢
      obtain ⟨⟨q1, q2, q3⟩, tb, qb⟩ := hq
      obtain ⟨o1, ⟨o2, -⟩, o4⟩ := ok
      obtain ⟨hy, hA⟩ := h.2 (Or.inl c33)
      have k1 : yK (gSy A) = 1 := by rw [hy]; exact yIs_1 o1
      obtain ⟨m, em, -⟩ := hA.fn k1
      have sy := gSy_tk em
      rw [hy] at sy
      have su := e.su (T := T) (f := f) (pp := pp) (ee := ee) hB2 q1
      have lA : yL (gSy A) = gSk f pp ee tN env d.2.2.2.1.2 := by rw [hy]; exact o2
      have st1 := (stW.rf (Γ := Γ) (C := C) (B := B) (rt := rt) (M := M) (tN := tN) (CB := CB) (NB := NB) env s).ft (l := gFi (yL (gSy A)) (gSu T f pp ee env d.2.2.2.1.2 s) (gTk A) sc) (by
        rw [lA]
        exact fits_w hQ hC e su ⟨by rw [sy.1, o2], hA.tk k1⟩ (fun m' w => by
          unfold gTk at w
          rw [em] at w
          injection w with w
          rw [← w]
          rfl) cb q3)
      have nx : ∀ A', (gSy A' = yR y ∧ wfT Γ C B rt (nmS sc) A') → outW Γ C B rt M tN CB NB env sc s (yOu y (.inner g d z a b)) (gWk T f pp ee tE tN b env sc A' (gFt (gFi (yL (gSy A)) (gSu T f pp ee env d.2.2.2.1.2 s) (gTk A) sc) s)) := fun A' hA' => by
        have Ob := Ib env sc A' (gFt (gFi (yL (gSy A)) (gSu T f pp ee env d.2.2.2.1.2 s) (gTk A) sc) s) (yR y) qb o4 e (aH.a tb hA')
        rw [yOu_a tb] at Ob
        rw [show yOu y (.inner g d z a b) = yRs (tQn b) (yR y) from if_pos (Or.inl c33)]
        exact ⟨Ob.1, st1.tr Ob.2 (fun _ hu => hu)⟩
      by_cases w : gMs (yL (gSy A)) = true
      · rw [if_pos w]
        obtain ⟨t1, -, t2, t3⟩ := q2 (by rw [← lA]; exact w)
        exact nx _ ⟨sy.2, hA.pu hQ k1 (fun _ hs => hs) w t1 t2 (fun x e' hx => e.me.mpr (t3 x e' hx))⟩
      · rw [if_neg w]
        exact nx _ ⟨sy.2, hA.an hQ k1 (fun _ hs => hs) (fun w' => absurd w' w)⟩
    rw [if_neg c33] at hq ok ⊢
    by_cases c34 : g = 34
    · rw [if_pos c34] at hq ok ⊢
      obtain ⟨q1, ⟨ta, tb⟩, qa, qb⟩ := hq
      obtain ⟨o1, o2, o3⟩ := ok
      obtain ⟨hy, hA⟩ := h.2 (Or.inr (Or.inl c34))
      have k1 : yK (gSy A) = 1 := by rw [hy]; exact yIs_1 o1
      obtain ⟨m, em, -⟩ := hA.fn k1
      have sy := gSy_tk em
      rw [hy] at sy
      obtain ⟨m1, m2⟩ := q1 _ o2
      dsimp only
      have Oa := Ia env sc A s _ qa o2 e (aH.e ta)
      rw [yOu_e ta] at Oa
      generalize gWk T f pp ee tE tN a env sc A s = r1 at Oa ⊢
      have st1 := Oa.2.ft (l := gFi (yL (gSy A)) r1.2 (gTk A) sc) (by
        rw [hy]
        exact fits_w hQ hC e Oa.1 ⟨sy.1, hA.tk k1⟩ (fun m' w => by
          unfold gTk at w
          rw [em] at w
          injection w with w
          rw [← w]
          rfl) cb m2)
      have Ob := Ib env sc (gAn A) (gFt (gFi (yL (gSy A)) r1.2 (gTk A) sc) r1.1) (yR y) qb o3 (eW.st (s := s) e st1) (aH.a tb ⟨sy.2, hA.an hQ k1 (fun _ hs => hs) (fun w => by rw [hy, m1] at w; cases w)⟩)
      rw [yOu_a tb] at Ob
      rw [show yOu y (.inner g d z a b) = yRs (tQn b) (yR y) from if_pos (Or.inr (Or.inl c34))]
      exact ⟨Ob.1, st1.tr Ob.2 (fun _ hu => hu)⟩
    rw [if_neg c34] at hq ok ⊢
    obtain ⟨c35, tb, qb⟩ := hq
    obtain ⟨o1, o2, o3⟩ := ok
    rw [if_pos c35]
    obtain ⟨hy, hA⟩ := h.2 (Or.inr (Or.inr c35))
    have k1 : yK (gSy A) = 1 := by rw [hy]; exact yIs_1 o1
    obtain ⟨m, em, -⟩ := hA.fn k1
    have sy := gSy_tk em
    rw [hy] at sy
    have Ob := Ib env sc (gAn A) s (yR y) qb o3 e (aH.a tb ⟨sy.2, hA.an hQ k1 (fun _ hs => hs) (fun w => by rw [hy, o2] at w; cases w)⟩)
    rw [yOu_a tb] at Ob
    rw [show yOu y (.inner g d z a b) = yRs (tQn b) (yR y) from if_pos (Or.inr (Or.inr c35))]
    exact Ob
end GWX
