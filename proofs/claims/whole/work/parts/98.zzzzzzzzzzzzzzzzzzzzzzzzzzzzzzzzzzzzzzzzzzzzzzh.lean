/-! ROOM: cells, by types -/
section CXD
variable (f pp ee : Nat → Int32) (tE tN : Nat → tY) (xs : List tQ)
/-- cells that walk() makes, by types; y is the E's type, or what takes the ARGS -/
def cXw : tT → List Nat → tY → Nat
  | .leaf, _, _ => 0
  | .inner g d _ a b, env, y =>
    if g = 1 then cXw a env (tN (d.1 + 1)) + 1 + tCn xs (tE d.1) + cXw b (env ++ [d.1 + 1]) y + fCn (tE d.1) else
    if g = 2 then tCn xs (tN (d.1 + 2)) + 1 + 4 * d.2.1 + cXw a (env ++ ([d.1 + 2] ++ List.range' (d.1 + 3) d.2.1)) (yRs d.2.1 (tN (d.1 + 2))) + fCn (yRs d.2.1 (tN (d.1 + 2))) + tCn xs (tE d.1) + cXw b (env ++ [d.1 + 2]) y + fCn (tE d.1) else
    if g = 3 then tCn xs (tE d.1) + 4 + cXw a (env ++ [d.1 + 1]) (yR (tE d.1)) + fCn (yR (tE d.1)) else
    if g = 4 then tCn xs (tE d.1) + 2 + cXw b env y else
    if g = 5 then 1 + cXw b env y else
    if g = 6 then cXw a env y else
    if g = 7 ∨ g = 10 then 3 else
    if g = 8 ∨ g = 9 ∨ g = 12 ∨ g = 14 then 1 else
    if g = 11 ∨ g = 17 ∨ g = 18 then 6 else
    if g = 13 then 6 else
    if g = 15 then cXw a env (tN (gNu f pp ee env d.1)) else
    if g = 16 then cXw a env y else
    if g = 19 then tCn xs (tE d.1) + 11 + cXw a env y + fCn (tE d.1) + cXw b (env ++ [d.2.1, d.2.1 + 1]) y + fCn (tE d.1) else
    if g = 31 then cXw a env y + fCn y + cXw b env y + fCn y else
    if g = 33 then 9 + fCn (yL y) + cXw b env (yR y) else
    if g = 34 then cXw a env (yL y) + 6 + fCn (yL y) + cXw b env (yR y) else
    if g = 35 then 7 + cXw b env (yR y) else 0
end CXD
theorem wSc_3 (b : Bool) : (wSc b).1 = 3 := by
  unfold wSc
  split <;> rfl
section CXB
variable {T : Nat} {f pp ee : Nat → Int32} {tE tN : Nat → tY} {Γ : uGm} {C B : Int} {rt : Nat → gTm} {M : Nat} {CB : List Nat → List (gCd × Bool) → Prop} {NB : List Nat → List (gCd × Bool) → (Nat × Nat × tT × List tP × List Nat × Nat) → Prop}
variable {xs : List tQ}
set_option maxHeartbeats 4000000 in
/-- **cells, by types** -/
theorem wCo_c (hQ : rtQ Γ rt) (hC : 0 ≤ C) (hB : 4 ≤ B) : ∀ (t : tT) (env : List Nat) (sc : List gEn) (A : gTy) (s : gSt) (y : tY), gHq T f pp ee tE tN Γ C B rt M CB NB t env (scC sc) → gOk f pp ee tE tN t env y → eW Γ C B rt tN env sc s.1 → aH tN Γ C B rt M env sc A y t → (wCo T f pp ee tE tN xs t env sc A s).1 ≤ cXw f pp ee tE tN xs t env y
  | .leaf, env, sc, A, s, y, _, _, e, h => Nat.le_refl _
  | .inner g d z a b, env, sc, A, s, y, hq, ok, e, h => by
    have Ia := fun env' sc' A' s' y' => gWk_w (T := T) (f := f) (pp := pp) (ee := ee) (tE := tE) (tN := tN) (CB := CB) (NB := NB) (M := M) hQ hC hB a env' sc' A' s' y'
    have Ja := fun env' sc' A' s' y' => wCo_c hQ hC hB a env' sc' A' s' y'
    have Ib := fun env' sc' A' s' y' => gWk_w (T := T) (f := f) (pp := pp) (ee := ee) (tE := tE) (tN := tN) (CB := CB) (NB := NB) (M := M) hQ hC hB b env' sc' A' s' y'
    have Jb := fun env' sc' A' s' y' => wCo_c hQ hC hB b env' sc' A' s' y'
    unfold gHq at hq
    unfold gOk at ok
    rw [wCo, cXw]
    obtain ⟨cb, hq⟩ := hq
    have hB2 : 2 ≤ B := by omega
    by_cases c1 : g = 1
    · rw [if_pos c1] at hq ok ⊢
      rw [if_pos c1]
      obtain ⟨⟨q1, ⟨q2, q3⟩, q4, q5⟩, ⟨ta, tb⟩, qa, qb⟩ := hq
      have Oa := Ia env sc A s _ qa ok.2.1 e (aH.e ta)
      have Ra := Ja env sc A s _ qa ok.2.1 e (aH.e ta)
      rw [yOu_e ta] at Oa
      generalize gWk T f pp ee tE tN a env sc A s = r1 at Oa ⊢
      have e2 := (e.st Oa.2).tel q2 q3 Oa.1.2 Oa.1.1
      have Rb := Jb (env ++ [d.1 + 1]) (gNm (.inl (d.1 + 1)) r1.2 sc) A (gTn (d.1 + 1) r1.2 r1.1) y (by rw [scC_nm]; exact qb) ok.2.2 e2 (aH.e tb)
      dsimp only [wS, wT, wFt]
      have hT := e.tp q1
      omega
    rw [if_neg c1] at hq ok ⊢
    rw [if_neg c1]
    by_cases c2 : g = 2
    · rw [if_pos c2] at hq ok ⊢
      rw [if_pos c2]
      obtain ⟨⟨q1, q2, ⟨q3, q4⟩, q5, q6, q7, q8, q9⟩, ⟨ta, tb⟩, qa, qb⟩ := hq
      obtain ⟨o1, ⟨r, o2, o3⟩, o4⟩ := ok
      dsimp only [wS, wT, wFt]
      have HF := e.tp q2
      have ng : gNm (.inl (d.1 + 2)) (gTp (2 * d.1 + 1) (tN (d.1 + 2)) (List.range' (d.1 + 3) d.2.1) sc) sc = sc := by
        refine if_neg (fun w => gMs_1 w ?_)
        show yK (tN (d.1 + 2)) = 1
        obtain ⟨k, hk⟩ : ∃ k, d.2.1 = k + 1 := ⟨d.2.1 - 1, by omega⟩
        rw [o2, hk]
        rfl
      have eF := e.tel q3 q4 HF rfl
      rw [ng] at eF
      have P := gPa_w hQ (r := r) d.2.1 (d.1 + 3) (gTp (2 * d.1 + 1) (tN (d.1 + 2)) (List.range' (d.1 + 3) d.2.1) sc) sc (gTn (d.1 + 2) (gTp (2 * d.1 + 1) (tN (d.1 + 2)) (List.range' (d.1 + 3) d.2.1) sc) s) (env ++ [d.1 + 2]) o2 eF HF (fun m w => by injection w with w; rw [← w]) (fun _ => ⟨_, rfl⟩) q5
      generalize gPa d.2.1 (d.1 + 3) (gTp (2 * d.1 + 1) (tN (d.1 + 2)) (List.range' (d.1 + 3) d.2.1) sc) sc (gTn (d.1 + 2) (gTp (2 * d.1 + 1) (tN (d.1 + 2)) (List.range' (d.1 + 3) d.2.1) sc) s) = p at P ⊢
      obtain ⟨p1, p2, p3, p4, p5, p6, p7⟩ := P
      rw [List.append_assoc] at p1
      have Oa := Ia (env ++ ([d.1 + 2] ++ List.range' (d.1 + 3) d.2.1)) p.1 A p.2.2 r (by rw [p5]; exact qa) o3 p1 (aH.e ta)
      have Ra := Ja (env ++ ([d.1 + 2] ++ List.range' (d.1 + 3) d.2.1)) p.1 A p.2.2 r (by rw [p5]; exact qa) o3 p1 (aH.e ta)
      rw [yOu_e ta] at Oa
      generalize gWk T f pp ee tE tN a (env ++ ([d.1 + 2] ++ List.range' (d.1 + 3) d.2.1)) p.1 A p.2.2 = r1 at Oa ⊢
      have st1 : stW Γ C B rt M tN CB NB (env ++ [d.1 + 2]) (gTn (d.1 + 2) (gTp (2 * d.1 + 1) (tN (d.1 + 2)) (List.range' (d.1 + 3) d.2.1) sc) s) p.2.2 := ⟨fun u hu => p6 u (fun w => (q5 u w).1 hu), fun x hx => Or.inl (by rw [p7] at hx; exact hx), fun x hx => Or.inl (by rw [p7] at hx; exact hx)⟩
      have st2 := st1.tr Oa.2 (fun u hu => by rw [← List.append_assoc]; exact List.mem_append_left _ hu)
      have st3 := st2.ft (l := gFi (gSy p.2.1) r1.2 p.2.1 p.1) (by rw [p3]; exact fits_w hQ hC p1 Oa.1 ⟨p3, p2⟩ p4 (by rw [p5]; exact q8) (q9 r o2))
      have eB := eW.st (s := gTn (d.1 + 2) (gTp (2 * d.1 + 1) (tN (d.1 + 2)) (List.range' (d.1 + 3) d.2.1) sc) s) eF st3
      have Rb := Jb (env ++ [d.1 + 2]) sc A _ y qb o4 eB (aH.e tb)
      have hT := e.tp q1
      have er : yRs d.2.1 (tN (d.1 + 2)) = r := by rw [o2, yRs_fn]
      have F : fCn (gSy p.2.1) = fCn r := by rw [p3]
      rw [er]
      omega
    rw [if_neg c2] at hq ok ⊢
    rw [if_neg c2]
    by_cases c3 : g = 3
    · rw [if_pos c3] at hq ok ⊢
      rw [if_pos c3]
      obtain ⟨⟨q1, q2, q3, q4⟩, ta, qa⟩ := hq
      obtain ⟨o1, r, o2, o3⟩ := ok
      dsimp only [wS, wT, wFt]
      have HF := e.tp q1
      have nw : d.1 + 1 ∉ env := q1.2.2.2.2 _ (List.mem_singleton_self _)
      have eE : tE d.1 = yA (tN (d.1 + 1)) r := o1.trans o2
      have eR : yR (tE d.1) = r := by rw [eE]; rfl
      have kF : yK (gSy (gTp (2 * d.1) (tE d.1) [d.1 + 1] sc)) = 1 := by show yK (tE d.1) = 1; rw [eE]; rfl
      have sy := gSy_tk (A := gTp (2 * d.1) (tE d.1) [d.1 + 1] sc) rfl
      rw [show gSy (gTp (2 * d.1) (tE d.1) [d.1 + 1] sc) = yA (tN (d.1 + 1)) r from eE] at sy
      have e2 := e.tel nw q2 (HF.tk kF) sy.1
      have HA : wfT Γ C B rt (nmS (gNm (.inl (d.1 + 1)) (gTk (gTp (2 * d.1) (tE d.1) [d.1 + 1] sc)) sc)) (gAn (gTp (2 * d.1) (tE d.1) [d.1 + 1] sc)) := HF.an hQ kF (nm_sub _ _ _) (fun w => by
        rw [show gSy (gTp (2 * d.1) (tE d.1) [d.1 + 1] sc) = yA (tN (d.1 + 1)) r from eE] at w
        have w : gMs (tN (d.1 + 1)) = true := w
        rw [nmS_nm, sy.1, show yL (yA (tN (d.1 + 1)) r) = tN (d.1 + 1) from rfl, if_pos w]
        exact List.mem_cons_self ..)
      have Oa := Ia (env ++ [d.1 + 1]) (gNm (.inl (d.1 + 1)) (gTk (gTp (2 * d.1) (tE d.1) [d.1 + 1] sc)) sc) A (gTn (d.1 + 1) (gTk (gTp (2 * d.1) (tE d.1) [d.1 + 1] sc)) s) r (by rw [scC_nm]; exact qa) o3 e2 (aH.e ta)
      have Ra := Ja (env ++ [d.1 + 1]) (gNm (.inl (d.1 + 1)) (gTk (gTp (2 * d.1) (tE d.1) [d.1 + 1] sc)) sc) A (gTn (d.1 + 1) (gTk (gTp (2 * d.1) (tE d.1) [d.1 + 1] sc)) s) r (by rw [scC_nm]; exact qa) o3 e2 (aH.e ta)
      rw [yOu_e ta] at Oa
      rw [eR]
      omega
    rw [if_neg c3] at hq ok ⊢
    rw [if_neg c3]
    by_cases c4 : g = 4
    · rw [if_pos c4] at hq ok ⊢
      rw [if_pos c4]
      obtain ⟨⟨q1, q2⟩, ⟨d', z', a', b', hb⟩, qb⟩ := hq
      have hT := e.tp q1
      have Rb := Jb env (.inr (.inl (a, env), true) :: sc) (gTp (2 * d.1) (tE d.1) [] sc) s y qb ok.2.2 (e.cd _) (by
        rw [hb]
        exact ⟨fun _ => ⟨⟨ok.1, hT⟩, gTp_ns rfl, by rw [← ok.1]; exact q2, _, _, rfl⟩, fun w => absurd w (by decide)⟩)
      dsimp only [wS, wT, wFt]
      omega
    rw [if_neg c4] at hq ok ⊢
    rw [if_neg c4]
    by_cases c5 : g = 5
    · rw [if_pos c5] at hq ok ⊢
      rw [if_pos c5]
      obtain ⟨q1, tb, qb⟩ := hq
      have st1 := (stW.rf (M := M) env s).ne (e.np (NB := NB) cb q1)
      have Rb := Jb env (.inr (.inl (a, env), true) :: sc) A (gNe (sc, d.1, 0, a, [], env, 0) s) y qb ok.2 e (aH.e tb)
      dsimp only [wS, wT, wFt]
      omega
    rw [if_neg c5] at hq ok ⊢
    rw [if_neg c5]
    by_cases c6 : g = 6
    · rw [if_pos c6] at hq ok ⊢
      rw [if_pos c6]
      obtain ⟨q1, ta, qa⟩ := hq
      have st1 := (stW.rf (M := M) env s).ne (e.np (NB := NB) cb q1)
      have Oa := Ia env sc A (gNe (sc, d.1 + 2, 3, .leaf, d.2.2.2.1.2, env, gNu f pp ee env (d.1 + 1)) s) y qa ok.2.2 e (aH.e ta)
      have Ra := Ja env sc A (gNe (sc, d.1 + 2, 3, .leaf, d.2.2.2.1.2, env, gNu f pp ee env (d.1 + 1)) s) y qa ok.2.2 e (aH.e ta)
      rw [yOu_e ta] at Oa
      exact Ra
    rw [if_neg c6] at hq ok ⊢
    rw [if_neg c6]
    by_cases c7 : g = 7
    · rw [if_pos c7] at hq ok
      repeat (first | rw [if_pos (by omega)] | rw [if_neg (by omega)])
      exact Nat.le_refl _
    rw [if_neg c7] at hq ok
    by_cases c8 : g = 8 ∨ g = 9
    · rw [if_pos c8] at hq ok
      repeat (first | rw [if_pos (by omega)] | rw [if_neg (by omega)])
      exact Nat.le_refl _
    rw [if_neg c8] at hq ok
    by_cases c10 : g = 10
    · rw [if_pos c10] at hq ok
      repeat (first | rw [if_pos (by omega)] | rw [if_neg (by omega)])
      exact Nat.le_refl _
    rw [if_neg c10] at hq ok
    by_cases c11 : g = 11 ∨ g = 12 ∨ g = 13
    · rcases c11 with rfl | rfl | rfl
      all_goals exact Nat.le_refl _
    rw [if_neg c11] at hq ok
    by_cases c14 : g = 14
    · rw [if_pos c14] at hq ok
      repeat (first | rw [if_pos (by omega)] | rw [if_neg (by omega)])
      exact Nat.le_refl _
    rw [if_neg c14] at hq ok
    by_cases c15 : g = 15
    · rw [if_pos c15] at hq ok
      repeat (first | rw [if_pos (by omega)] | rw [if_neg (by omega)])
      obtain ⟨q1, ta, qa⟩ := hq
      have Oa := Ia env sc (s.1 (gNu f pp ee env d.1)) s _ qa ok.2 e (aH.a ta (e.2.2 _ q1))
      have Ra := Ja env sc (s.1 (gNu f pp ee env d.1)) s _ qa ok.2 e (aH.a ta (e.2.2 _ q1))
      exact Ra
    rw [if_neg c15] at hq ok
    by_cases c16 : g = 16
    · rw [if_pos c16] at hq ok
      repeat (first | rw [if_pos (by omega)] | rw [if_neg (by omega)])
      have Oa := Ia env sc A s y hq.2 ok e (aH.e hq.1)
      have Ra := Ja env sc A s y hq.2 ok e (aH.e hq.1)
      rw [yOu_e hq.1] at Oa
      exact Ra
    rw [if_neg c16] at hq ok
    by_cases c17 : g = 17
    · rw [if_pos c17] at hq ok
      repeat (first | rw [if_pos (by omega)] | rw [if_neg (by omega)])
      exact Nat.le_refl _
    rw [if_neg c17] at hq ok
    have one : ∀ c : Int, (c = 1 ∨ c = -1) → ∀ u, u ∈ env → tN u = yB 3 → wfT Γ C B rt (nmS sc) (gEq (yB 3) (some (.inl u, 1), c)) := fun c hc u hu ht => by
      have mu : Sum.inl u ∈ nmS sc := e.me.mpr (gSv_me.mpr ⟨u, hu, by rw [ht]; rfl, rfl⟩)
      refine gEq_w (by decide) (fun x e' w => ?_) ⟨⟨?_, ?_⟩, ?_, ?_⟩ (fun x e' w => ?_)
      · injection w with w; injection w with w1 w2
        rw [← w1, ← w2]
        exact ⟨scW.nm _ e.2.1 _ mu, Or.inl rfl⟩
      · show -1125899906842624 ≤ c; omega
      · show c ≤ 1125899906842624; omega
      · show -B ≤ 2 * c - 2; omega
      · show 2 * c + 2 ≤ B; omega
      · injection w with w; injection w with w1 w2
        rw [← w1]
        exact mu
    by_cases c18 : g = 18
    · rw [if_pos c18] at hq ok
      repeat (first | rw [if_pos (by omega)] | rw [if_neg (by omega)])
      exact Nat.le_refl _
    rw [if_neg c18] at hq ok
    by_cases c19 : g = 19
    · rw [if_pos c19] at hq ok
      repeat (first | rw [if_pos (by omega)] | rw [if_neg (by omega)])
      obtain ⟨⟨q1, q2, ⟨q3, q4, q5, q6⟩, ⟨q7, q7'⟩, q8, q9⟩, ⟨ta, tb⟩, qa, qb⟩ := hq
      obtain ⟨o1, o2, ⟨o3, o4⟩, o5, o6⟩ := ok
      dsimp only [wS, wT, wFt]
      have hT := e.tp q1
      have LL := one (-1) (Or.inr rfl) _ q2 o2
      have Oa := Ia env (.inr (.inr (gNu f pp ee env (d.1 + 1)), true) :: sc) A s y qa o5 e (aH.e ta)
      have Ra := Ja env (.inr (.inr (gNu f pp ee env (d.1 + 1)), true) :: sc) A s y qa o5 e (aH.e ta)
      rw [yOu_e ta] at Oa
      generalize gWk T f pp ee tE tN a env (.inr (.inr (gNu f pp ee env (d.1 + 1)), true) :: sc) A s = r1 at Oa ⊢
      have st1 := Oa.2.ft (l := gFi (tE d.1) r1.2 (gTp (2 * d.1) (tE d.1) [] sc) (.inr (.inr (gNu f pp ee env (d.1 + 1)), true) :: sc)) (fits_w hQ hC (e.cd (.inr (gNu f pp ee env (d.1 + 1)), true)) (by rw [o1]; exact Oa.1) ⟨rfl, hT⟩ (gTp_ns rfl) q8 q7)
      have e1 : eW Γ C B rt tN env (.inr (.inr (gNu f pp ee env (d.1 + 1)), false) :: sc) (gFt (gFi (tE d.1) r1.2 (gTp (2 * d.1) (tE d.1) [] sc) (.inr (.inr (gNu f pp ee env (d.1 + 1)), true) :: sc)) r1.1).1 := eW.st (s := s) e st1
      have e2 := e1.tel (w := d.2.1) (A := gPl (yB 0)) q3 q5 (gPl_w (by decide)) o3.symm
      have e3 := e2.tel (w := d.2.1 + 1) (A := gEq (yB 3) (some (.inl (gNu f pp ee env (d.1 + 1)), 1), -1)) (fun w => by
        rcases List.mem_append.mp w with w | w
        · exact q4 w
        · have := List.mem_singleton.mp w; omega) q6 (LL.mo (nm_sub _ _ _)) o4.symm
      rw [List.append_assoc] at e3
      have Rb := Jb (env ++ [d.2.1, d.2.1 + 1]) (gNm (.inl (d.2.1 + 1)) (gEq (yB 3) (some (.inl (gNu f pp ee env (d.1 + 1)), 1), -1)) (gNm (.inl d.2.1) (gPl (yB 0)) (.inr (.inr (gNu f pp ee env (d.1 + 1)), false) :: sc))) A (gTn (d.2.1 + 1) (gEq (yB 3) (some (.inl (gNu f pp ee env (d.1 + 1)), 1), -1)) (gTn d.2.1 (gPl (yB 0)) (gFt (gFi (tE d.1) r1.2 (gTp (2 * d.1) (tE d.1) [] sc) (.inr (.inr (gNu f pp ee env (d.1 + 1)), true) :: sc)) r1.1))) y (by rw [scC_nm, scC_nm]; exact qb) o6 e3 (aH.e tb)
      omega
    rw [if_neg c19] at hq ok
    by_cases c31 : g = 31
    · rw [if_pos c31] at hq ok
      repeat (first | rw [if_pos (by omega)] | rw [if_neg (by omega)])
      obtain ⟨q1, ⟨ta, tb⟩, qa, qb⟩ := hq
      obtain ⟨⟨hy, hA⟩, hns, hM, c, r, hsc⟩ := h.1 c31
      dsimp only [wS, wT, wFt]
      have ef : scC (gFl sc) = cFl (scC sc) := by
        rw [hsc]
        obtain ⟨c, hh⟩ := c
        rfl
      have en : nmS (gFl sc) = nmS sc := by unfold nmS; rw [scN_fl]
      have Oa := Ia env sc A s y qa ok.1 e (aH.e ta)
      have Ra := Ja env sc A s y qa ok.1 e (aH.e ta)
      rw [yOu_e ta] at Oa
      generalize gWk T f pp ee tE tN a env sc A s = r1 at Oa ⊢
      have st1 := Oa.2.ft (l := gFi (gSy A) r1.2 A sc) (by rw [hy]; exact fits_w hQ hC e Oa.1 ⟨hy, hA⟩ hns cb hM)
      have e1 : eW Γ C B rt tN env (gFl sc) (gFt (gFi (gSy A) r1.2 A sc) r1.1).1 := (eW.st (s := s) e st1).fl
      have Rb := Jb env (gFl sc) A (gFt (gFi (gSy A) r1.2 A sc) r1.1) y (by rw [ef]; exact qb) ok.2 e1 (aH.e tb)
      have F : fCn (gSy A) = fCn y := by rw [hy]
      omega
    rw [if_neg c31] at hq ok
    by_cases c33 : g = 33
    · rw [if_pos c33] at hq ok
      repeat (first | rw [if_pos (by omega)] | rw [if_neg (by omega)])
      obtain ⟨⟨q1, q2, q3⟩, tb, qb⟩ := hq
      obtain ⟨o1, ⟨o2, -⟩, o4⟩ := ok
      obtain ⟨hy, hA⟩ := h.2 (Or.inl c33)
      have k1 : yK (gSy A) = 1 := by rw [hy]; exact yIs_1 o1
      obtain ⟨m, em, -⟩ := hA.fn k1
      have sy := gSy_tk em
      rw [hy] at sy
      have su := e.su (T := T) (f := f) (pp := pp) (ee := ee) hB2 q1
      have lA : yL (gSy A) = gSk f pp ee tN env d.2.2.2.1.2 := by rw [hy]; exact o2
      have nx : ∀ A', (gSy A' = yR y ∧ wfT Γ C B rt (nmS sc) A') → (wCo T f pp ee tE tN xs b env sc A' (gFt (gFi (yL (gSy A)) (gSu T f pp ee env d.2.2.2.1.2 s) (gTk A) sc) s)).1 ≤ cXw f pp ee tE tN xs b env (yR y) := fun A' hA' => Jb env sc A' (gFt (gFi (yL (gSy A)) (gSu T f pp ee env d.2.2.2.1.2 s) (gTk A) sc) s) (yR y) qb o4 e (aH.a tb hA')
      have F : fCn (yL (gSy A)) = fCn (yL y) := by rw [hy]
      dsimp only [wS, wT, wFt]
      rw [wSc_3]
      by_cases w : gMs (yL (gSy A)) = true
      · rw [if_pos w]
        obtain ⟨t1, -, t2, t3⟩ := q2 (by rw [← lA]; exact w)
        repeat (first | rw [if_pos (by omega)] | rw [if_neg (by omega)])
        have := nx (gPu (gAn A) (gPn A) (gOf T f pp ee env d.2.2.2.1.2)) ⟨sy.2, hA.pu hQ k1 (fun _ hs => hs) w t1 t2 (fun x e' hx => e.me.mpr (t3 x e' hx))⟩
        omega
      · rw [if_neg w]
        repeat (first | rw [if_pos (by omega)] | rw [if_neg (by omega)])
        have := nx (gAn A) ⟨sy.2, hA.an hQ k1 (fun _ hs => hs) (fun w' => absurd w' w)⟩
        omega
    rw [if_neg c33] at hq ok
    by_cases c34 : g = 34
    · rw [if_pos c34] at hq ok
      repeat (first | rw [if_pos (by omega)] | rw [if_neg (by omega)])
      obtain ⟨q1, ⟨ta, tb⟩, qa, qb⟩ := hq
      obtain ⟨o1, o2, o3⟩ := ok
      obtain ⟨hy, hA⟩ := h.2 (Or.inr (Or.inl c34))
      have k1 : yK (gSy A) = 1 := by rw [hy]; exact yIs_1 o1
      obtain ⟨m, em, -⟩ := hA.fn k1
      have sy := gSy_tk em
      rw [hy] at sy
      obtain ⟨m1, m2⟩ := q1 _ o2
      dsimp only [wS, wT, wFt]
      have Oa := Ia env sc A s _ qa o2 e (aH.e ta)
      have Ra := Ja env sc A s _ qa o2 e (aH.e ta)
      rw [yOu_e ta] at Oa
      generalize gWk T f pp ee tE tN a env sc A s = r1 at Oa ⊢
      have st1 := Oa.2.ft (l := gFi (yL (gSy A)) r1.2 (gTk A) sc) (by
        rw [hy]
        exact fits_w hQ hC e Oa.1 ⟨sy.1, hA.tk k1⟩ (fun m' w => by
          unfold gTk at w
          rw [em] at w
          injection w with w
          rw [← w]
          rfl) cb m2)
      have Rb := Jb env sc (gAn A) (gFt (gFi (yL (gSy A)) r1.2 (gTk A) sc) r1.1) (yR y) qb o3 (eW.st (s := s) e st1) (aH.a tb ⟨sy.2, hA.an hQ k1 (fun _ hs => hs) (fun w => by rw [hy, m1] at w; cases w)⟩)
      have F : fCn (yL (gSy A)) = fCn (yL y) := by rw [hy]
      omega
    rw [if_neg c34] at hq ok
    obtain ⟨c35, tb, qb⟩ := hq
    obtain ⟨o1, o2, o3⟩ := ok
    repeat (first | rw [if_pos (by omega)] | rw [if_neg (by omega)])
    obtain ⟨hy, hA⟩ := h.2 (Or.inr (Or.inr c35))
    have k1 : yK (gSy A) = 1 := by rw [hy]; exact yIs_1 o1
    obtain ⟨m, em, -⟩ := hA.fn k1
    have sy := gSy_tk em
    rw [hy] at sy
    have Rb := Jb env sc (gAn A) s (yR y) qb o3 e (aH.a tb ⟨sy.2, hA.an hQ k1 (fun _ hs => hs) (fun w => by rw [hy, o2] at w; cases w)⟩)
    dsimp only [wS, wT, wFt]
    omega
end CXB
