/-! gWk: every NAME that is told has a type of its own -/
/-- a told NAME's type is its own, and speaks of told NAMES -/
def gGd (Γ : uGm) (C B : Int) (rt : Nat → gTm) (tN : Nat → tY) (Lp : Nat → Prop) (q : Nat → gTy) (u : Nat) : Prop := gSy (q u) = tN u ∧ ∃ S, (∀ x, x ∈ S → ∃ v, Lp v ∧ gMs (tN v) = true ∧ x = .inl v) ∧ wfT Γ C B rt S (q u)
section GTD
variable {T : Nat} {f pp ee : Nat → Int32} {tE tN : Nat → tY} {Γ : uGm} {C B : Int} {rt : Nat → gTm} {M : Nat} {CB : List Nat → List (gCd × Bool) → Prop} {NB : List Nat → List (gCd × Bool) → (Nat × Nat × tT × List tP × List Nat × Nat) → Prop} {Lp : Nat → Prop}
theorem gGd.e {env : List Nat} {sc : List gEn} {q : Nat → gTy} {u : Nat} (h : eW Γ C B rt tN env sc q) (hL : ∀ v, v ∈ env → Lp v) (hu : u ∈ env) : gGd Γ C B rt tN Lp q u := by
  obtain ⟨h1, h2⟩ := h.2.2 u hu
  refine ⟨h1, nmS sc, fun x hx => ?_, h2⟩
  rw [h.1, List.mem_reverse] at hx
  obtain ⟨v, v1, v2, v3⟩ := gSv_me.mp hx
  exact ⟨v, hL v v1, v2, v3⟩
theorem gGd.mv {env : List Nat} {sc : List gEn} {q q' : Nat → gTy} (h : eW Γ C B rt tN env sc q') (hL : ∀ v, v ∈ env → Lp v) (hq : ∀ u, u ∉ env → q' u = q u) : ∀ u, (gGd Γ C B rt tN Lp q u ∨ u ∈ env) → gGd Γ C B rt tN Lp q' u := fun u hu => by
  by_cases c : u ∈ env
  · exact gGd.e h hL c
  · rcases hu with hu | hu
    · unfold gGd at hu ⊢
      rw [hq u c]
      exact hu
    · exact absurd hu c
set_option maxHeartbeats 2000000 in
theorem gWk_td (hQ : rtQ Γ rt) (hC : 0 ≤ C) (hB : 4 ≤ B) : ∀ (t : tT) (env : List Nat) (sc : List gEn) (A : gTy) (s : gSt) (y : tY), gHq T f pp ee tE tN Γ C B rt M CB NB t env (scC sc) → gOk f pp ee tE tN t env y → eW Γ C B rt tN env sc s.1 → aH tN Γ C B rt M env sc A y t → (∀ u, u ∈ env → Lp u) → (∀ u, u ∈ wW t → Lp u) → ∀ u, (gGd Γ C B rt tN Lp s.1 u ∨ u ∈ wW t) → gGd Γ C B rt tN Lp (gWk T f pp ee tE tN t env sc A s).1.1 u
  | .leaf, env, sc, A, s, y, _, _, e, h, hL, hW, u, hu => by
    rcases hu with hu | hu
    · exact hu
    · cases hu
  | .inner g d z a b, env, sc, A, s, y, hq, ok, e, h, hL, hW, u, hu => by
    have Ia := fun env' sc' A' s' y' => gWk_w (T := T) (f := f) (pp := pp) (ee := ee) (tE := tE) (tN := tN) (M := M) (CB := CB) (NB := NB) hQ hC hB a env' sc' A' s' y'
    have Ib := fun env' sc' A' s' y' => gWk_w (T := T) (f := f) (pp := pp) (ee := ee) (tE := tE) (tN := tN) (M := M) (CB := CB) (NB := NB) hQ hC hB b env' sc' A' s' y'
    have Ja := fun env' sc' A' s' y' => gWk_td hQ hC hB a env' sc' A' s' y'
    have Jb := fun env' sc' A' s' y' => gWk_td hQ hC hB b env' sc' A' s' y'
    unfold gHq at hq
    unfold gOk at ok
    unfold wW at hW hu
    rw [gWk]
    obtain ⟨cb, hq⟩ := hq
    have hB2 : 2 ≤ B := by omega
    by_cases c1 : g = 1
    · rw [if_pos c1] at hq ok hW hu ⊢
      obtain ⟨⟨q1, ⟨q2, q3⟩, q4, q5⟩, ⟨ta, tb⟩, qa, qb⟩ := hq
      have Oa := Ia env sc A s _ qa ok.2.1 e (aH.e ta)
      rw [yOu_e ta] at Oa
      have Ta := Ja env sc A s _ qa ok.2.1 e (aH.e ta) hL (fun v hv => hW v (List.mem_append_left _ hv)) u
      generalize gWk T f pp ee tE tN a env sc A s = r1 at Oa Ta ⊢
      have e2 := (e.st Oa.2).tel q2 q3 Oa.1.2 Oa.1.1
      have hL2 : ∀ v, v ∈ env ++ [d.1 + 1] → Lp v := fun v hv => (List.mem_append.mp hv).elim (hL v) (fun w => hW v (List.mem_append_right _ (List.mem_append_left _ w)))
      have Tb := Jb (env ++ [d.1 + 1]) (gNm (.inl (d.1 + 1)) r1.2 sc) A (gTn (d.1 + 1) r1.2 r1.1) y (by rw [scC_nm]; exact qb) ok.2.2 e2 (aH.e tb) hL2 (fun v hv => hW v (List.mem_append_right _ (List.mem_append_right _ hv))) u
      refine Tb ?_
      have mv := gGd.mv (q := r1.1.1) e2 hL2 (fun v hv => if_neg (fun w => hv (List.mem_append_right _ (List.mem_singleton.mpr w)))) u
      rcases hu with hu | hu
      · exact Or.inl (mv (Or.inl (Ta (Or.inl hu))))
      · rcases List.mem_append.mp hu with hu | hu
        · exact Or.inl (mv (Or.inl (Ta (Or.inr hu))))
        · rcases List.mem_append.mp hu with hu | hu
          · exact Or.inl (mv (Or.inr (List.mem_append_right _ hu)))
          · exact Or.inr hu
    rw [if_neg c1] at hq ok hW hu ⊢
    by_cases c2 : g = 2
    · rw [if_pos c2] at hq ok hW hu ⊢
      obtain ⟨⟨q1, q2, ⟨q3, q4⟩, q5, q6, q7, q8, q9⟩, ⟨ta, tb⟩, qa, qb⟩ := hq
      obtain ⟨o1, ⟨r, o2, o3⟩, o4⟩ := ok
      dsimp only
      have HF := e.tp q2
      have ng : gNm (.inl (d.1 + 2)) (gTp (2 * d.1 + 1) (tN (d.1 + 2)) (List.range' (d.1 + 3) d.2.1) sc) sc = sc := by
        refine if_neg (fun w => gMs_1 w ?_)
        show yK (tN (d.1 + 2)) = 1
        obtain ⟨k, hk⟩ : ∃ k, d.2.1 = k + 1 := ⟨d.2.1 - 1, by omega⟩
        rw [o2, hk]
        rfl
      have eF := e.tel q3 q4 HF rfl
      rw [ng] at eF
      have P := gPa_w hQ (r := r) d.2.1 (d.1 + 3) (gTp (2 * d.1 + 1) (tN (d.1 + 2)) (List.range' (d.1 + 3) d.2.1) sc) sc (gTn (d.1 + 2) (gTp (2 * d.1 + 1) (tN (d.1 + 2)) (List.range' (d.1 + 3) d.2.1) sc) s) (env ++ [d.1 + 2]) o2 eF HF (fun m w => by injection w with w; rw [← w]) (fun _ => ⟨_, rfl⟩) q5
      generalize gPa d.2.1 (d.1 + 3) (gTp (2 * d.1 + 1) (tN (d.1 + 2)) (List.range' (d.1 + 3) d.2.1) sc) sc (gTn (d.1 + 2) (gTp (2 * d.1 + 1) (tN (d.1 + 2)) (List.range' (d.1 + 3) d.2.1) sc) s) = p at P ⊢
      obtain ⟨p1, p2, p3, p4, p5, p6, p7⟩ := P
      rw [List.append_assoc] at p1
      have hL2 : ∀ v, v ∈ env ++ ([d.1 + 2] ++ List.range' (d.1 + 3) d.2.1) → Lp v := fun v hv => (List.mem_append.mp hv).elim (hL v) (fun w => hW v ((List.mem_append.mp w).elim (fun w => List.mem_append_left _ w) (fun w => List.mem_append_right _ (List.mem_append_left _ w))))
      have hL3 : ∀ v, v ∈ env ++ [d.1 + 2] → Lp v := fun v hv => (List.mem_append.mp hv).elim (hL v) (fun w => hW v (List.mem_append_left _ w))
      have Oa := Ia (env ++ ([d.1 + 2] ++ List.range' (d.1 + 3) d.2.1)) p.1 A p.2.2 r (by rw [p5]; exact qa) o3 p1 (aH.e ta)
      rw [yOu_e ta] at Oa
      have Ta := Ja (env ++ ([d.1 + 2] ++ List.range' (d.1 + 3) d.2.1)) p.1 A p.2.2 r (by rw [p5]; exact qa) o3 p1 (aH.e ta) hL2 (fun v hv => hW v (List.mem_append_right _ (List.mem_append_right _ (List.mem_append_left _ hv)))) u
      generalize gWk T f pp ee tE tN a (env ++ ([d.1 + 2] ++ List.range' (d.1 + 3) d.2.1)) p.1 A p.2.2 = r1 at Oa Ta ⊢
      have st1 : stW Γ C B rt M tN CB NB (env ++ [d.1 + 2]) (gTn (d.1 + 2) (gTp (2 * d.1 + 1) (tN (d.1 + 2)) (List.range' (d.1 + 3) d.2.1) sc) s) p.2.2 := ⟨fun u hu => p6 u (fun w => (q5 u w).1 hu), fun x hx => Or.inl (by rw [p7] at hx; exact hx), fun x hx => Or.inl (by rw [p7] at hx; exact hx)⟩
      have st2 := st1.tr Oa.2 (fun u hu => by rw [← List.append_assoc]; exact List.mem_append_left _ hu)
      have st3 := st2.ft (l := gFi (gSy p.2.1) r1.2 p.2.1 p.1) (by rw [p3]; exact fits_w hQ hC p1 Oa.1 ⟨p3, p2⟩ p4 (by rw [p5]; exact q8) (q9 r o2))
      have eB := eW.st (s := gTn (d.1 + 2) (gTp (2 * d.1 + 1) (tN (d.1 + 2)) (List.range' (d.1 + 3) d.2.1) sc) s) eF st3
      have Tb := Jb (env ++ [d.1 + 2]) sc A _ y qb o4 eB (aH.e tb) hL3 (fun v hv => hW v (List.mem_append_right _ (List.mem_append_right _ (List.mem_append_right _ hv)))) u
      refine Tb ?_
      have mv := gGd.mv (q := s.1) p1 hL2 (fun v hv => (p6 v (fun w => hv (List.mem_append_right _ (List.mem_append_right _ w)))).trans (if_neg (fun w => hv (List.mem_append_right _ (List.mem_append_left _ (List.mem_singleton.mpr w)))))) u
      rcases hu with hu | hu
      · exact Or.inl (Ta (Or.inl (mv (Or.inl hu))))
      · rcases List.mem_append.mp hu with hu | hu
        · exact Or.inl (Ta (Or.inl (mv (Or.inr (List.mem_append_right _ (List.mem_append_left _ hu))))))
        · rcases List.mem_append.mp hu with hu | hu
          · exact Or.inl (Ta (Or.inl (mv (Or.inr (List.mem_append_right _ (List.mem_append_right _ hu))))))
          · rcases List.mem_append.mp hu with hu | hu
            · exact Or.inl (Ta (Or.inr hu))
            · exact Or.inr hu
    rw [if_neg c2] at hq ok hW hu ⊢
    by_cases c3 : g = 3
    · rw [if_pos c3] at hq ok hW hu ⊢
      obtain ⟨⟨q1, q2, q3, q4⟩, ta, qa⟩ := hq
      obtain ⟨o1, r, o2, o3⟩ := ok
      dsimp only
      have HF := e.tp q1
      have nw : d.1 + 1 ∉ env := q1.2.2.2.2 _ (List.mem_singleton_self _)
      have eE : tE d.1 = yA (tN (d.1 + 1)) r := o1.trans o2
      have kF : yK (gSy (gTp (2 * d.1) (tE d.1) [d.1 + 1] sc)) = 1 := by show yK (tE d.1) = 1; rw [eE]; rfl
      have sy := gSy_tk (A := gTp (2 * d.1) (tE d.1) [d.1 + 1] sc) rfl
      rw [show gSy (gTp (2 * d.1) (tE d.1) [d.1 + 1] sc) = yA (tN (d.1 + 1)) r from eE] at sy
      have e2 := e.tel nw q2 (HF.tk kF) sy.1
      have hL2 : ∀ v, v ∈ env ++ [d.1 + 1] → Lp v := fun v hv => (List.mem_append.mp hv).elim (hL v) (fun w => hW v (List.mem_append_left _ w))
      refine Ja (env ++ [d.1 + 1]) (gNm (.inl (d.1 + 1)) (gTk (gTp (2 * d.1) (tE d.1) [d.1 + 1] sc)) sc) A (gTn (d.1 + 1) (gTk (gTp (2 * d.1) (tE d.1) [d.1 + 1] sc)) s) r (by rw [scC_nm]; exact qa) o3 e2 (aH.e ta) hL2 (fun v hv => hW v (List.mem_append_right _ hv)) u ?_
      have mv := gGd.mv (q := s.1) e2 hL2 (fun v hv => if_neg (fun w => hv (List.mem_append_right _ (List.mem_singleton.mpr w)))) u
      rcases hu with hu | hu
      · exact Or.inl (mv (Or.inl hu))
      · rcases List.mem_append.mp hu with hu | hu
        · exact Or.inl (mv (Or.inr (List.mem_append_right _ hu)))
        · exact Or.inr hu
    rw [if_neg c3] at hq ok hW hu ⊢
    by_cases c4 : g = 4
    · rw [if_pos c4] at hq ok ⊢
      rw [if_pos (Or.inl c4)] at hW hu
      obtain ⟨⟨q1, q2⟩, ⟨d', z', a', b', hb⟩, qb⟩ := hq
      have hT := e.tp q1
      exact Jb env (.inr (.inl (a, env), true) :: sc) (gTp (2 * d.1) (tE d.1) [] sc) s y qb ok.2.2 (e.cd _) (by
        rw [hb]
        exact ⟨fun _ => ⟨⟨ok.1, hT⟩, gTp_ns rfl, by rw [← ok.1]; exact q2, _, _, rfl⟩, fun w => absurd w (by decide)⟩) hL hW u hu
    rw [if_neg c4] at hq ok ⊢
    by_cases c5 : g = 5
    · rw [if_pos c5] at hq ok ⊢
      rw [if_pos (Or.inr (Or.inl c5))] at hW hu
      obtain ⟨q1, tb, qb⟩ := hq
      exact Jb env (.inr (.inl (a, env), true) :: sc) A (gNe (sc, d.1, 0, a, [], env, 0) s) y qb ok.2 e (aH.e tb) hL hW u hu
    rw [if_neg c5] at hq ok ⊢
    by_cases c6 : g = 6
    · rw [if_pos c6] at hq ok ⊢
      rw [if_neg (by omega), if_pos (Or.inl c6)] at hW hu
      obtain ⟨q1, ta, qa⟩ := hq
      exact Ja env sc A (gNe (sc, d.1 + 2, 3, .leaf, d.2.2.2.1.2, env, gNu f pp ee env (d.1 + 1)) s) y qa ok.2.2 e (aH.e ta) hL hW u hu
    rw [if_neg c6] at hq ok ⊢
    -- nothing is told where no E stands within
    have no : ∀ q : Nat → gTy, q = s.1 → ¬ (g = 4 ∨ g = 5 ∨ g = 33 ∨ g = 35) → ¬ (g = 6 ∨ g = 15 ∨ g = 16) → g ≠ 19 → ¬ (g = 31 ∨ g = 34) → gGd Γ C B rt tN Lp q u := fun q hs n1 n2 n3 n4 => by
      rw [if_neg n1, if_neg n2, if_neg n3, if_neg n4] at hu
      rw [hs]
      rcases hu with hu | hu
      · exact hu
      · cases hu
    by_cases c7 : g = 7
    · rw [if_pos c7]
      exact no _ rfl (by omega) (by omega) (by omega) (by omega)
    rw [if_neg c7] at hq ok ⊢
    by_cases c8 : g = 8 ∨ g = 9
    · rw [if_pos c8]
      exact no _ rfl (by omega) (by omega) (by omega) (by omega)
    rw [if_neg c8] at hq ok ⊢
    by_cases c10 : g = 10
    · rw [if_pos c10]
      exact no _ rfl (by omega) (by omega) (by omega) (by omega)
    rw [if_neg c10] at hq ok ⊢
    by_cases c11 : g = 11 ∨ g = 12 ∨ g = 13
    · rw [if_pos c11]
      dsimp only
      by_cases w : g = 11
      · rw [if_pos w]
        exact no _ rfl (by omega) (by omega) (by omega) (by omega)
      · rw [if_neg w]
        exact no _ rfl (by omega) (by omega) (by omega) (by omega)
    rw [if_neg c11] at hq ok ⊢
    by_cases c14 : g = 14
    · rw [if_pos c14]
      exact no _ rfl (by omega) (by omega) (by omega) (by omega)
    rw [if_neg c14] at hq ok ⊢
    by_cases c15 : g = 15
    · rw [if_pos c15] at hq ok ⊢
      rw [if_neg (by omega), if_pos (Or.inr (Or.inl c15))] at hW hu
      obtain ⟨q1, ta, qa⟩ := hq
      exact Ja env sc (s.1 (gNu f pp ee env d.1)) s _ qa ok.2 e (aH.a ta (e.2.2 _ q1)) hL hW u hu
    rw [if_neg c15] at hq ok ⊢
    by_cases c16 : g = 16
    · rw [if_pos c16] at hq ok ⊢
      rw [if_neg (by omega), if_pos (Or.inr (Or.inr c16))] at hW hu
      exact Ja env sc A s y hq.2 ok e (aH.e hq.1) hL hW u hu
    rw [if_neg c16] at hq ok ⊢
    by_cases c17 : g = 17
    · rw [if_pos c17]
      exact no _ rfl (by omega) (by omega) (by omega) (by omega)
    rw [if_neg c17] at hq ok ⊢
    have one : ∀ c : Int, (c = 1 ∨ c = -1) → ∀ u, u ∈ env → tN u = yB 3 → wfT Γ C B rt (nmS sc) (gEq (yB 3) (some (.inl u, 1), c)) := fun c hc u hu ht => by
      have mu : Sum.inl u ∈ nmS sc := e.me.mpr (gSv_me.mpr ⟨u, hu, by rw [ht]; rfl, rfl⟩)
      refine gEq_w (by decide) (fun x e' w => ?_) ⟨⟨?_, ?_⟩, ?_, ?_⟩ (fun x e' w => ?_)
      · injection w with w; injection w with w1 w2
        rw [← w1, ← w2]
        exact ⟨scW.nm _ e.2.1 _ mu, Or.inl rfl⟩
      · show -1125899906842624 ≤ c; omega
      · show c ≤ 1125899906842624; omega
      · show -B ≤ 2 * c - 2; omega
      · show 2 * c + 2 ≤ B; omega
      · injection w with w; injection w with w1 w2
        rw [← w1]
        exact mu
    by_cases c18 : g = 18
    · rw [if_pos c18]
      exact no _ rfl (by omega) (by omega) (by omega) (by omega)
    rw [if_neg c18] at hq ok ⊢
    by_cases c19 : g = 19
    · rw [if_pos c19] at hq ok ⊢
      rw [if_neg (by omega), if_neg (by omega), if_pos c19] at hW hu
      obtain ⟨⟨q1, q2, ⟨q3, q4, q5, q6⟩, ⟨q7, q7'⟩, q8, q9⟩, ⟨ta, tb⟩, qa, qb⟩ := hq
      obtain ⟨o1, o2, ⟨o3, o4⟩, o5, o6⟩ := ok
      dsimp only
      have hT := e.tp q1
      have LL := one (-1) (Or.inr rfl) _ q2 o2
      have Oa := Ia env (.inr (.inr (gNu f pp ee env (d.1 + 1)), true) :: sc) A s y qa o5 e (aH.e ta)
      rw [yOu_e ta] at Oa
      have Ta := Ja env (.inr (.inr (gNu f pp ee env (d.1 + 1)), true) :: sc) A s y qa o5 e (aH.e ta) hL (fun v hv => hW v (List.mem_append_left _ hv)) u
      generalize gWk T f pp ee tE tN a env (.inr (.inr (gNu f pp ee env (d.1 + 1)), true) :: sc) A s = r1 at Oa Ta ⊢
      have st1 := Oa.2.ft (l := gFi (tE d.1) r1.2 (gTp (2 * d.1) (tE d.1) [] sc) (.inr (.inr (gNu f pp ee env (d.1 + 1)), true) :: sc)) (fits_w hQ hC (e.cd (.inr (gNu f pp ee env (d.1 + 1)), true)) (by rw [o1]; exact Oa.1) ⟨rfl, hT⟩ (gTp_ns rfl) q8 q7)
      have e1 : eW Γ C B rt tN env (.inr (.inr (gNu f pp ee env (d.1 + 1)), false) :: sc) (gFt (gFi (tE d.1) r1.2 (gTp (2 * d.1) (tE d.1) [] sc) (.inr (.inr (gNu f pp ee env (d.1 + 1)), true) :: sc)) r1.1).1 := eW.st (s := s) e st1
      have e2 := e1.tel (w := d.2.1) (A := gPl (yB 0)) q3 q5 (gPl_w (by decide)) o3.symm
      have e3 := e2.tel (w := d.2.1 + 1) (A := gEq (yB 3) (some (.inl (gNu f pp ee env (d.1 + 1)), 1), -1)) (fun w => by
        rcases List.mem_append.mp w with w | w
        · exact q4 w
        · have := List.mem_singleton.mp w; omega) q6 (LL.mo (nm_sub _ _ _)) o4.symm
      rw [List.append_assoc] at e3
      have hL2 : ∀ v, v ∈ env ++ [d.2.1, d.2.1 + 1] → Lp v := fun v hv => (List.mem_append.mp hv).elim (hL v) (fun w => hW v (List.mem_append_right _ (List.mem_append_left _ w)))
      refine Jb (env ++ [d.2.1, d.2.1 + 1]) (gNm (.inl (d.2.1 + 1)) (gEq (yB 3) (some (.inl (gNu f pp ee env (d.1 + 1)), 1), -1)) (gNm (.inl d.2.1) (gPl (yB 0)) (.inr (.inr (gNu f pp ee env (d.1 + 1)), false) :: sc))) A (gTn (d.2.1 + 1) (gEq (yB 3) (some (.inl (gNu f pp ee env (d.1 + 1)), 1), -1)) (gTn d.2.1 (gPl (yB 0)) (gFt (gFi (tE d.1) r1.2 (gTp (2 * d.1) (tE d.1) [] sc) (.inr (.inr (gNu f pp ee env (d.1 + 1)), true) :: sc)) r1.1))) y (by rw [scC_nm, scC_nm]; exact qb) o6 e3 (aH.e tb) hL2 (fun v hv => hW v (List.mem_append_right _ (List.mem_append_right _ hv))) u ?_
      have mv := gGd.mv (q := r1.1.1) e3 hL2 (fun v hv => (if_neg (fun w => hv (List.mem_append_right _ (List.mem_cons_of_mem _ (List.mem_singleton.mpr w))))).trans (if_neg (fun w => hv (List.mem_append_right _ (by rw [w]; exact List.mem_cons_self ..))))) u
      rcases hu with hu | hu
      · exact Or.inl (mv (Or.inl (Ta (Or.inl hu))))
      · rcases List.mem_append.mp hu with hu | hu
        · exact Or.inl (mv (Or.inl (Ta (Or.inr hu))))
        · rcases List.mem_append.mp hu with hu | hu
          · exact Or.inl (mv (Or.inr (List.mem_append_right _ hu)))
          · exact Or.inr hu
    rw [if_neg c19] at hq ok ⊢
    by_cases c31 : g = 31
    · rw [if_pos c31] at hq ok ⊢
      rw [if_neg (by omega), if_neg (by omega), if_neg (by omega), if_pos (Or.inl c31)] at hW hu
      obtain ⟨q1, ⟨ta, tb⟩, qa, qb⟩ := hq
      obtain ⟨⟨hy, hA⟩, hns, hM, c, r, hsc⟩ := h.1 c31
      dsimp only
      have ef : scC (gFl sc) = cFl (scC sc) := by
        rw [hsc]
        obtain ⟨c, hh⟩ := c
        rfl
      have Oa := Ia env sc A s y qa ok.1 e (aH.e ta)
      rw [yOu_e ta] at Oa
      have Ta := Ja env sc A s y qa ok.1 e (aH.e ta) hL (fun v hv => hW v (List.mem_append_left _ hv)) u
      generalize gWk T f pp ee tE tN a env sc A s = r1 at Oa Ta ⊢
      have st1 := Oa.2.ft (l := gFi (gSy A) r1.2 A sc) (by rw [hy]; exact fits_w hQ hC e Oa.1 ⟨hy, hA⟩ hns cb hM)
      have e1 : eW Γ C B rt tN env (gFl sc) (gFt (gFi (gSy A) r1.2 A sc) r1.1).1 := (eW.st (s := s) e st1).fl
      refine Jb env (gFl sc) A (gFt (gFi (gSy A) r1.2 A sc) r1.1) y (by rw [ef]; exact qb) ok.2 e1 (aH.e tb) hL (fun v hv => hW v (List.mem_append_right _ hv)) u ?_
      rcases hu with hu | hu
      · exact Or.inl (Ta (Or.inl hu))
      · rcases List.mem_append.mp hu with hu | hu
        · exact Or.inl (Ta (Or.inr hu))
        · exact Or.inr hu
    rw [if_neg c31] at hq ok ⊢
    by_cases c33 : g = 33
    · rw [if_pos c33] at hq ok ⊢
      rw [if_pos (Or.inr (Or.inr (Or.inl c33)))] at hW hu
      obtain ⟨⟨q1, q2, q3⟩, tb, qb⟩ := hq
      obtain ⟨o1, ⟨o2, -⟩, o4⟩ := ok
      obtain ⟨hy, hA⟩ := h.2 (Or.inl c33)
      have k1 : yK (gSy A) = 1 := by rw [hy]; exact yIs_1 o1
      obtain ⟨m, em, -⟩ := hA.fn k1
      have sy := gSy_tk em
      rw [hy] at sy
      have lA : yL (gSy A) = gSk f pp ee tN env d.2.2.2.1.2 := by rw [hy]; exact o2
      have nx : ∀ A', (gSy A' = yR y ∧ wfT Γ C B rt (nmS sc) A') → gGd Γ C B rt tN Lp (gWk T f pp ee tE tN b env sc A' (gFt (gFi (yL (gSy A)) (gSu T f pp ee env d.2.2.2.1.2 s) (gTk A) sc) s)).1.1 u := fun A' hA' => Jb env sc A' (gFt (gFi (yL (gSy A)) (gSu T f pp ee env d.2.2.2.1.2 s) (gTk A) sc) s) (yR y) qb o4 e (aH.a tb hA') hL hW u hu
      by_cases w : gMs (yL (gSy A)) = true
      · rw [if_pos w]
        obtain ⟨t1, -, t2, t3⟩ := q2 (by rw [← lA]; exact w)
        exact nx _ ⟨sy.2, hA.pu hQ k1 (fun _ hs => hs) w t1 t2 (fun x e' hx => e.me.mpr (t3 x e' hx))⟩
      · rw [if_neg w]
        exact nx _ ⟨sy.2, hA.an hQ k1 (fun _ hs => hs) (fun w' => absurd w' w)⟩
    rw [if_neg c33] at hq ok ⊢
    by_cases c34 : g = 34
    · rw [if_pos c34] at hq ok ⊢
      rw [if_neg (by omega), if_neg (by omega), if_neg (by omega), if_pos (Or.inr c34)] at hW hu
      obtain ⟨q1, ⟨ta, tb⟩, qa, qb⟩ := hq
      obtain ⟨o1, o2, o3⟩ := ok
      obtain ⟨hy, hA⟩ := h.2 (Or.inr (Or.inl c34))
      have k1 : yK (gSy A) = 1 := by rw [hy]; exact yIs_1 o1
      obtain ⟨m, em, -⟩ := hA.fn k1
      have sy := gSy_tk em
      rw [hy] at sy
      obtain ⟨m1, m2⟩ := q1 _ o2
      dsimp only
      have Oa := Ia env sc A s _ qa o2 e (aH.e ta)
      rw [yOu_e ta] at Oa
      have Ta := Ja env sc A s _ qa o2 e (aH.e ta) hL (fun v hv => hW v (List.mem_append_left _ hv)) u
      generalize gWk T f pp ee tE tN a env sc A s = r1 at Oa Ta ⊢
      have st1 := Oa.2.ft (l := gFi (yL (gSy A)) r1.2 (gTk A) sc) (by
        rw [hy]
        exact fits_w hQ hC e Oa.1 ⟨sy.1, hA.tk k1⟩ (fun m' w => by
          unfold gTk at w
          rw [em] at w
          injection w with w
          rw [← w]
          rfl) cb m2)
      refine Jb env sc (gAn A) (gFt (gFi (yL (gSy A)) r1.2 (gTk A) sc) r1.1) (yR y) qb o3 (eW.st (s := s) e st1) (aH.a tb ⟨sy.2, hA.an hQ k1 (fun _ hs => hs) (fun w => by rw [hy, m1] at w; cases w)⟩) hL (fun v hv => hW v (List.mem_append_right _ hv)) u ?_
      rcases hu with hu | hu
      · exact Or.inl (Ta (Or.inl hu))
      · rcases List.mem_append.mp hu with hu | hu
        · exact Or.inl (Ta (Or.inr hu))
        · exact Or.inr hu
    rw [if_neg c34] at hq ok ⊢
    obtain ⟨c35, tb, qb⟩ := hq
    obtain ⟨o1, o2, o3⟩ := ok
    rw [if_pos c35]
    rw [if_pos (Or.inr (Or.inr (Or.inr c35)))] at hW hu
    obtain ⟨hy, hA⟩ := h.2 (Or.inr (Or.inr c35))
    have k1 : yK (gSy A) = 1 := by rw [hy]; exact yIs_1 o1
    obtain ⟨m, em, -⟩ := hA.fn k1
    have sy := gSy_tk em
    rw [hy] at sy
    exact Jb env sc (gAn A) s (yR y) qb o3 e (aH.a tb ⟨sy.2, hA.an hQ k1 (fun _ hs => hs) (fun w => by rw [hy, o2] at w; cases w)⟩) hL hW u hu
end GTD
