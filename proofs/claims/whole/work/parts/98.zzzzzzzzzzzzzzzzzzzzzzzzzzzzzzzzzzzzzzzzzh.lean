/-! CAPACITIES: gMx and gCp of a PROGRAM -/
section GCQ
variable {kk f pp ee : Nat → Int32} {cnt : Nat} {tE tN : Nat → tY} {L env : List Nat}
theorem mSd_1 (tN : Nat → tY) (env : List Nat) (u : Nat) : mSd tN (env ++ [u]) = mSd tN env + yM1 (tN u) := by
  rw [mSd_ap, mSd_c]
  rfl
theorem mSd_pm : ∀ (q w : Nat), mSd tN (List.range' w q) = yPm tN q w
  | 0, _ => rfl
  | q + 1, w => by
    show mSd tN (List.range' w (q + 1)) = yM1 (tN w) + yPm tN q (w + 1)
    rw [← mSd_pm q (w + 1), List.range'_succ, mSd_c]
    rfl
theorem yDp_lv : ∀ y : tY, yDp y + 1 ≤ yLv y
  | .leaf => Nat.le_refl _
  | .inner k u v l r => by
    have i1 := yDp_lv l
    have i2 := yDp_lv r
    show (if k = 0 then max (yDp l) (yDp r) + 1 else 0) + 1 ≤ if k = 0 then yLv l + yLv r else 1
    by_cases c : k = 0
    · rw [if_pos c, if_pos c]
      have : max (yDp l) (yDp r) ≤ yLv l + yLv r - 2 := Nat.max_le.mpr ⟨by omega, by omega⟩
      omega
    · rw [if_neg c, if_neg c]
      exact Nat.le_refl _
theorem gCp_of (hN : ∀ u, ySx (tN u) ≤ 48 ∧ yDp (tN u) ≤ 100) : ∀ (t : tT) (l : Nat), tWf kk cnt t l → tGd kk cnt t → ∀ env y, gOk f pp ee tE tN t env y → rEv L t env → tR1 t → (∀ x, x ∈ tLs tE tN t → ySx x.2.1 ≤ 48 ∧ yDp x.2.1 ≤ 100) → gCp tE tN t (mSd tN env)
  | .leaf, _, _, _, _, _, _, _, _, _ => trivial
  | .inner g d z a b, l, wf, gd, env, y, hg, hev, r1, hL => by
    have Ia := gCp_of hN a
    have Ib := gCp_of hN b
    have e12 : env.length ≤ 12 := hev.1.1
    have sm := mSd_le tN env
    obtain ⟨-, -, ⟨-, g14, g6⟩, gda, gdb⟩ := gd
    have no : ∀ {A : Prop}, ¬ (g = 1 ∨ g = 2 ∨ g = 3 ∨ g = 4 ∨ g = 19) → (g = 1 ∨ g = 2 ∨ g = 3 ∨ g = 4 ∨ g = 19 → A) := fun h z => absurd z h
    have n2 : ∀ {A : Prop}, ¬ g = 2 → (g = 2 → A) := fun h z => absurd z h
    rcases wf with ⟨rfl, rfl, _, wa, wb⟩ | ⟨rfl, _, wb, w⟩ | ⟨_, w⟩
    · have hg : gOk f pp ee tE tN a env y ∧ gOk f pp ee tE tN b env y := hg
      have hev : rEv L a env ∧ rEv L b env := hev.2
      have hL : ∀ x, x ∈ tLs tE tN a ++ tLs tE tN b → ySx x.2.1 ≤ 48 ∧ yDp x.2.1 ≤ 100 := hL
      exact ⟨no (by decide), n2 (by decide), Ia 0 wa gda env y hg.1 hev.1 r1.2.1 (fun x hx => hL x (List.mem_append_left _ hx)), Ib 0 wb gdb env y hg.2 hev.2 r1.2.2 (fun x hx => hL x (List.mem_append_right _ hx))⟩
    · rcases w with ⟨rfl, _, ha⟩ | ⟨rfl, _, wa⟩ | ⟨rfl, _, ha, _⟩
      · have hg : yIs y ∧ (yL y = gSk f pp ee tN env d.2.2.2.1.2 ∧ (d.2.1 = 1 ∨ isN d.2.2.2.1.2 = false → gSo f pp ee tN env d.2.2.2.1.2)) ∧ gOk f pp ee tE tN b env (yR y) := hg
        have hev : rEv L a env ∧ rEv L b env := hev.2
        subst ha
        exact ⟨no (by decide), n2 (by decide), trivial, Ib 2 wb gdb env _ hg.2.2 hev.2 r1.2.2 hL⟩
      · have hg : yIs y ∧ gOk f pp ee tE tN a env (yL y) ∧ gOk f pp ee tE tN b env (yR y) := hg
        have hev : rEv L a env ∧ rEv L b env := hev.2
        have hL : ∀ x, x ∈ tLs tE tN a ++ tLs tE tN b → ySx x.2.1 ≤ 48 ∧ yDp x.2.1 ≤ 100 := hL
        exact ⟨no (by decide), n2 (by decide), Ia 0 wa gda env _ hg.2.1 hev.1 r1.2.1 (fun x hx => hL x (List.mem_append_left _ hx)), Ib 2 wb gdb env _ hg.2.2 hev.2 r1.2.2 (fun x hx => hL x (List.mem_append_right _ hx))⟩
      · have hg : yIs y ∧ yL y = yB 1 ∧ gOk f pp ee tE tN b env (yR y) := hg
        have hev : rEv L a env ∧ rEv L b env := hev.2
        subst ha
        exact ⟨no (by decide), n2 (by decide), trivial, Ib 2 wb gdb env _ hg.2.2 hev.2 r1.2.2 hL⟩
    · rcases w with ⟨rfl, _, wa, wb⟩ | ⟨rfl, ⟨w1, w2, _⟩, wa, wb⟩ | ⟨rfl, _, wa⟩ | ⟨rfl, wc, wb⟩ | ⟨rfl, wc, wb⟩ | ⟨rfl, _, _, wa⟩ | ⟨h7, _, _, hab⟩ | ⟨h7, _, hab⟩ | ⟨h7, _, hab⟩ | ⟨rfl, _⟩ | ⟨rfl, _, wa⟩ | ⟨rfl, _, wa, hb⟩ | ⟨rfl, _⟩ | ⟨rfl, _, wa, wb⟩
      · have hg : tE d.1 = y ∧ gOk f pp ee tE tN a env (tN (d.1 + 1)) ∧ gOk f pp ee tE tN b (env ++ [d.1 + 1]) y := hg
        have hev : rEv L a env ∧ rEv L b (env ++ [d.1 + 1]) := hev.2
        have hL : ∀ x, x ∈ (2 * d.1, tE d.1, ([] : List Nat)) :: (tLs tE tN a ++ tLs tE tN b) → ySx x.2.1 ≤ 48 ∧ yDp x.2.1 ≤ 100 := hL
        have t0 : ySx (tE d.1) ≤ 48 ∧ yDp (tE d.1) ≤ 100 := hL (2 * d.1, tE d.1, []) (List.mem_cons_self ..)
        have B := Ib 0 wb gdb _ y hg.2.2 hev.2 r1.2.2 (fun x hx => hL x (List.mem_cons_of_mem _ (List.mem_append_right _ hx)))
        rw [mSd_1] at B
        exact ⟨fun _ => ⟨by omega, t0.2⟩, n2 (by decide), Ia 0 wa gda env _ hg.2.1 hev.1 r1.2.1 (fun x hx => hL x (List.mem_cons_of_mem _ (List.mem_append_left _ hx))), B⟩
      · have hg : tE d.1 = y ∧ (∃ r, tN (d.1 + 2) = gFn tN d.2.1 (d.1 + 3) r ∧ gOk f pp ee tE tN a (env ++ ([d.1 + 2] ++ List.range' (d.1 + 3) d.2.1)) r) ∧ gOk f pp ee tE tN b (env ++ [d.1 + 2]) y := hg
        obtain ⟨hy, ⟨rr, hf, ga⟩, gb⟩ := hg
        have hev : rEv L a (env ++ ([d.1 + 2] ++ List.range' (d.1 + 3) d.2.1)) ∧ rEv L b (env ++ [d.1 + 2]) := hev.2
        have hL : ∀ x, x ∈ (2 * d.1, tE d.1, ([] : List Nat)) :: (2 * d.1 + 1, tN (d.1 + 2), List.range' (d.1 + 3) d.2.1) :: (tLs tE tN a ++ tLs tE tN b) → ySx x.2.1 ≤ 48 ∧ yDp x.2.1 ≤ 100 := hL
        have t0 : ySx (tE d.1) ≤ 48 ∧ yDp (tE d.1) ≤ 100 := hL (2 * d.1, tE d.1, []) (List.mem_cons_self ..)
        have t1 := hN (d.1 + 2)
        have q1 : 1 ≤ d.2.1 := r1.1 rfl
        have fm : yM1 (tN (d.1 + 2)) = 0 := by
          have := (gFn_t (tN := tN) (r := rr) d.2.1 (d.1 + 3) 0 (by omega)).1
          have this : yIs (gFn tN d.2.1 (d.1 + 3) rr) := this
          rw [← hf] at this
          have hk := yIs_k this
          unfold yM1 gMs
          rw [hk]
          rfl
        have e1 : mSd tN (env ++ [d.1 + 2]) = mSd tN env := by rw [mSd_1, fm]; rfl
        have A := Ia 0 wa gda _ _ ga hev.1 r1.2.1 (fun x hx => hL x (List.mem_cons_of_mem _ (List.mem_cons_of_mem _ (List.mem_append_left _ hx))))
        have B := Ib 0 wb gdb _ y gb hev.2 r1.2.2 (fun x hx => hL x (List.mem_cons_of_mem _ (List.mem_cons_of_mem _ (List.mem_append_right _ hx))))
        rw [← List.append_assoc, mSd_ap, e1, mSd_pm] at A
        rw [e1] at B
        exact ⟨fun _ => ⟨by omega, t0.2⟩, fun _ => ⟨q1, by omega⟩, A, B⟩
      · have hg : tE d.1 = y ∧ ∃ r, y = yA (tN (d.1 + 1)) r ∧ gOk f pp ee tE tN a (env ++ [d.1 + 1]) r := hg
        obtain ⟨hy, r, hr, ga⟩ := hg
        have hev : rEv L a (env ++ [d.1 + 1]) := hev.2
        have hL : ∀ x, x ∈ (2 * d.1, tE d.1, [d.1 + 1]) :: tLs tE tN a → ySx x.2.1 ≤ 48 ∧ yDp x.2.1 ≤ 100 := hL
        have t0 : ySx (tE d.1) ≤ 48 ∧ yDp (tE d.1) ≤ 100 := hL (2 * d.1, tE d.1, [d.1 + 1]) (List.mem_cons_self ..)
        have A := Ia 0 wa gda _ _ ga hev r1.2.1 (fun x hx => hL x (List.mem_cons_of_mem _ hx))
        rw [mSd_1] at A
        have hb := g6 (Or.inl rfl)
        subst hb
        exact ⟨fun _ => ⟨by omega, t0.2⟩, n2 (by decide), A, trivial⟩
      · have hg : tE d.1 = y ∧ gCk f pp ee tN env a ∧ gOk f pp ee tE tN b env y := hg
        have hev : rEv L b env := hev.2
        have hL : ∀ x, x ∈ (2 * d.1, tE d.1, ([] : List Nat)) :: tLs tE tN b → ySx x.2.1 ≤ 48 ∧ yDp x.2.1 ≤ 100 := hL
        have t0 : ySx (tE d.1) ≤ 48 ∧ yDp (tE d.1) ≤ 100 := hL (2 * d.1, tE d.1, []) (List.mem_cons_self ..)
        exact ⟨fun _ => ⟨by omega, t0.2⟩, n2 (by decide), trivial, Ib 1 wb gdb env y hg.2.2 hev r1.2.2 (fun x hx => hL x (List.mem_cons_of_mem _ hx))⟩
      · have hg : gCk f pp ee tN env a ∧ gOk f pp ee tE tN b env y := hg
        have hev : rEv L b env := hev.2
        exact ⟨no (by decide), n2 (by decide), trivial, Ib 0 wb gdb env y hg.2 hev r1.2.2 hL⟩
      · have hev : rEv L a env ∧ rEv L b env := hev.2
        have hb := g6 (Or.inr (Or.inl rfl))
        subst hb
        exact ⟨no (by decide), n2 (by decide), Ia 0 wa gda env y hg.2.2 hev.1 r1.2.1 hL, trivial⟩
      · obtain ⟨ha, hb⟩ := hab
        subst ha
        subst hb
        rcases h7 with rfl | rfl <;> exact ⟨no (by decide), n2 (by decide), trivial, trivial⟩
      · obtain ⟨ha, hb⟩ := hab
        subst ha
        subst hb
        rcases h7 with rfl | rfl | rfl <;> exact ⟨no (by decide), n2 (by decide), trivial, trivial⟩
      · obtain ⟨ha, hb⟩ := hab
        subst ha
        subst hb
        rcases h7 with rfl | rfl | rfl <;> exact ⟨no (by decide), n2 (by decide), trivial, trivial⟩
      · obtain ⟨ha, hb⟩ := g14 (Or.inl rfl)
        subst ha
        subst hb
        exact ⟨no (by decide), n2 (by decide), trivial, trivial⟩
      · have hev : rEv L a env ∧ rEv L b env := hev.2
        have hb := g6 (Or.inr (Or.inr rfl))
        subst hb
        exact ⟨no (by decide), n2 (by decide), Ia 2 wa gda env _ hg.2 hev.1 r1.2.1 hL, trivial⟩
      · have hev : rEv L a env ∧ rEv L b env := hev.2
        subst hb
        exact ⟨no (by decide), n2 (by decide), Ia 0 wa gda env y hg hev.1 r1.2.1 hL, trivial⟩
      · obtain ⟨ha, hb⟩ := g14 (Or.inr rfl)
        subst ha
        subst hb
        exact ⟨no (by decide), n2 (by decide), trivial, trivial⟩
      · have hg : tE d.1 = y ∧ tN (gNu f pp ee env (d.1 + 1)) = yB 3 ∧ (tN d.2.1 = yB 0 ∧ tN (d.2.1 + 1) = yB 3) ∧ gOk f pp ee tE tN a env y ∧ gOk f pp ee tE tN b (env ++ [d.2.1, d.2.1 + 1]) y := hg
        have hev : rEv L a env ∧ rEv L b (env ++ [d.2.1, d.2.1 + 1]) := hev.2
        have hL : ∀ x, x ∈ (2 * d.1, tE d.1, ([] : List Nat)) :: (tLs tE tN a ++ tLs tE tN b) → ySx x.2.1 ≤ 48 ∧ yDp x.2.1 ≤ 100 := hL
        have t0 : ySx (tE d.1) ≤ 48 ∧ yDp (tE d.1) ≤ 100 := hL (2 * d.1, tE d.1, []) (List.mem_cons_self ..)
        have B := Ib 0 wb gdb _ y hg.2.2.2.2 hev.2 r1.2.2 (fun x hx => hL x (List.mem_cons_of_mem _ (List.mem_append_right _ hx)))
        have e2 : mSd tN (env ++ [d.2.1, d.2.1 + 1]) = mSd tN env + 2 := by
          rw [show env ++ [d.2.1, d.2.1 + 1] = (env ++ [d.2.1]) ++ [d.2.1 + 1] by rw [List.append_assoc]; rfl, mSd_1, mSd_1, hg.2.2.1.1, hg.2.2.1.2]
          rfl
        rw [e2] at B
        exact ⟨fun _ => ⟨by omega, t0.2⟩, n2 (by decide), Ia 0 wa gda env y hg.2.2.2.1 hev.1 r1.2.1 (fun x hx => hL x (List.mem_cons_of_mem _ (List.mem_append_left _ hx))), B⟩
theorem gIs_ss : ∀ (is : List (Nat × Nat)) (sc : List gEn) (s : gSt), (∀ y, y ∈ is → tN y.1 = yB y.2) → (gSs (gIs is sc s).1).length = (gSs sc).length + mSd tN (is.map Prod.fst)
  | [], _, _, _ => rfl
  | y :: r, sc, s, h => by
    have I := gIs_ss r (gNm (.inl y.1) (gPl (yB y.2)) sc) (gTn y.1 (gPl (yB y.2)) s) (fun z hz => h z (List.mem_cons_of_mem _ hz))
    have e : gSy (gPl (yB y.2)) = yB y.2 := rfl
    show (gSs (gIs r (gNm (.inl y.1) (gPl (yB y.2)) sc) (gTn y.1 (gPl (yB y.2)) s)).1).length = _
    rw [I, gSs_nm, e, List.map_cons, show y.1 :: r.map Prod.fst = [y.1] ++ r.map Prod.fst from rfl, mSd_ap]
    have e2 : mSd tN [y.1] = yM1 (yB y.2) := by
      have := mSd_1 tN [] y.1
      rw [List.nil_append, h y (List.mem_cons_self ..)] at this
      rw [this]
      exact Nat.zero_add _
    rw [e2]
    omega
end GCQ
section TXM
variable {T len cnt j N S P Q x0 : Nat} {kk pp ee f fc : Nat → Int32} {xs : List tQ} {is : List (Nat × Nat)} {e : tT} {α : Nat → tY} {τ : zSt} {g' : gG} {ρ' : Nat → tY}
/-- **a PROGRAM's TEMPLATES** -/
theorem tx_tl (hT : 2010 ≤ T) (hp : pgT T len cnt j kk pp ee f fc xs is e α) (hR : pgR T len cnt kk pp ee f xs is e α N S P Q x0 g' ρ' τ) : ∃ ρ, tlH ρ (pTE f pp ee is e α) (pTN f pp ee is e α) (gUn (pTN f pp ee is e α) e (is.map Prod.fst)) (gLt e) (tW e) (tLs (pTE f pp ee is e α) (pTN f pp ee is e α) e) := by
  obtain ⟨-, -, -, w0, nd, gok⟩ := tx_1 hT hp hR.2.1
  have hp' := hp
  obtain ⟨y1, y2⟩ := tx_yg hp hR
  obtain ⟨ρ, p1, p2⟩ := tx_rp hT hp hR.2.1
  have l60 := tx_lv hp
  obtain ⟨-, -, -, -, -, ⟨⟨g1, g2, ⟨i0, g3⟩, -⟩, tgd, -⟩, -⟩ := hp
  have ty := tLs_ty (tE := pTE f pp ee is e α) (tN := pTN f pp ee is e α) e 0 g2 tgd
  refine ⟨ρ, gUn_tl (tE := pTE f pp ee is e α) (tN := pTN f pp ee is e α) e 0 (is.map Prod.fst) _ g2 gok, (tLs_nd e i0 cnt g3).2, (List.nodup_append.mp nd).2.1, l60, fun x hx => ?_, fun x hx z hz => ?_⟩
  · rcases ty x hx with ⟨u, q1, q2⟩ | ⟨u, q1, q2⟩
    · rw [q2]; exact y1 u q1
    · rw [q2]; exact y2 u (List.mem_append_right _ q1)
  · rcases ty x hx with ⟨u, q1, q2⟩ | ⟨u, q1, q2⟩
    · rw [q2] at hz; exact p1 u q1 z hz
    · rw [q2] at hz; exact p2 u (List.mem_append_right _ q1) z hz
/-- **no type of a PROGRAM has more than 48 measured arrows one in another** -/
theorem tx_sx (hT : 2010 ≤ T) (hp : pgT T len cnt j kk pp ee f fc xs is e α) (hR : pgR T len cnt kk pp ee f xs is e α N S P Q x0 g' ρ' τ) : (∀ x, x ∈ tLs (pTE f pp ee is e α) (pTN f pp ee is e α) e → ySx x.2.1 ≤ 48 ∧ yDp x.2.1 ≤ 100) ∧ ∀ u, ySx (pTN f pp ee is e α u) ≤ 48 ∧ yDp (pTN f pp ee is e α u) ≤ 100 := by
  obtain ⟨ρ, H⟩ := tx_tl hT hp hR
  have ml : ∀ x, x ∈ tLs (pTE f pp ee is e α) (pTN f pp ee is e α) e → yLv x.2.1 ≤ 60 := fun x hx => by
    have := (tl_rm (s := yLv x.2.1) (k := x.1) ⟨x, hx, rfl, Nat.le_refl _⟩ List.nodup_nil (fun c hc => by cases hc) (fun c hc => by cases hc)).1
    have this : yLv x.2.1 + 0 ≤ tLv (tLs (pTE f pp ee is e α) (pTN f pp ee is e α) e) := this
    have := H.2.2.2.1
    omega
  refine ⟨fun x hx => ⟨sx_48 (k := x.1) (ns := x.2.2) H hx, ?_⟩, fun u => ?_⟩
  · have := ml x hx
    have := yDp_lv x.2.1
    omega
  · have mn := tx_nn hT hp hR u
    have m60 : tMx (tLs (pTE f pp ee is e α) (pTN f pp ee is e α) e) ≤ 61 := by
      have := tMx_ln (tLs (pTE f pp ee is e α) (pTN f pp ee is e α) e)
      have := H.2.2.2.1
      omega
    have dl := yDp_lv (pTN f pp ee is e α u)
    refine ⟨?_, by omega⟩
    by_cases hk : yK (pTN f pp ee is e α u) = 1
    · by_cases hu : u ∈ is.map Prod.fst ++ tW e
      · obtain ⟨ρ', -, rp⟩ := tx_rp hT hp hR.2.1
        obtain ⟨id, m, d, C, ⟨h1, h2⟩, -⟩ := rp u hu _ (yIn_me hk)
        obtain ⟨s1, s2⟩ := sx_u H h1
        rw [h2]
        exact Nat.le_trans (ySx_rs d _ (Or.inl s1)) s2
      · have e1 : (mEnd f pp ee is e).2.2.1 u = mB 0 := by
          show (mE f pp ee e (is.map Prod.fst) (mIn is mI0)).1.2.2.1 u = _
          rw [(mLe.e e _ _).2.2 u (fun z => hu (List.mem_append_right _ z)), mIn_0 is mI0 (fun z => hu (List.mem_append_left _ z))]
          rfl
        have e2 : pTN f pp ee is e α u = yB 0 := by
          show (mEnd f pp ee is e).2.2.1 u α = _
          rw [e1]
          rfl
        rw [e2] at hk
        cases hk
    · rw [ySx_0 hk]
      exact Nat.zero_le _
/-- **gMx and gCp of a PROGRAM** -/
theorem tx_mx (hT : 2010 ≤ T) (hp : pgT T len cnt j kk pp ee f fc xs is e α) (hR : pgR T len cnt kk pp ee f xs is e α N S P Q x0 g' ρ' τ) (q0 : Nat → gTy) : gMx f pp ee (pTE f pp ee is e α) (pTN f pp ee is e α) 59 e (is.map Prod.fst) ∧ gCp (pTE f pp ee is e α) (pTN f pp ee is e α) e (gSs (gIs is [] (q0, [], [])).1).length := by
  obtain ⟨s1, s2⟩ := tx_sx hT hp hR
  obtain ⟨⟨-, -, -, -, -, f3, r1⟩, -, -, w0, nd, gok⟩ := tx_1 hT hp hR.2.1
  obtain ⟨-, -, -, -, -, ⟨⟨g1, g2, ⟨i0, g3⟩, ⟨-, -, g4''⟩, -, g6, -⟩, tgd, -, p6'''⟩, -⟩ := hp
  have h0 : yK (pTN f pp ee is e α 0) ≠ 1 := by
    have e1 : (mEnd f pp ee is e).2.2.1 0 = mB 0 := by
      show (mE f pp ee e (is.map Prod.fst) (mIn is mI0)).1.2.2.1 0 = _
      rw [(mLe.e e _ _).2.2 0 (fun z => w0 (List.mem_append_right _ z)), mIn_0 is mI0 (fun z => w0 (List.mem_append_left _ z))]
      rfl
    show yK ((mEnd f pp ee is e).2.2.1 0 α) ≠ 1
    rw [e1]
    show yK (yB 0) ≠ 1
    decide
  have hin : ∀ y, y ∈ is → pTN f pp ee is e α y.1 = yB y.2 := fun y hy => by
    obtain ⟨i, hi, e⟩ := List.getElem_of_mem hy
    exact congrFun (in_ty g6 (show is[i]? = some y by rw [List.getElem?_eq_getElem hi, e])) α
  refine ⟨gMx_of (L := is.map Prod.fst ++ tW e) h0 s2 e 0 g2 (is.map Prod.fst) _ gok p6''' f3 r1 s1, ?_⟩
  rw [gIs_ss (tN := pTN f pp ee is e α) is [] (q0, [], []) hin]
  have := gCp_of (L := is.map Prod.fst ++ tW e) s2 e 0 g2 tgd (is.map Prod.fst) _ gok p6''' r1 s1
  rw [show (gSs ([] : List gEn)).length = 0 from rfl, Nat.zero_add]
  exact this
end TXM
