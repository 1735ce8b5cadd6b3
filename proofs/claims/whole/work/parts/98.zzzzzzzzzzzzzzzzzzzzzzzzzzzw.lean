/-! types of NAMES have no more leaves than TEMPLATES -/
section GLV
variable {f pp ee kk : Nat → Int32} {tE tN : Nat → tY} {D cnt : Nat}
/-- TEMPLATES have at most so many -/
def gLb (tE tN : Nat → tY) (D : Nat) : tT → Prop
  | .leaf => True
  | .inner g d _ a b => (g = 1 ∨ g = 2 ∨ g = 3 ∨ g = 4 ∨ g = 19 → yLv (tE d.1) ≤ D) ∧ (g = 2 → yLv (tN (d.1 + 2)) ≤ D) ∧ (if g = 4 ∨ g = 5 then True else gLb tE tN D a) ∧ gLb tE tN D b
theorem yLv_fn : ∀ (q w : Nat) (r : tY), yLv r ≤ yLv (gFn tN q w r) ∧ ∀ i, i < q → yLv (tN (w + i)) ≤ yLv (gFn tN q w r)
  | 0, w, r => ⟨Nat.le_refl _, fun i hi => by omega⟩
  | q + 1, w, r => by
    obtain ⟨h1, h2⟩ := yLv_fn q (w + 1) r
    have e : yLv (gFn tN (q + 1) w r) = yLv (tN w) + yLv (gFn tN q (w + 1) r) := rfl
    refine ⟨by omega, fun i hi => ?_⟩
    cases i with
    | zero => rw [Nat.add_zero]; omega
    | succ i =>
      have := h2 i (by omega)
      rw [show w + 1 + i = w + (i + 1) by omega] at this
      omega
theorem gOk_rl : ∀ (t : tT) (env : List Nat) (y : tY), tWf kk cnt t 2 → gOk f pp ee tE tN t env y → yLv (yRs (tQn t) y) ≤ yLv y
  | .leaf, _, _, _, _ => Nat.le_refl _
  | .inner g d z a b, env, y, wf, ok => by
    rcases wf with ⟨h, _⟩ | ⟨_, _, wb, w⟩ | ⟨h, _⟩
    · cases h
    · have hy : yIs y ∧ gOk f pp ee tE tN b env (yR y) := by
        rcases w with ⟨rfl, _⟩ | ⟨rfl, _⟩ | ⟨rfl, _⟩
        · exact ⟨ok.1, ok.2.2⟩
        · exact ⟨ok.1, ok.2.2⟩
        · exact ⟨ok.1, ok.2.2⟩
      have I := gOk_rl b env (yR y) wb hy.2
      show yLv (yRs (tQn b) (yR y)) ≤ yLv y
      have h' : y = yA (yL y) (yR y) := hy.1
      have e : yLv y = yLv (yL y) + yLv (yR y) := by
        conv => lhs; rw [h']
        rfl
      omega
    · cases h
set_option maxHeartbeats 1000000 in
theorem gOk_lv (h1D : 1 ≤ D) : ∀ (t : tT) (l : Nat) (env : List Nat) (y : tY), tWf kk cnt t l → gOk f pp ee tE tN t env y → gLb tE tN D t → (∀ u, u = 0 ∨ u ∈ env → yLv (tN u) ≤ D) → (l ≠ 0 → yLv y ≤ D) → (tGd kk cnt t) → yLv y ≤ D ∧ ∀ u, u ∈ tW t → yLv (tN u) ≤ D
  | .leaf, l, env, y, wf, ok, hD, hE, hl, _ => ⟨hl (by have : l = 2 := wf; omega), fun u hu => by cases hu⟩
  | .inner g d z a b, l, env, y, wf, ok, hD, hE, hl, hG => by
    have Ia := gOk_lv h1D a
    have Ib := gOk_lv h1D b
    obtain ⟨-, -, ⟨-, g14, g3⟩, ga, gb⟩ := hG
    obtain ⟨d1, d2, da, db⟩ := hD
    have nu : ∀ w, yLv (tN (gNu f pp ee env w)) ≤ D := fun w => hE _ (gNu_in env w)
    have ap : ∀ {env' : List Nat}, (∀ u, u ∈ env' → yLv (tN u) ≤ D) → ∀ u, u = 0 ∨ u ∈ env ++ env' → yLv (tN u) ≤ D := fun h u hu => by
      rcases hu with hu | hu
      · exact hE u (Or.inl hu)
      · rcases List.mem_append.mp hu with hu | hu
        · exact hE u (Or.inr hu)
        · exact h u hu
    rcases wf with ⟨rfl, rfl, _, wa, wb⟩ | ⟨rfl, _, wb, w⟩ | ⟨rfl, w⟩
    · have h := hl (by decide)
      obtain ⟨o1, o2⟩ : gOk f pp ee tE tN a env y ∧ gOk f pp ee tE tN b env y := ok
      refine ⟨h, fun u hu => ?_⟩
      have hu : u ∈ tW a ++ tW b := hu
      rcases List.mem_append.mp hu with hu | hu
      · exact (Ia 0 env y wa o1 da hE (fun z => absurd rfl z) ga).2 u hu
      · exact (Ib 0 env y wb o2 db hE (fun z => absurd rfl z) gb).2 u hu
    · have h := hl (by decide)
      refine ⟨h, ?_⟩
      have yr : yIs y → yLv (yR y) ≤ D ∧ yLv (yL y) ≤ D := fun hi => by
        have h' : y = yA (yL y) (yR y) := hi
        have e : yLv y = yLv (yL y) + yLv (yR y) := by
          conv => lhs; rw [h']
          rfl
        omega
      rcases w with ⟨rfl, _, rfl⟩ | ⟨rfl, _, wa⟩ | ⟨rfl, _, rfl, _⟩
      · exact fun u hu => (Ib 2 env (yR y) wb ok.2.2 db hE (fun _ => (yr ok.1).1) gb).2 u hu
      · intro u hu
        have hu : u ∈ tW a ++ tW b := hu
        rcases List.mem_append.mp hu with hu | hu
        · exact (Ia 0 env (yL y) wa ok.2.1 da hE (fun z => absurd rfl z) ga).2 u hu
        · exact (Ib 2 env (yR y) wb ok.2.2 db hE (fun _ => (yr ok.1).1) gb).2 u hu
      · exact fun u hu => (Ib 2 env (yR y) wb ok.2.2 db hE (fun _ => (yr ok.1).1) gb).2 u hu
    · rcases w with ⟨rfl, _, wa, wb⟩ | ⟨rfl, w2, wa, wb⟩ | ⟨rfl, _, wa⟩ | ⟨rfl, wc, wb⟩ | ⟨rfl, wc, wb⟩ | ⟨rfl, _, _, wa⟩ | ⟨h7, _, _, rfl, rfl⟩ | ⟨h7, _, rfl, rfl⟩ | ⟨h7, _, rfl, rfl⟩ | ⟨rfl, _⟩ | ⟨rfl, _, wa⟩ | ⟨rfl, _, wa, rfl⟩ | ⟨rfl, _⟩ | ⟨rfl, _, wa, wb⟩
      · obtain ⟨o1, o2, o3⟩ : tE d.1 = y ∧ gOk f pp ee tE tN a env (tN (d.1 + 1)) ∧ gOk f pp ee tE tN b (env ++ [d.1 + 1]) y := ok
        have ja := Ia 0 env _ wa o2 da hE (fun z => absurd rfl z) ga
        have jb := Ib 0 _ y wb o3 db (ap (fun u hu => by rw [List.mem_singleton.mp hu]; exact ja.1)) (fun z => absurd rfl z) gb
        refine ⟨jb.1, fun u hu => ?_⟩
        have hu : u ∈ (d.1 + 1) :: (tW a ++ tW b) := hu
        rcases List.mem_cons.mp hu with hu | hu
        · rw [hu]; exact ja.1
        · rcases List.mem_append.mp hu with hu | hu
          · exact ja.2 u hu
          · exact jb.2 u hu
      · obtain ⟨o1, ⟨r, o2, o3⟩, o4⟩ : tE d.1 = y ∧ (∃ r, tN (d.1 + 2) = gFn tN d.2.1 (d.1 + 3) r ∧ gOk f pp ee tE tN a (env ++ ([d.1 + 2] ++ List.range' (d.1 + 3) d.2.1)) r) ∧ gOk f pp ee tE tN b (env ++ [d.1 + 2]) y := ok
        have hF := d2 rfl
        have hP : ∀ u, u ∈ List.range' (d.1 + 3) d.2.1 → yLv (tN u) ≤ D := fun u hu => by
          rw [List.mem_range'_1] at hu
          have := (yLv_fn (tN := tN) d.2.1 (d.1 + 3) r).2 (u - (d.1 + 3)) (by omega)
          rw [show d.1 + 3 + (u - (d.1 + 3)) = u by omega, ← o2] at this
          omega
        have ja := Ia 0 _ r wa o3 da (ap (fun u hu => by
          rcases List.mem_append.mp hu with hu | hu
          · rw [List.mem_singleton.mp hu]; exact hF
          · exact hP u hu)) (fun z => absurd rfl z) ga
        have jb := Ib 0 _ y wb o4 db (ap (fun u hu => by rw [List.mem_singleton.mp hu]; exact hF)) (fun z => absurd rfl z) gb
        refine ⟨jb.1, fun u hu => ?_⟩
        have hu : u ∈ (d.1 + 2) :: (List.range' (d.1 + 3) d.2.1 ++ (tW a ++ tW b)) := hu
        rcases List.mem_cons.mp hu with hu | hu
        · rw [hu]; exact hF
        · rcases List.mem_append.mp hu with hu | hu
          · exact hP u hu
          · rcases List.mem_append.mp hu with hu | hu
            · exact ja.2 u hu
            · exact jb.2 u hu
      · obtain ⟨o1, r, o2, o3⟩ : tE d.1 = y ∧ ∃ r, y = yA (tN (d.1 + 1)) r ∧ gOk f pp ee tE tN a (env ++ [d.1 + 1]) r := ok
        have hy : yLv y ≤ D := by rw [← o1]; exact d1 (Or.inr (Or.inr (Or.inl rfl)))
        have hx : yLv (tN (d.1 + 1)) ≤ D := by rw [o2, yLv_A] at hy; omega
        have ja := Ia 0 _ r wa o3 da (ap (fun u hu => by rw [List.mem_singleton.mp hu]; exact hx)) (fun z => absurd rfl z) ga
        refine ⟨hy, fun u hu => ?_⟩
        have hu : u ∈ (d.1 + 1) :: tW a := hu
        rcases List.mem_cons.mp hu with hu | hu
        · rw [hu]; exact hx
        · exact ja.2 u hu
      · obtain ⟨o1, -, o2⟩ : tE d.1 = y ∧ _ ∧ gOk f pp ee tE tN b env y := ok
        have hy : yLv y ≤ D := by rw [← o1]; exact d1 (Or.inr (Or.inr (Or.inr (Or.inl rfl))))
        exact Ib 1 env y wb o2 db hE (fun _ => hy) gb
      · exact Ib 0 env y wb ok.2 db hE (fun z => absurd rfl z) gb
      · exact Ia 0 env y wa ok.2.2 da hE (fun z => absurd rfl z) ga
      · rcases h7 with rfl | rfl
        · exact ⟨by rw [ok.1]; exact h1D, fun u hu => by cases hu⟩
        · refine ⟨?_, fun u hu => by cases hu⟩
          rw [ok.1]
          unfold gSk
          split
          · exact nu _
          · exact h1D
      · rcases h7 with rfl | rfl | rfl
        all_goals exact ⟨by rw [show y = _ from ok]; exact h1D, fun u hu => by cases hu⟩
      · rcases h7 with rfl | rfl | rfl
        all_goals exact ⟨by rw [ok.1]; exact h1D, fun u hu => by cases hu⟩
      · exact ⟨by rw [ok.1]; exact h1D, fun u hu => by cases hu⟩
      · obtain ⟨o1, o2⟩ : y = yRs (tQn a) (tN (gNu f pp ee env d.1)) ∧ gOk f pp ee tE tN a env (tN (gNu f pp ee env d.1)) := ok
        have hn := nu d.1
        have := gOk_rl a env _ wa o2
        refine ⟨by rw [o1]; omega, fun u hu => (Ia 2 env _ wa o2 da hE (fun _ => hn) ga).2 u hu⟩
      · have ja := Ia 0 env y wa ok da hE (fun z => absurd rfl z) ga
        refine ⟨ja.1, fun u hu => ?_⟩
        have hu : u ∈ tW a ++ [] := hu
        rw [List.append_nil] at hu
        exact ja.2 u hu
      · exact ⟨by rw [ok.1]; exact h1D, fun u hu => by cases hu⟩
      · obtain ⟨o1, -, ⟨o4, o5⟩, o2, o3⟩ : tE d.1 = y ∧ _ ∧ (tN d.2.1 = yB 0 ∧ tN (d.2.1 + 1) = yB 3) ∧ gOk f pp ee tE tN a env y ∧ gOk f pp ee tE tN b (env ++ [d.2.1, d.2.1 + 1]) y := ok
        have hP : ∀ u, u ∈ [d.2.1, d.2.1 + 1] → yLv (tN u) ≤ D := fun u hu => by
          rcases List.mem_cons.mp hu with h | h
          · rw [h, o4]; exact h1D
          · rw [List.mem_singleton.mp h, o5]; exact h1D
        have ja := Ia 0 env y wa o2 da hE (fun z => absurd rfl z) ga
        have jb := Ib 0 _ y wb o3 db (ap hP) (fun z => absurd rfl z) gb
        refine ⟨ja.1, fun u hu => ?_⟩
        have hu : u ∈ tW a ++ ([d.2.1, d.2.1 + 1] ++ tW b) := hu
        rcases List.mem_append.mp hu with hu | hu
        · exact ja.2 u hu
        · rcases List.mem_append.mp hu with hu | hu
          · exact hP u hu
          · exact jb.2 u hu
theorem gLb_of : ∀ (t : tT) (l : Nat), tWf kk cnt t l → tGd kk cnt t → (∀ x, x ∈ tLs tE tN t → yLv x.2.1 ≤ D) → gLb tE tN D t
  | .leaf, _, _, _, _ => trivial
  | .inner g d z a b, l, wf, gd, h => by
    obtain ⟨-, -, ⟨-, g14, g3⟩, ga, gb⟩ := gd
    have Ia := fun l => gLb_of a l
    have Ib := fun l => gLb_of b l
    unfold tLs at h
    rcases wf with ⟨rfl, rfl, _, wa, wb⟩ | ⟨rfl, _, wb, w⟩ | ⟨rfl, w⟩
    · have h : ∀ x, x ∈ tLs tE tN a ++ tLs tE tN b → yLv x.2.1 ≤ D := h
      exact ⟨fun e => absurd e (by decide), fun e => absurd e (by decide), Ia 0 wa ga (fun x hx => h x (List.mem_append_left _ hx)), Ib 0 wb gb (fun x hx => h x (List.mem_append_right _ hx))⟩
    · rcases w with ⟨rfl, _, rfl⟩ | ⟨rfl, _, wa⟩ | ⟨rfl, _, rfl, _⟩
      · exact ⟨fun e => absurd e (by decide), fun e => absurd e (by decide), trivial, Ib 2 wb gb h⟩
      · have h : ∀ x, x ∈ tLs tE tN a ++ tLs tE tN b → yLv x.2.1 ≤ D := h
        exact ⟨fun e => absurd e (by decide), fun e => absurd e (by decide), Ia 0 wa ga (fun x hx => h x (List.mem_append_left _ hx)), Ib 2 wb gb (fun x hx => h x (List.mem_append_right _ hx))⟩
      · exact ⟨fun e => absurd e (by decide), fun e => absurd e (by decide), trivial, Ib 2 wb gb h⟩
    · rcases w with ⟨rfl, _, wa, wb⟩ | ⟨rfl, w2, wa, wb⟩ | ⟨rfl, _, wa⟩ | ⟨rfl, wc, wb⟩ | ⟨rfl, wc, wb⟩ | ⟨rfl, _, _, wa⟩ | ⟨h7, _, _, rfl, rfl⟩ | ⟨h7, _, rfl, rfl⟩ | ⟨h7, _, rfl, rfl⟩ | ⟨rfl, _⟩ | ⟨rfl, _, wa⟩ | ⟨rfl, _, wa, rfl⟩ | ⟨rfl, _⟩ | ⟨rfl, _, wa, wb⟩
      · have h : ∀ x, x ∈ (2 * d.1, tE d.1, []) :: (tLs tE tN a ++ tLs tE tN b) → yLv x.2.1 ≤ D := h
        exact ⟨fun _ => h _ (List.mem_cons_self ..), fun e => absurd e (by decide), Ia 0 wa ga (fun x hx => h x (List.mem_cons_of_mem _ (List.mem_append_left _ hx))), Ib 0 wb gb (fun x hx => h x (List.mem_cons_of_mem _ (List.mem_append_right _ hx)))⟩
      · have h : ∀ x, x ∈ (2 * d.1, tE d.1, []) :: (2 * d.1 + 1, tN (d.1 + 2), List.range' (d.1 + 3) d.2.1) :: (tLs tE tN a ++ tLs tE tN b) → yLv x.2.1 ≤ D := h
        exact ⟨fun _ => h _ (List.mem_cons_self ..), fun _ => h _ (List.mem_cons_of_mem _ (List.mem_cons_self ..)), Ia 0 wa ga (fun x hx => h x (List.mem_cons_of_mem _ (List.mem_cons_of_mem _ (List.mem_append_left _ hx)))), Ib 0 wb gb (fun x hx => h x (List.mem_cons_of_mem _ (List.mem_cons_of_mem _ (List.mem_append_right _ hx))))⟩
      · obtain rfl := g3 (Or.inl rfl)
        have h : ∀ x, x ∈ (2 * d.1, tE d.1, [d.1 + 1]) :: tLs tE tN a → yLv x.2.1 ≤ D := h
        exact ⟨fun _ => h _ (List.mem_cons_self ..), fun e => absurd e (by decide), Ia 0 wa ga (fun x hx => h x (List.mem_cons_of_mem _ hx)), trivial⟩
      · have h : ∀ x, x ∈ (2 * d.1, tE d.1, []) :: tLs tE tN b → yLv x.2.1 ≤ D := h
        exact ⟨fun _ => h _ (List.mem_cons_self ..), fun e => absurd e (by decide), trivial, Ib 1 wb gb (fun x hx => h x (List.mem_cons_of_mem _ hx))⟩
      · exact ⟨fun e => absurd e (by decide), fun e => absurd e (by decide), trivial, Ib 0 wb gb h⟩
      · obtain rfl := g3 (Or.inr (Or.inl rfl))
        exact ⟨fun e => absurd e (by decide), fun e => absurd e (by decide), Ia 0 wa ga h, trivial⟩
      · rcases h7 with rfl | rfl <;> exact ⟨fun e => absurd e (by decide), fun e => absurd e (by decide), trivial, trivial⟩
      · rcases h7 with rfl | rfl | rfl <;> exact ⟨fun e => absurd e (by decide), fun e => absurd e (by decide), trivial, trivial⟩
      · rcases h7 with rfl | rfl | rfl <;> exact ⟨fun e => absurd e (by decide), fun e => absurd e (by decide), trivial, trivial⟩
      · obtain ⟨rfl, rfl⟩ := g14 (Or.inl rfl)
        exact ⟨fun e => absurd e (by decide), fun e => absurd e (by decide), trivial, trivial⟩
      · obtain rfl := g3 (Or.inr (Or.inr rfl))
        exact ⟨fun e => absurd e (by decide), fun e => absurd e (by decide), Ia 2 wa ga h, trivial⟩
      · exact ⟨fun e => absurd e (by decide), fun e => absurd e (by decide), Ia 0 wa ga h, trivial⟩
      · obtain ⟨rfl, rfl⟩ := g14 (Or.inr rfl)
        exact ⟨fun e => absurd e (by decide), fun e => absurd e (by decide), trivial, trivial⟩
      · have h : ∀ x, x ∈ (2 * d.1, tE d.1, []) :: (tLs tE tN a ++ tLs tE tN b) → yLv x.2.1 ≤ D := h
        exact ⟨fun _ => h _ (List.mem_cons_self ..), fun e => absurd e (by decide), Ia 0 wa ga (fun x hx => h x (List.mem_cons_of_mem _ (List.mem_append_left _ hx))), Ib 0 wb gb (fun x hx => h x (List.mem_cons_of_mem _ (List.mem_append_right _ hx)))⟩
end GLV
section TX5
variable {kk pp ee f fc : Nat → Int32} {T len cnt j N S P A x0 : Nat} {xs : List tQ} {is : List (Nat × Nat)} {e : tT} {α : Nat → tY} {τ : zSt} {env : List Nat}
/-- types of INPUTS; what is no NAME -/
theorem pTN_in (nd : (is.map Prod.fst ++ tW e).Nodup) : (∀ y, y ∈ is → pTN f pp ee is e α y.1 = yB y.2) ∧ ∀ u, u ∉ is.map Prod.fst ++ tW e → pTN f pp ee is e α u = yB 0 := by
  obtain ⟨n1, n2, n3⟩ := List.nodup_append.mp nd
  have le := (mLe.e (f := f) (pp := pp) (ee := ee) e (is.map Prod.fst) (mIn is mI0)).2.2
  refine ⟨fun y hy => ?_, fun u hu => ?_⟩
  · obtain ⟨i, hi⟩ := List.getElem?_of_mem hy
    unfold pTN mEnd
    rw [le y.1 (fun z => n3 y.1 (List.mem_map.mpr ⟨y, hy, rfl⟩) y.1 z rfl), mIn_at is mI0 n1 i y hi]
    rfl
  · unfold pTN mEnd
    rw [le u (fun z => hu (List.mem_append_right _ z)), mIn_ne is mI0 u (fun z => hu (List.mem_append_left _ z))]
    rfl
/-- **types of NAMES and TEMPLATES are small** -/
theorem tx_5 (hT : 2010 ≤ T) (hp : pgT T len cnt j kk pp ee f fc xs is e α) (hr : rPo T len cnt kk pp ee f xs is e N S P A x0 τ) : (∀ u, u ∈ is.map Prod.fst ++ tW e → yDp (pTN f pp ee is e α u) ≤ 60 ∧ yLs (pTN f pp ee is e α u) ≤ 60) ∧ ∀ (M key : Nat) (y : tY) (ns env : List Nat), rtC (pRt f pp ee is e α) (pTN f pp ee is e α) M key y ns env → yDp y ≤ 60 ∧ yLs y ≤ 60 := by
  obtain ⟨-, -, -, t9, t10, t11⟩ := tx_1 hT hp hr
  have hlv := tx_lv hp
  obtain ⟨i1, i2⟩ := pTN_in (f := f) (pp := pp) (ee := ee) (α := α) t10
  obtain ⟨⟨p1, p1', p1''⟩, p2, p3, p4, ⟨p5, p5'⟩, ⟨⟨g1, g2, ⟨i0, g3⟩, ⟨g4, g4', g4''⟩, g5, g6, g7⟩, p6', p6'', p6a⟩, p7, p8, p9, p10, p11, p12⟩ := hp
  have sm : ∀ y : tY, yLv y ≤ 60 → yDp y ≤ 60 ∧ yLs y ≤ 60 := fun y h => by
    have := yDp_v y
    have := (yLs_v y).1
    omega
  have inn : ∀ u, u ∈ is.map Prod.fst → yLv (pTN f pp ee is e α u) ≤ 60 := fun u hu => by
    obtain ⟨y, hy, ey⟩ := List.mem_map.mp hu
    rw [← ey, i1 y hy]
    show (1 : Nat) ≤ 60
    decide
  have lb := gLb_of (tE := pTE f pp ee is e α) (tN := pTN f pp ee is e α) (D := 60) e 0 g2 p6' (fun x hx => Nat.le_trans (tLv_me hx) hlv)
  have O := gOk_lv (tE := pTE f pp ee is e α) (tN := pTN f pp ee is e α) (D := 60) (by decide) e 0 (is.map Prod.fst) _ g2 t11 lb (fun u hu => by
    rcases hu with hu | hu
    · rw [hu, i2 0 t9]
      show (1 : Nat) ≤ 60
      decide
    · exact inn u hu) (fun z => absurd rfl z) p6'
  refine ⟨fun u hu => ?_, fun M key y ns env h => ?_⟩
  · rcases List.mem_append.mp hu with hu | hu
    · exact sm _ (inn u hu)
    · exact sm _ (O.2 u hu)
  · have h := h.1
    unfold pRt at h
    obtain ⟨e3, en⟩ := tLe_3 (tE := pTE f pp ee is e α) (tN := pTN f pp ee is e α) e (is.map Prod.fst)
    have b := rtO_b (tLe (pTE f pp ee is e α) (pTN f pp ee is e α) e (is.map Prod.fst)) 0 0 key en
    rw [e3, h] at b
    cases e' : bFi (tLs (pTE f pp ee is e α) (pTN f pp ee is e α) e) 0 0 key with
    | none =>
      rw [e'] at b
      have b : (key, [], y, ns, gSv (pTN f pp ee is e α) env) = ((key, [], .leaf, [], []) : gTm) := b
      injection b with _ b
      injection b with _ b
      injection b with b _
      rw [b]
      exact ⟨by decide, by decide⟩
    | some x =>
      rw [e'] at b
      have b : y = x.1 := b.2.2.1
      have q := tLv_me (bFi_rg _ _ _ _ _ e').2.2
      have q : yLv x.1 ≤ tLv (tLs (pTE f pp ee is e α) (pTN f pp ee is e α) e) := q
      exact sm y (by rw [b]; omega)
end TX5
