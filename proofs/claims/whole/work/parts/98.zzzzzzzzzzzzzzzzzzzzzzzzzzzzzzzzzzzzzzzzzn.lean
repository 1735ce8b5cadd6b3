/-! CAPACITIES: pieces: a TEMPLATE without its NAMES that are functions, and these -/
/-- a unit with its TEMPLATE's count -/
def tlV (lc : List ((Nat × tY × List Nat) × Nat)) (x : (Nat × Nat) × Nat) : Prop := (x.1.1 = 0 ∧ ∃ Y ns, ((x.1.2, Y, ns), x.2) ∈ lc) ∨ (x.1.1 = 1 ∧ ∃ (k : Nat) (Y : tY) (ns : List Nat) (i c : Nat), ((k, Y, ns), c) ∈ lc ∧ ns[i]? = some x.1.2 ∧ x.2 = c + yAm i Y)
theorem tlV.mo {lc lc' : List ((Nat × tY × List Nat) × Nat)} {x : (Nat × Nat) × Nat} (h : tlV lc x) (hl : ∀ y, y ∈ lc → y ∈ lc') : tlV lc' x := by
  rcases h with ⟨h1, Y, ns, h2⟩ | ⟨h1, k, Y, ns, i, c, h2, h3⟩
  · exact Or.inl ⟨h1, Y, ns, hl _ h2⟩
  · exact Or.inr ⟨h1, k, Y, ns, i, c, hl _ h2, h3⟩
section GUC
variable {f pp ee : Nat → Int32} {tE tN : Nat → tY} {kk : Nat → Int32} {cnt : Nat}
/-- **units and their counts** -/
theorem gUn_tc : ∀ (t : tT) (l : Nat), tWf kk cnt t l → tR1 t → ∀ env y, gOk f pp ee tE tN t env y → ∀ x, x ∈ gUn tN t env → tlV (tLc tE tN t env) x
  | .leaf, _, _, _, _, _, _ => fun x hx => by cases hx
  | .inner g d z a b, l, wf, r1, env, y, hg => by
    have Ia := gUn_tc a
    have Ib := gUn_tc b
    intro x hx
    have AP : ∀ {U U' : List ((Nat × Nat) × Nat)} {lc lc' : List ((Nat × tY × List Nat) × Nat)}, (∀ x, x ∈ U → tlV lc x) → (∀ x, x ∈ U' → tlV lc' x) → x ∈ U ++ U' → tlV (lc ++ lc') x := fun h h' hx => by
      rcases List.mem_append.mp hx with q | q
      · exact (h x q).mo (fun y hy => List.mem_append_left _ hy)
      · exact (h' x q).mo (fun y hy => List.mem_append_right _ hy)
    rcases wf with ⟨rfl, rfl, _, wa, wb⟩ | ⟨rfl, _, wb, w⟩ | ⟨_, w⟩
    · have hg : gOk f pp ee tE tN a env y ∧ gOk f pp ee tE tN b env y := hg
      exact AP (Ia 0 wa r1.2.1 env y hg.1) (Ib 0 wb r1.2.2 env y hg.2) hx
    · rcases w with ⟨rfl, _, ha⟩ | ⟨rfl, _, wa⟩ | ⟨rfl, _, ha, _⟩
      · exact Ib 2 wb r1.2.2 env _ hg.2.2 x hx
      · have hg : yIs y ∧ gOk f pp ee tE tN a env (yL y) ∧ gOk f pp ee tE tN b env (yR y) := hg
        exact AP (Ia 0 wa r1.2.1 env _ hg.2.1) (Ib 2 wb r1.2.2 env _ hg.2.2) hx
      · exact Ib 2 wb r1.2.2 env _ hg.2.2 x hx
    · rcases w with ⟨rfl, _, wa, wb⟩ | ⟨rfl, ⟨w1, w2, _⟩, wa, wb⟩ | ⟨rfl, _, wa⟩ | ⟨rfl, wc, wb⟩ | ⟨rfl, wc, wb⟩ | ⟨rfl, _, _, wa⟩ | ⟨h7, _, _, hab⟩ | ⟨h7, _, hab⟩ | ⟨h7, _, hab⟩ | ⟨rfl, _⟩ | ⟨rfl, _, wa⟩ | ⟨rfl, _, wa, hb⟩ | ⟨rfl, _⟩ | ⟨rfl, _, wa, wb⟩
      · have hg : tE d.1 = y ∧ gOk f pp ee tE tN a env (tN (d.1 + 1)) ∧ gOk f pp ee tE tN b (env ++ [d.1 + 1]) y := hg
        have hx : x ∈ (((0, 2 * d.1) : Nat × Nat), mSd tN env) :: (gUn tN a env ++ gUn tN b (env ++ [d.1 + 1])) := hx
        rcases List.mem_cons.mp hx with hx | hx
        · rw [hx]
          exact Or.inl ⟨rfl, _, _, List.mem_cons_self ..⟩
        · exact (AP (Ia 0 wa r1.2.1 env _ hg.2.1) (Ib 0 wb r1.2.2 _ _ hg.2.2) hx).mo (fun y hy => List.mem_cons_of_mem _ hy)
      · have hg : tE d.1 = y ∧ (∃ r, tN (d.1 + 2) = gFn tN d.2.1 (d.1 + 3) r ∧ gOk f pp ee tE tN a (env ++ ([d.1 + 2] ++ List.range' (d.1 + 3) d.2.1)) r) ∧ gOk f pp ee tE tN b (env ++ [d.1 + 2]) y := hg
        obtain ⟨hy, ⟨rr, hf, ga⟩, gb⟩ := hg
        have q1 : 1 ≤ d.2.1 := r1.1 rfl
        have fm : yM1 (tN (d.1 + 2)) = 0 := by
          have := (gFn_t (tN := tN) (r := rr) d.2.1 (d.1 + 3) 0 (by omega)).1
          have this : yIs (gFn tN d.2.1 (d.1 + 3) rr) := this
          rw [← hf] at this
          have hk := yIs_k this
          unfold yM1 gMs
          rw [hk]
          rfl
        have e1 : mSd tN (env ++ [d.1 + 2]) = mSd tN env := by rw [mSd_1, fm]; rfl
        have hx : x ∈ (((0, 2 * d.1) : Nat × Nat), mSd tN env) :: (((0, 2 * d.1 + 1) : Nat × Nat), mSd tN env) :: ((List.range d.2.1).map (fun i => (((1, d.1 + 3 + i) : Nat × Nat), mSd tN (env ++ ([d.1 + 2] ++ List.range' (d.1 + 3) i)))) ++ (gUn tN a (env ++ ([d.1 + 2] ++ List.range' (d.1 + 3) d.2.1)) ++ gUn tN b (env ++ [d.1 + 2]))) := hx
        show tlV (((2 * d.1, tE d.1, []), mSd tN env) :: ((2 * d.1 + 1, tN (d.1 + 2), List.range' (d.1 + 3) d.2.1), mSd tN env) :: (tLc tE tN a (env ++ ([d.1 + 2] ++ List.range' (d.1 + 3) d.2.1)) ++ tLc tE tN b (env ++ [d.1 + 2]))) x
        rcases List.mem_cons.mp hx with hx | hx
        · rw [hx]
          exact Or.inl ⟨rfl, _, _, List.mem_cons_self ..⟩
        · rcases List.mem_cons.mp hx with hx | hx
          · rw [hx]
            exact Or.inl ⟨rfl, _, _, List.mem_cons_of_mem _ (List.mem_cons_self ..)⟩
          · rcases List.mem_append.mp hx with hx | hx
            · obtain ⟨i, i1, i2⟩ := List.mem_map.mp hx
              have i1 := List.mem_range.mp i1
              rw [← i2]
              refine Or.inr ⟨rfl, _, _, _, i, _, List.mem_cons_of_mem _ (List.mem_cons_self ..), ?_, ?_⟩
              · rw [List.getElem?_eq_some_iff]
                refine ⟨by rw [List.length_range']; exact i1, ?_⟩
                rw [List.getElem_range', Nat.one_mul]
              · show mSd tN (env ++ ([d.1 + 2] ++ List.range' (d.1 + 3) i)) = mSd tN env + yAm i (tN (d.1 + 2))
                rw [hf, yAm_fn _ _ _ (Nat.le_of_lt i1), ← List.append_assoc, mSd_ap, e1]
            · exact (AP (Ia 0 wa r1.2.1 _ _ ga) (Ib 0 wb r1.2.2 _ _ gb) hx).mo (fun y hy => List.mem_cons_of_mem _ (List.mem_cons_of_mem _ hy))
      · have hg : tE d.1 = y ∧ ∃ r, y = yA (tN (d.1 + 1)) r ∧ gOk f pp ee tE tN a (env ++ [d.1 + 1]) r := hg
        obtain ⟨hy, r, hr, ga⟩ := hg
        have hx : x ∈ (((0, 2 * d.1) : Nat × Nat), mSd tN env) :: (((1, d.1 + 1) : Nat × Nat), mSd tN env) :: gUn tN a (env ++ [d.1 + 1]) := hx
        show tlV (((2 * d.1, tE d.1, [d.1 + 1]), mSd tN env) :: tLc tE tN a (env ++ [d.1 + 1])) x
        rcases List.mem_cons.mp hx with hx | hx
        · rw [hx]
          exact Or.inl ⟨rfl, _, _, List.mem_cons_self ..⟩
        · rcases List.mem_cons.mp hx with hx | hx
          · rw [hx]
            exact Or.inr ⟨rfl, _, _, _, 0, _, List.mem_cons_self .., rfl, rfl⟩
          · exact (Ia 0 wa r1.2.1 _ _ ga x hx).mo (fun y hy => List.mem_cons_of_mem _ hy)
      · have hg : tE d.1 = y ∧ gCk f pp ee tN env a ∧ gOk f pp ee tE tN b env y := hg
        have hx : x ∈ (((0, 2 * d.1) : Nat × Nat), mSd tN env) :: gUn tN b env := hx
        rcases List.mem_cons.mp hx with hx | hx
        · rw [hx]
          exact Or.inl ⟨rfl, _, _, List.mem_cons_self ..⟩
        · exact (Ib 1 wb r1.2.2 env _ hg.2.2 x hx).mo (fun y hy => List.mem_cons_of_mem _ hy)
      · have hg : gCk f pp ee tN env a ∧ gOk f pp ee tE tN b env y := hg
        exact Ib 0 wb r1.2.2 env _ hg.2 x hx
      · exact Ia 0 wa r1.2.1 env _ hg.2.2 x hx
      · rcases h7 with rfl | rfl <;> cases hx
      · rcases h7 with rfl | rfl | rfl <;> cases hx
      · rcases h7 with rfl | rfl | rfl <;> cases hx
      · cases hx
      · exact Ia 2 wa r1.2.1 env _ hg.2 x hx
      · exact Ia 0 wa r1.2.1 env _ hg x hx
      · cases hx
      · have hg : tE d.1 = y ∧ tN (gNu f pp ee env (d.1 + 1)) = yB 3 ∧ (tN d.2.1 = yB 0 ∧ tN (d.2.1 + 1) = yB 3) ∧ gOk f pp ee tE tN a env y ∧ gOk f pp ee tE tN b (env ++ [d.2.1, d.2.1 + 1]) y := hg
        have hx : x ∈ (((0, 2 * d.1) : Nat × Nat), mSd tN env) :: (gUn tN a env ++ gUn tN b (env ++ [d.2.1, d.2.1 + 1])) := hx
        rcases List.mem_cons.mp hx with hx | hx
        · rw [hx]
          exact Or.inl ⟨rfl, _, _, List.mem_cons_self ..⟩
        · exact (AP (Ia 0 wa r1.2.1 env _ hg.2.2.2.1) (Ib 0 wb r1.2.2 _ _ hg.2.2.2.2) hx).mo (fun y hy => List.mem_cons_of_mem _ hy)
end GUC
/-- a type without its first parameters that are functions -/
def yTp : Nat → tY → tY
  | 0, Y => Y
  | q + 1, Y => if yK (yL Y) = 1 then yTp q (yR Y) else yA (yL Y) (yTp q (yR Y))
/-- these, each with what counts there -/
def yTo : Nat → tY → Nat → List (tY × Nat)
  | 0, _, _ => []
  | q + 1, Y, c => (if yK (yL Y) = 1 then [(yL Y, c)] else []) ++ yTo q (yR Y) (c + if gMs (yL Y) = true then 1 else 0)
theorem gMs_f {y : tY} (h : yK y = 1) : gMs y = false := by
  unfold gMs
  rw [h]
  rfl
/-- **leaves and INSTANCES, piece by piece** -/
theorem yTp_s : ∀ (q : Nat) (Y : tY) (c : Nat), (∀ i, i < q → yIs (yRs i Y)) → yS Y c = yS (yTp q Y) c + ((yTo q Y c).map (fun x => yS x.1 x.2)).sum ∧ yLv Y = yLv (yTp q Y) + ((yTo q Y c).map (fun x => yLv x.1)).sum
  | 0, Y, c, _ => ⟨by show yS Y c = yS Y c + 0; omega, by show yLv Y = yLv Y + 0; omega⟩
  | q + 1, Y, c, h => by
    have h0 : yIs Y := h 0 (by omega)
    obtain ⟨I1, I2⟩ := yTp_s q (yR Y) (c + if gMs (yL Y) = true then 1 else 0) (fun i hi => h (i + 1) (by omega))
    have e1 : yS Y c = yS (yL Y) c + yS (yR Y) (c + if gMs (yL Y) = true then 1 else 0) := by
      obtain ⟨a, b, e⟩ : ∃ a b, Y = yA a b := ⟨_, _, h0⟩
      rw [e]
      rfl
    have e2 := (ySx_is h0).2
    show yS Y c = yS (if yK (yL Y) = 1 then yTp q (yR Y) else yA (yL Y) (yTp q (yR Y))) c + (((if yK (yL Y) = 1 then [(yL Y, c)] else []) ++ yTo q (yR Y) (c + if gMs (yL Y) = true then 1 else 0)).map (fun x => yS x.1 x.2)).sum ∧ yLv Y = yLv (if yK (yL Y) = 1 then yTp q (yR Y) else yA (yL Y) (yTp q (yR Y))) + (((if yK (yL Y) = 1 then [(yL Y, c)] else []) ++ yTo q (yR Y) (c + if gMs (yL Y) = true then 1 else 0)).map (fun x => yLv x.1)).sum
    by_cases hk : yK (yL Y) = 1
    · rw [if_pos hk, if_pos hk]
      rw [gMs_f hk, if_neg (by decide), Nat.add_zero] at I1 I2 e1 ⊢
      rw [List.map_append, List.sum_append, List.map_append, List.sum_append]
      refine ⟨?_, ?_⟩
      · show _ = _ + (yS (yL Y) c + 0 + _)
        omega
      · show _ = _ + (yLv (yL Y) + 0 + _)
        omega
    · rw [if_neg hk, if_neg hk, List.nil_append]
      refine ⟨?_, ?_⟩
      · have : yS (yA (yL Y) (yTp q (yR Y))) c = yS (yL Y) c + yS (yTp q (yR Y)) (c + if gMs (yL Y) = true then 1 else 0) := rfl
        omega
      · have : yLv (yA (yL Y) (yTp q (yR Y))) = yLv (yL Y) + yLv (yTp q (yR Y)) := rfl
        omega
