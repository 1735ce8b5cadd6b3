/-! CAPACITIES: which unit belongs to which TEMPLATE -/
/-- a TEMPLATE's first parameters have NAMES -/
def tlT (tN : Nat → tY) (x : Nat × tY × List Nat) : Prop := x.2.2.length ≤ 4 ∧ ∀ i u, x.2.2[i]? = some u → yIs (yRs i x.2.1) ∧ yL (yRs i x.2.1) = tN u
/-- a unit is a TEMPLATE, or a NAME of one's parameters -/
def tlU (tE tN : Nat → tY) (l : List (Nat × tY × List Nat)) (x : (Nat × Nat) × Nat) : Prop := (x.1.1 = 0 ∧ ∃ ns, (x.1.2, uY tE tN x.1, ns) ∈ l) ∨ (x.1.1 = 1 ∧ ∃ k Y ns i, (k, Y, ns) ∈ l ∧ ns[i]? = some x.1.2 ∧ yAm i Y ≤ x.2)
def tlA (tE tN : Nat → tY) (U : List ((Nat × Nat) × Nat)) (G W : List Nat) (l : List (Nat × tY × List Nat)) : Prop := (∀ x, x ∈ l → tlT tN x) ∧ (∀ x, x ∈ U → tlU tE tN l x) ∧ (∀ c, c ∈ G → ∃ y, (2 * c, y, []) ∈ l) ∧ (l.flatMap (fun x => x.2.2)).Sublist W
section TLA
variable {kk pp ee f : Nat → Int32} {cnt : Nat} {tE tN : Nat → tY} {U U' : List ((Nat × Nat) × Nat)} {G G' W W' : List Nat} {l l' : List (Nat × tY × List Nat)}
theorem tlU.mo {x : (Nat × Nat) × Nat} (h : tlU tE tN l x) (hl : ∀ y, y ∈ l → y ∈ l') : tlU tE tN l' x := by
  rcases h with ⟨h1, ns, h2⟩ | ⟨h1, k, Y, ns, i, h2, h3⟩
  · exact Or.inl ⟨h1, ns, hl _ h2⟩
  · exact Or.inr ⟨h1, k, Y, ns, i, hl _ h2, h3⟩
theorem tlA.nl (W : List Nat) : tlA tE tN [] [] W [] := ⟨fun x h => (by cases h), fun x h => (by cases h), fun x h => (by cases h), List.nil_sublist _⟩
theorem tlA.sw (h : tlA tE tN U G W l) (hW : W.Sublist W') : tlA tE tN U G W' l := ⟨h.1, h.2.1, h.2.2.1, h.2.2.2.trans hW⟩
theorem tlA.ap (h : tlA tE tN U G W l) (h' : tlA tE tN U' G' W' l') : tlA tE tN (U ++ U') (G ++ G') (W ++ W') (l ++ l') := by
  refine ⟨fun x hx => ?_, fun x hx => ?_, fun c hc => ?_, ?_⟩
  · rcases List.mem_append.mp hx with q | q
    · exact h.1 x q
    · exact h'.1 x q
  · rcases List.mem_append.mp hx with q | q
    · exact (h.2.1 x q).mo (fun y hy => List.mem_append_left _ hy)
    · exact (h'.2.1 x q).mo (fun y hy => List.mem_append_right _ hy)
  · rcases List.mem_append.mp hc with q | q
    · obtain ⟨y, hy⟩ := h.2.2.1 c q
      exact ⟨y, List.mem_append_left _ hy⟩
    · obtain ⟨y, hy⟩ := h'.2.2.1 c q
      exact ⟨y, List.mem_append_right _ hy⟩
  · rw [List.flatMap_append]
    exact h.2.2.2.append h'.2.2.2
/-- one TEMPLATE more, with its units -/
theorem tlA.cn {x : Nat × tY × List Nat} (h : tlA tE tN U G W l) (hx : tlT tN x) (hU : ∀ u, u ∈ U' → tlU tE tN (x :: l) u) (hG : ∀ c, c ∈ G' → ∃ y, (2 * c, y, []) ∈ x :: l) : tlA tE tN (U' ++ U) (G' ++ G) (x.2.2 ++ W) (x :: l) := by
  refine ⟨fun y hy => ?_, fun u hu => ?_, fun c hc => ?_, ?_⟩
  · rcases List.mem_cons.mp hy with q | q
    · rw [q]; exact hx
    · exact h.1 y q
  · rcases List.mem_append.mp hu with q | q
    · exact hU u q
    · exact (h.2.1 u q).mo (fun y hy => List.mem_cons_of_mem _ hy)
  · rcases List.mem_append.mp hc with q | q
    · exact hG c q
    · obtain ⟨y, hy⟩ := h.2.2.1 c q
      exact ⟨y, List.mem_cons_of_mem _ hy⟩
  · rw [List.flatMap_cons]
    exact (List.Sublist.refl _).append h.2.2.2
theorem tlA.t0 {w m : Nat} (h : tlA tE tN U G W l) : tlA tE tN (((0, 2 * w), m) :: U) G W ((2 * w, tE w, []) :: l) :=
  h.cn (x := (2 * w, tE w, [])) (U' := [((0, 2 * w), m)]) (G' := []) ⟨Nat.zero_le _, fun i u e => (by cases e)⟩ (fun u hu => by
    rw [List.mem_singleton.mp hu]
    refine Or.inl ⟨rfl, [], ?_⟩
    rw [uY_t]
    exact List.mem_cons_self ..) (fun c hc => by cases hc)
theorem tlA.lt {w : Nat} (h : tlA tE tN U G W ((2 * w, tE w, []) :: l)) : tlA tE tN U (w :: G) W ((2 * w, tE w, []) :: l) := ⟨h.1, h.2.1, fun c hc => by
  rcases List.mem_cons.mp hc with q | q
  · rw [q]; exact ⟨_, List.mem_cons_self ..⟩
  · exact h.2.2.1 c q, h.2.2.2⟩
theorem gFn_t {r : tY} : ∀ (q w i : Nat), i < q → yIs (yRs i (gFn tN q w r)) ∧ yL (yRs i (gFn tN q w r)) = tN (w + i)
  | 0, _, _, h => absurd h (Nat.not_lt_zero _)
  | q + 1, w, 0, _ => ⟨rfl, rfl⟩
  | q + 1, w, i + 1, h => by
    have := gFn_t (r := r) q (w + 1) i (by omega)
    rw [show w + 1 + i = w + (i + 1) by omega] at this
    exact this
theorem yAm_fn {r : tY} : ∀ (q w i : Nat), i ≤ q → yAm i (gFn tN q w r) = mSd tN (List.range' w i)
  | _, _, 0, _ => rfl
  | 0, _, i + 1, h => absurd h (by omega)
  | q + 1, w, i + 1, h => by
    have I := yAm_fn (r := r) q (w + 1) i (by omega)
    show (if gMs (tN w) = true then 1 else 0) + yAm i (gFn tN q (w + 1) r) = mSd tN (List.range' w (i + 1))
    rw [I, List.range'_succ, mSd_c]
theorem mSd_ap (a b : List Nat) : mSd tN (a ++ b) = mSd tN a + mSd tN b := by
  unfold mSd
  rw [List.filter_append, List.length_append]
/-- **units, lets and NAMES of a text's TEMPLATES** -/
theorem gUn_tl : ∀ (t : tT) (l : Nat) (env : List Nat) (y : tY), tWf kk cnt t l → gOk f pp ee tE tN t env y → tlA tE tN (gUn tN t env) (gLt t) (tW t) (tLs tE tN t)
  | .leaf, _, _, _, _, _ => tlA.nl _
  | .inner g d z a b, l, env, y, wf, hg => by
    have Ia := gUn_tl a
    have Ib := gUn_tl b
    rcases wf with ⟨rfl, rfl, _, wa, wb⟩ | ⟨rfl, _, wb, w⟩ | ⟨_, w⟩
    · have hg : gOk f pp ee tE tN a env y ∧ gOk f pp ee tE tN b env y := hg
      exact (Ia 0 env y wa hg.1).ap (Ib 0 env y wb hg.2)
    · rcases w with ⟨rfl, _, ha⟩ | ⟨rfl, _, wa⟩ | ⟨rfl, _, ha, _⟩
      · have hg : gOk f pp ee tE tN b env (yR y) := hg.2.2
        exact (Ib 2 env _ wb hg).sw (List.sublist_append_right _ _)
      · have hg : yIs y ∧ gOk f pp ee tE tN a env (yL y) ∧ gOk f pp ee tE tN b env (yR y) := hg
        exact (Ia 0 env _ wa hg.2.1).ap (Ib 2 env _ wb hg.2.2)
      · have hg : gOk f pp ee tE tN b env (yR y) := hg.2.2
        exact (Ib 2 env _ wb hg).sw (List.sublist_append_right _ _)
    · rcases w with ⟨rfl, _, wa, wb⟩ | ⟨rfl, ⟨w1, w2, _⟩, wa, wb⟩ | ⟨rfl, _, wa⟩ | ⟨rfl, wc, wb⟩ | ⟨rfl, wc, wb⟩ | ⟨rfl, _, _, wa⟩ | ⟨h7, _, _, hab⟩ | ⟨h7, _, hab⟩ | ⟨h7, _, hab⟩ | ⟨rfl, _⟩ | ⟨rfl, _, wa⟩ | ⟨rfl, _, wa, hb⟩ | ⟨rfl, _⟩ | ⟨rfl, _, wa, wb⟩
      · -- let
        have hg : tE d.1 = y ∧ gOk f pp ee tE tN a env (tN (d.1 + 1)) ∧ gOk f pp ee tE tN b (env ++ [d.1 + 1]) y := hg
        have H := ((Ia 0 env _ wa hg.2.1).ap (Ib 0 _ _ wb hg.2.2)).t0 (w := d.1) (m := mSd tN env)
        exact H.lt.sw (List.sublist_cons_self _ _)
      · -- let rec
        have hg : tE d.1 = y ∧ (∃ r, tN (d.1 + 2) = gFn tN d.2.1 (d.1 + 3) r ∧ gOk f pp ee tE tN a (env ++ ([d.1 + 2] ++ List.range' (d.1 + 3) d.2.1)) r) ∧ gOk f pp ee tE tN b (env ++ [d.1 + 2]) y := hg
        obtain ⟨hy, ⟨rr, hf, ga⟩, gb⟩ := hg
        have H := (Ia 0 _ _ wa ga).ap (Ib 0 _ _ wb gb)
        have H1 := H.cn (x := (2 * d.1 + 1, tN (d.1 + 2), List.range' (d.1 + 3) d.2.1)) (U' := ((0, 2 * d.1 + 1), mSd tN env) :: (List.range d.2.1).map (fun i => (((1, d.1 + 3 + i) : Nat × Nat), mSd tN (env ++ ([d.1 + 2] ++ List.range' (d.1 + 3) i))))) (G' := []) ⟨by show (List.range' (d.1 + 3) d.2.1).length ≤ 4; rw [List.length_range']; exact w1, fun i u e => by
          have e : (List.range' (d.1 + 3) d.2.1)[i]? = some u := e
          obtain ⟨hi, e⟩ := List.getElem?_eq_some_iff.mp e
          rw [List.length_range'] at hi
          rw [List.getElem_range', Nat.one_mul] at e
          show yIs (yRs i (tN (d.1 + 2))) ∧ yL (yRs i (tN (d.1 + 2))) = tN u
          rw [hf, ← e]
          exact gFn_t _ _ _ hi⟩ (fun u hu => by
            rcases List.mem_cons.mp hu with hu | hu
            · rw [hu]
              refine Or.inl ⟨rfl, List.range' (d.1 + 3) d.2.1, ?_⟩
              rw [uY_f]
              exact List.mem_cons_self ..
            · obtain ⟨i, i1, i2⟩ := List.mem_map.mp hu
              have i1 := List.mem_range.mp i1
              rw [← i2]
              refine Or.inr ⟨rfl, _, _, _, i, List.mem_cons_self .., ?_, ?_⟩
              · rw [List.getElem?_eq_some_iff]
                refine ⟨by rw [List.length_range']; exact i1, ?_⟩
                rw [List.getElem_range', Nat.one_mul]
              · show yAm i (tN (d.1 + 2)) ≤ mSd tN (env ++ ([d.1 + 2] ++ List.range' (d.1 + 3) i))
                rw [hf, yAm_fn _ _ _ (Nat.le_of_lt i1), mSd_ap, mSd_ap]
                omega) (fun c hc => by cases hc)
        have H2 := H1.t0 (w := d.1) (m := mSd tN env)
        rw [List.nil_append, List.cons_append] at H2
        exact H2.sw (List.sublist_cons_self _ _)
      · -- fun
        have hg : tE d.1 = y ∧ ∃ r, y = yA (tN (d.1 + 1)) r ∧ gOk f pp ee tE tN a (env ++ [d.1 + 1]) r := hg
        obtain ⟨hy, r, hr, ga⟩ := hg
        have H := (Ia 0 _ _ wa ga).cn (x := (2 * d.1, tE d.1, [d.1 + 1])) (U' := [((0, 2 * d.1), mSd tN env), ((1, d.1 + 1), mSd tN env)]) (G' := []) ⟨by show 1 ≤ 4; omega, fun i u e => by
          cases i with
          | zero =>
            have e : some (d.1 + 1) = some u := e
            injection e with e
            show yIs (tE d.1) ∧ yL (tE d.1) = tN u
            rw [hy, hr, ← e]
            exact ⟨rfl, rfl⟩
          | succ i => cases e⟩ (fun u hu => by
            rcases List.mem_cons.mp hu with hu | hu
            · rw [hu]
              refine Or.inl ⟨rfl, [d.1 + 1], ?_⟩
              rw [uY_t]
              exact List.mem_cons_self ..
            · rw [List.mem_singleton.mp hu]
              exact Or.inr ⟨rfl, _, _, _, 0, List.mem_cons_self .., rfl, Nat.zero_le _⟩) (fun c hc => by cases hc)
        exact H
      · -- if
        have hg : tE d.1 = y ∧ gCk f pp ee tN env a ∧ gOk f pp ee tE tN b env y := hg
        exact (Ib 1 env _ wb hg.2.2).t0
      · have hg : gCk f pp ee tN env a ∧ gOk f pp ee tE tN b env y := hg
        exact Ib 0 env _ wb hg.2
      · exact Ia 0 env _ wa hg.2.2
      · rcases h7 with rfl | rfl <;> exact tlA.nl _
      · rcases h7 with rfl | rfl | rfl <;> exact tlA.nl _
      · rcases h7 with rfl | rfl | rfl <;> exact tlA.nl _
      · exact tlA.nl _
      · exact Ia 2 env _ wa hg.2
      · exact (Ia 0 env _ wa hg).sw (List.sublist_append_left _ _)
      · exact tlA.nl _
      · -- match
        have hg : tE d.1 = y ∧ tN (gNu f pp ee env (d.1 + 1)) = yB 3 ∧ (tN d.2.1 = yB 0 ∧ tN (d.2.1 + 1) = yB 3) ∧ gOk f pp ee tE tN a env y ∧ gOk f pp ee tE tN b (env ++ [d.2.1, d.2.1 + 1]) y := hg
        have H := ((Ia 0 env _ wa hg.2.2.2.1).ap (Ib 0 _ _ wb hg.2.2.2.2)).t0 (w := d.1) (m := mSd tN env)
        exact H.sw ((List.Sublist.refl _).append (List.sublist_append_right _ _))
end TLA
