/-! CAPACITIES: what counts at a piece -/
section TLM
variable {f pp ee : Nat → Int32} {tE tN : Nat → tY} {kk : Nat → Int32} {cnt : Nat}
theorem tLc_m {L : List Nat} : ∀ (t : tT) (l : Nat), tWf kk cnt t l → ∀ env ty, gOk f pp ee tE tN t env ty → rEv L t env → ∀ x, x ∈ tLc tE tN t env → x.2 + x.1.2.2.length ≤ 12
  | .leaf, _, _, _, _, _, _ => fun x hx => by cases hx
  | .inner g d z a b, l, wf, env, ty, hg, hev => by
    have Ia := tLc_m (L := L) a
    have Ib := tLc_m (L := L) b
    have e12 : env.length ≤ 12 := hev.1.1
    have ml := mSd_le tN env
    intro x hx
    have AP : ∀ {l1 l2 : List ((Nat × tY × List Nat) × Nat)}, (∀ x, x ∈ l1 → x.2 + x.1.2.2.length ≤ 12) → (∀ x, x ∈ l2 → x.2 + x.1.2.2.length ≤ 12) → x ∈ l1 ++ l2 → x.2 + x.1.2.2.length ≤ 12 := fun h h' hx => by
      rcases List.mem_append.mp hx with q | q
      · exact h x q
      · exact h' x q
    rcases wf with ⟨rfl, rfl, _, wa, wb⟩ | ⟨rfl, _, wb, w⟩ | ⟨_, w⟩
    · have hg : gOk f pp ee tE tN a env ty ∧ gOk f pp ee tE tN b env ty := hg
      have hev : rEv L a env ∧ rEv L b env := hev.2
      exact AP (Ia 0 wa env _ hg.1 hev.1) (Ib 0 wb env _ hg.2 hev.2) hx
    · rcases w with ⟨rfl, _, ha⟩ | ⟨rfl, _, wa⟩ | ⟨rfl, _, ha, _⟩
      · have hev : rEv L a env ∧ rEv L b env := hev.2
        exact Ib 2 wb env _ hg.2.2 hev.2 x hx
      · have hg : yIs ty ∧ gOk f pp ee tE tN a env (yL ty) ∧ gOk f pp ee tE tN b env (yR ty) := hg
        have hev : rEv L a env ∧ rEv L b env := hev.2
        exact AP (Ia 0 wa env _ hg.2.1 hev.1) (Ib 2 wb env _ hg.2.2 hev.2) hx
      · have hev : rEv L a env ∧ rEv L b env := hev.2
        exact Ib 2 wb env _ hg.2.2 hev.2 x hx
    · rcases w with ⟨rfl, _, wa, wb⟩ | ⟨rfl, ⟨w1, w2, _⟩, wa, wb⟩ | ⟨rfl, _, wa⟩ | ⟨rfl, wc, wb⟩ | ⟨rfl, wc, wb⟩ | ⟨rfl, _, _, wa⟩ | ⟨h7, _, _, hab⟩ | ⟨h7, _, hab⟩ | ⟨h7, _, hab⟩ | ⟨rfl, _⟩ | ⟨rfl, _, wa⟩ | ⟨rfl, _, wa, hb⟩ | ⟨rfl, _⟩ | ⟨rfl, _, wa, wb⟩
      · have hg : tE d.1 = ty ∧ gOk f pp ee tE tN a env (tN (d.1 + 1)) ∧ gOk f pp ee tE tN b (env ++ [d.1 + 1]) ty := hg
        have hev : rEv L a env ∧ rEv L b (env ++ [d.1 + 1]) := hev.2
        have hx : x ∈ ((2 * d.1, tE d.1, []), mSd tN env) :: (tLc tE tN a env ++ tLc tE tN b (env ++ [d.1 + 1])) := hx
        rcases List.mem_cons.mp hx with hx | hx
        · rw [hx]
          show mSd tN env + 0 ≤ 12
          omega
        · exact AP (Ia 0 wa env _ hg.2.1 hev.1) (Ib 0 wb _ _ hg.2.2 hev.2) hx
      · have hg : tE d.1 = ty ∧ (∃ r, tN (d.1 + 2) = gFn tN d.2.1 (d.1 + 3) r ∧ gOk f pp ee tE tN a (env ++ ([d.1 + 2] ++ List.range' (d.1 + 3) d.2.1)) r) ∧ gOk f pp ee tE tN b (env ++ [d.1 + 2]) ty := hg
        obtain ⟨hy, ⟨rr, hf, ga⟩, gb⟩ := hg
        have hev : rEv L a (env ++ ([d.1 + 2] ++ List.range' (d.1 + 3) d.2.1)) ∧ rEv L b (env ++ [d.1 + 2]) := hev.2
        have l12 := rEv_l wa hev.1
        rw [List.length_append, List.length_append, List.length_range'] at l12
        have l12 : env.length + (1 + d.2.1) ≤ 12 := l12
        have hx : x ∈ ((2 * d.1, tE d.1, []), mSd tN env) :: ((2 * d.1 + 1, tN (d.1 + 2), List.range' (d.1 + 3) d.2.1), mSd tN env) :: (tLc tE tN a (env ++ ([d.1 + 2] ++ List.range' (d.1 + 3) d.2.1)) ++ tLc tE tN b (env ++ [d.1 + 2])) := hx
        rcases List.mem_cons.mp hx with hx | hx
        · rw [hx]
          show mSd tN env + 0 ≤ 12
          omega
        · rcases List.mem_cons.mp hx with hx | hx
          · rw [hx]
            show mSd tN env + (List.range' (d.1 + 3) d.2.1).length ≤ 12
            rw [List.length_range']
            omega
          · exact AP (Ia 0 wa _ _ ga hev.1) (Ib 0 wb _ _ gb hev.2) hx
      · have hg : tE d.1 = ty ∧ ∃ r, ty = yA (tN (d.1 + 1)) r ∧ gOk f pp ee tE tN a (env ++ [d.1 + 1]) r := hg
        obtain ⟨hy, r, hr, ga⟩ := hg
        have hev : rEv L a (env ++ [d.1 + 1]) := hev.2
        have l12 := rEv_l wa hev
        rw [List.length_append, List.length_singleton] at l12
        have hx : x ∈ ((2 * d.1, tE d.1, [d.1 + 1]), mSd tN env) :: tLc tE tN a (env ++ [d.1 + 1]) := hx
        rcases List.mem_cons.mp hx with hx | hx
        · rw [hx]
          show mSd tN env + 1 ≤ 12
          omega
        · exact Ia 0 wa _ _ ga hev x hx
      · have hg : tE d.1 = ty ∧ gCk f pp ee tN env a ∧ gOk f pp ee tE tN b env ty := hg
        have hev : rEv L b env := hev.2
        have hx : x ∈ ((2 * d.1, tE d.1, []), mSd tN env) :: tLc tE tN b env := hx
        rcases List.mem_cons.mp hx with hx | hx
        · rw [hx]
          show mSd tN env + 0 ≤ 12
          omega
        · exact Ib 1 wb env _ hg.2.2 hev x hx
      · have hg : gCk f pp ee tN env a ∧ gOk f pp ee tE tN b env ty := hg
        have hev : rEv L b env := hev.2
        exact Ib 0 wb env _ hg.2 hev x hx
      · have hev : rEv L a env ∧ rEv L b env := hev.2
        exact Ia 0 wa env _ hg.2.2 hev.1 x hx
      · rcases h7 with rfl | rfl <;> cases hx
      · rcases h7 with rfl | rfl | rfl <;> cases hx
      · rcases h7 with rfl | rfl | rfl <;> cases hx
      · cases hx
      · have hev : rEv L a env ∧ rEv L b env := hev.2
        exact Ia 2 wa env _ hg.2 hev.1 x hx
      · have hev : rEv L a env ∧ rEv L b env := hev.2
        exact Ia 0 wa env _ hg hev.1 x hx
      · cases hx
      · have hg : tE d.1 = ty ∧ tN (gNu f pp ee env (d.1 + 1)) = yB 3 ∧ (tN d.2.1 = yB 0 ∧ tN (d.2.1 + 1) = yB 3) ∧ gOk f pp ee tE tN a env ty ∧ gOk f pp ee tE tN b (env ++ [d.2.1, d.2.1 + 1]) ty := hg
        have hev : rEv L a env ∧ rEv L b (env ++ [d.2.1, d.2.1 + 1]) := hev.2
        have hx : x ∈ ((2 * d.1, tE d.1, []), mSd tN env) :: (tLc tE tN a env ++ tLc tE tN b (env ++ [d.2.1, d.2.1 + 1])) := hx
        rcases List.mem_cons.mp hx with hx | hx
        · rw [hx]
          show mSd tN env + 0 ≤ 12
          omega
        · exact AP (Ia 0 wa env _ hg.2.2.2.1 hev.1) (Ib 0 wb _ _ hg.2.2.2.2 hev.2) hx
end TLM
