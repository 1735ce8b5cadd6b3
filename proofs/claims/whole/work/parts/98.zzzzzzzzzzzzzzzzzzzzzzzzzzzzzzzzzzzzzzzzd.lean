/-! CAPACITIES: arrows of a PROGRAM's types have roots -/
section UGX
variable {f pp ee : Nat → Int32} {ρ ρ' : Nat → Nat × Nat}
theorem gRo_cg : ∀ (t : tT) (env : List Nat), (∀ u, u = 0 ∨ u ∈ env → ρ u = ρ' u) → gRo f pp ee ρ t env = gRo f pp ee ρ' t env
  | .leaf, _, _ => rfl
  | .inner g d _ a b, env, h => by
    have Ia := gRo_cg a env h
    have Ib := gRo_cg b env h
    unfold gRo
    rw [Ia, Ib, h _ (gNu_in env d.1), h _ (gNu_in env (d.2.2.2.1.2.headD (0, false, 0)).2.2)]
theorem uGq_cg : ∀ (t : tT) (env : List Nat), (∀ u, u = 0 ∨ u ∈ env ∨ u ∈ tW t → ρ u = ρ' u) → uGq f pp ee ρ t env → uGq f pp ee ρ' t env
  | .leaf, _, _, _ => trivial
  | .inner g d z a b, env, h, hu => by
    have Ia := uGq_cg a
    have Ib := uGq_cg b
    by_cases c1 : g = 1
    · subst c1
      have h : ∀ u, u = 0 ∨ u ∈ env ∨ u ∈ (d.1 + 1) :: (tW a ++ tW b) → ρ u = ρ' u := h
      have hu : ρ (d.1 + 1) = gRo f pp ee ρ a env ∧ uGq f pp ee ρ a env ∧ uGq f pp ee ρ b (env ++ [d.1 + 1]) := hu
      refine ⟨?_, Ia env (fun u q => h u (q.imp_right (fun q => q.imp_right (fun q => List.mem_cons_of_mem _ (List.mem_append_left _ q)))) ) hu.2.1, Ib _ (fun u q => h u ?_) hu.2.2⟩
      · rw [← h _ (Or.inr (Or.inr (List.mem_cons_self ..))), hu.1]
        exact gRo_cg a env (fun u q => h u (q.imp_right Or.inl))
      · rcases q with q | q | q
        · exact Or.inl q
        · rcases List.mem_append.mp q with q | q
          · exact Or.inr (Or.inl q)
          · rw [List.mem_singleton.mp q]; exact Or.inr (Or.inr (List.mem_cons_self ..))
        · exact Or.inr (Or.inr (List.mem_cons_of_mem _ (List.mem_append_right _ q)))
    by_cases c2 : g = 2
    · subst c2
      have h : ∀ u, u = 0 ∨ u ∈ env ∨ u ∈ (d.1 + 2) :: (List.range' (d.1 + 3) d.2.1 ++ (tW a ++ tW b)) → ρ u = ρ' u := h
      have hu : (ρ (d.1 + 2) = (0, 2 * d.1 + 1) ∧ ∀ i, i < d.2.1 → ρ (d.1 + 3 + i) = (1, d.1 + 3 + i)) ∧ uGq f pp ee ρ a (env ++ ([d.1 + 2] ++ List.range' (d.1 + 3) d.2.1)) ∧ uGq f pp ee ρ b (env ++ [d.1 + 2]) := hu
      refine ⟨⟨by rw [← h _ (Or.inr (Or.inr (List.mem_cons_self ..)))]; exact hu.1.1, fun i hi => ?_⟩, Ia _ (fun u q => h u ?_) hu.2.1, Ib _ (fun u q => h u ?_) hu.2.2⟩
      · rw [← h _ (Or.inr (Or.inr (List.mem_cons_of_mem _ (List.mem_append_left _ (List.mem_range'_1.mpr ⟨by omega, by omega⟩)))))]
        exact hu.1.2 i hi
      · rcases q with q | q | q
        · exact Or.inl q
        · rcases List.mem_append.mp q with q | q
          · exact Or.inr (Or.inl q)
          · rcases List.mem_append.mp q with q | q
            · rw [List.mem_singleton.mp q]; exact Or.inr (Or.inr (List.mem_cons_self ..))
            · exact Or.inr (Or.inr (List.mem_cons_of_mem _ (List.mem_append_left _ q)))
        · exact Or.inr (Or.inr (List.mem_cons_of_mem _ (List.mem_append_right _ (List.mem_append_left _ q))))
      · rcases q with q | q | q
        · exact Or.inl q
        · rcases List.mem_append.mp q with q | q
          · exact Or.inr (Or.inl q)
          · rw [List.mem_singleton.mp q]; exact Or.inr (Or.inr (List.mem_cons_self ..))
        · exact Or.inr (Or.inr (List.mem_cons_of_mem _ (List.mem_append_right _ (List.mem_append_right _ q))))
    by_cases c3 : g = 3
    · subst c3
      have h : ∀ u, u = 0 ∨ u ∈ env ∨ u ∈ (d.1 + 1) :: tW a → ρ u = ρ' u := h
      have hu : ρ (d.1 + 1) = (1, d.1 + 1) ∧ uGq f pp ee ρ a (env ++ [d.1 + 1]) := hu
      refine ⟨by rw [← h _ (Or.inr (Or.inr (List.mem_cons_self ..)))]; exact hu.1, Ia _ (fun u q => h u ?_) hu.2⟩
      rcases q with q | q | q
      · exact Or.inl q
      · rcases List.mem_append.mp q with q | q
        · exact Or.inr (Or.inl q)
        · rw [List.mem_singleton.mp q]; exact Or.inr (Or.inr (List.mem_cons_self ..))
      · exact Or.inr (Or.inr (List.mem_cons_of_mem _ q))
    by_cases c4 : g = 4
    · subst c4
      exact Ib env (fun u q => h u q) hu
    by_cases c5 : g = 5
    · subst c5
      exact Ib env (fun u q => h u q) hu
    by_cases c6 : g = 6
    · subst c6
      exact Ia env (fun u q => h u q) hu
    by_cases c15 : g = 15
    · subst c15
      exact Ia env (fun u q => h u q) hu
    by_cases c16 : g = 16
    · subst c16
      exact Ia env (fun u q => h u (q.imp_right (fun q => q.imp_right (fun q => List.mem_append_left _ q)))) hu
    by_cases c19 : g = 19
    · subst c19
      have h : ∀ u, u = 0 ∨ u ∈ env ∨ u ∈ tW a ++ ([d.2.1, d.2.1 + 1] ++ tW b) → ρ u = ρ' u := h
      have hu : uGq f pp ee ρ a env ∧ uGq f pp ee ρ b (env ++ [d.2.1, d.2.1 + 1]) := hu
      refine ⟨Ia env (fun u q => h u (q.imp_right (fun q => q.imp_right (fun q => List.mem_append_left _ q)))) hu.1, Ib _ (fun u q => h u ?_) hu.2⟩
      rcases q with q | q | q
      · exact Or.inl q
      · rcases List.mem_append.mp q with q | q
        · exact Or.inr (Or.inl q)
        · exact Or.inr (Or.inr (List.mem_append_right _ (List.mem_append_left _ q)))
      · exact Or.inr (Or.inr (List.mem_append_right _ (List.mem_append_right _ q)))
    by_cases c31 : g = 31
    · subst c31
      have hu : uGq f pp ee ρ a env ∧ uGq f pp ee ρ b env := hu
      exact ⟨Ia env (fun u q => h u (q.imp_right (fun q => q.imp_right (fun q => List.mem_append_left _ q)))) hu.1, Ib env (fun u q => h u (q.imp_right (fun q => q.imp_right (fun q => List.mem_append_right _ q)))) hu.2⟩
    by_cases c34 : g = 34
    · subst c34
      have hu : uGq f pp ee ρ a env ∧ uGq f pp ee ρ b env := hu
      exact ⟨Ia env (fun u q => h u (q.imp_right (fun q => q.imp_right (fun q => List.mem_append_left _ q)))) hu.1, Ib env (fun u q => h u (q.imp_right (fun q => q.imp_right (fun q => List.mem_append_right _ q)))) hu.2⟩
    by_cases c33 : g = 33
    · subst c33
      exact Ib env (fun u q => h u (q.imp_right (fun q => q.imp_right (fun q => List.mem_append_right _ q)))) hu
    by_cases c35 : g = 35
    · subst c35
      exact Ib env (fun u q => h u (q.imp_right (fun q => q.imp_right (fun q => List.mem_append_right _ q)))) hu
    unfold uGq
    rw [if_neg c1, if_neg c2, if_neg c3, if_neg (by omega), if_neg (by omega), if_neg c19, if_neg (by omega), if_neg (by omega)]
    trivial
/-- **there is such a ρ** -/
theorem uGq_ex : ∀ (t : tT) (env : List Nat) (ρ0 : Nat → Nat × Nat), (∀ u, u ∈ env → u ∉ tW t) → 0 ∉ tW t → (tW t).Nodup → ∃ ρ, (∀ u, u ∉ tW t → ρ u = ρ0 u) ∧ uGq f pp ee ρ t env
  | .leaf, _, ρ0, _, _, _ => ⟨ρ0, fun _ _ => rfl, trivial⟩
  | .inner g d z a b, env, ρ0, he, h0, nd => by
    have Ia := uGq_ex a
    have Ib := uGq_ex b
    have two : ∀ {W : List Nat}, W = tW a ++ tW b → (∀ u, u ∈ env → u ∉ W) → 0 ∉ W → W.Nodup → ∃ ρ, (∀ u, u ∉ W → ρ u = ρ0 u) ∧ uGq f pp ee ρ a env ∧ uGq f pp ee ρ b env := fun {W} eW he h0 nd => by
      subst eW
      obtain ⟨n1, n2, n3⟩ := List.nodup_append.mp nd
      obtain ⟨ra, a1, a2⟩ := Ia env ρ0 (fun u hu q => he u hu (List.mem_append_left _ q)) (fun q => h0 (List.mem_append_left _ q)) n1
      obtain ⟨rb, b1, b2⟩ := Ib env ra (fun u hu q => he u hu (List.mem_append_right _ q)) (fun q => h0 (List.mem_append_right _ q)) n2
      refine ⟨rb, fun u hu => (b1 u (fun q => hu (List.mem_append_right _ q))).trans (a1 u (fun q => hu (List.mem_append_left _ q))), uGq_cg a env (fun u q => ?_) a2, b2⟩
      refine (b1 u (fun w => ?_)).symm
      rcases q with q | q | q
      · rw [q] at w; exact h0 (List.mem_append_right _ w)
      · exact he u q (List.mem_append_right _ w)
      · exact n3 u q u w rfl
    by_cases c1 : g = 1
    · subst c1
      have he : ∀ u, u ∈ env → u ∉ (d.1 + 1) :: (tW a ++ tW b) := he
      have h0 : 0 ∉ (d.1 + 1) :: (tW a ++ tW b) := h0
      have nd : ((d.1 + 1) :: (tW a ++ tW b)).Nodup := nd
      obtain ⟨n0, nd⟩ := List.nodup_cons.mp nd
      obtain ⟨n1, n2, n3⟩ := List.nodup_append.mp nd
      obtain ⟨ra, a1, a2⟩ := Ia env ρ0 (fun u hu q => he u hu (List.mem_cons_of_mem _ (List.mem_append_left _ q))) (fun q => h0 (List.mem_cons_of_mem _ (List.mem_append_left _ q))) n1
      obtain ⟨rb, b1, b2⟩ := Ib (env ++ [d.1 + 1]) (fun u => if u = d.1 + 1 then gRo f pp ee ra a env else ra u) (fun u hu q => by
        rcases List.mem_append.mp hu with hu | hu
        · exact he u hu (List.mem_cons_of_mem _ (List.mem_append_right _ q))
        · rw [List.mem_singleton.mp hu] at q; exact n0 (List.mem_append_right _ q)) (fun q => h0 (List.mem_cons_of_mem _ (List.mem_append_right _ q))) n2
      have ag : ∀ u, u ≠ d.1 + 1 → u ∉ tW b → ra u = rb u := fun u h1 h2 => by
        rw [b1 u h2, if_neg h1]
      have ag2 : ∀ u, u = 0 ∨ u ∈ env ∨ u ∈ tW a → ra u = rb u := fun u q => by
        rcases q with q | q | q
        · exact ag u (fun e => h0 (by rw [← q, e]; exact List.mem_cons_self ..)) (fun w => h0 (by rw [← q]; exact List.mem_cons_of_mem _ (List.mem_append_right _ w)))
        · exact ag u (fun e => he u q (by rw [e]; exact List.mem_cons_self ..)) (fun w => he u q (List.mem_cons_of_mem _ (List.mem_append_right _ w)))
        · exact ag u (fun e => n0 (by rw [← e]; exact List.mem_append_left _ q)) (fun w => n3 u q u w rfl)
      refine ⟨rb, fun u hu => ?_, ?_, uGq_cg a env ag2 a2, b2⟩
      · have hu : u ∉ (d.1 + 1) :: (tW a ++ tW b) := hu
        rw [b1 u (fun q => hu (List.mem_cons_of_mem _ (List.mem_append_right _ q))), if_neg (fun e => hu (by rw [e]; exact List.mem_cons_self ..))]
        exact a1 u (fun q => hu (List.mem_cons_of_mem _ (List.mem_append_left _ q)))
      · rw [b1 _ (fun q => n0 (List.mem_append_right _ q)), if_pos rfl]
        exact gRo_cg a env (fun u q => ag2 u (q.imp_right Or.inl))
    by_cases c2 : g = 2
    · subst c2
      have he : ∀ u, u ∈ env → u ∉ (d.1 + 2) :: (List.range' (d.1 + 3) d.2.1 ++ (tW a ++ tW b)) := he
      have h0 : 0 ∉ (d.1 + 2) :: (List.range' (d.1 + 3) d.2.1 ++ (tW a ++ tW b)) := h0
      have nd : ((d.1 + 2) :: (List.range' (d.1 + 3) d.2.1 ++ (tW a ++ tW b))).Nodup := nd
      obtain ⟨n0, nd⟩ := List.nodup_cons.mp nd
      obtain ⟨-, nd, nr⟩ := List.nodup_append.mp nd
      obtain ⟨n1, n2, n3⟩ := List.nodup_append.mp nd
      have ea : ∀ u, u ∈ env ++ ([d.1 + 2] ++ List.range' (d.1 + 3) d.2.1) → u ∉ tW a ++ tW b := fun u hu q => by
        rcases List.mem_append.mp hu with hu | hu
        · exact he u hu (List.mem_cons_of_mem _ (List.mem_append_right _ q))
        · rcases List.mem_append.mp hu with hu | hu
          · rw [List.mem_singleton.mp hu] at q; exact n0 (List.mem_append_right _ q)
          · exact nr u hu u q rfl
      have z0 : 0 ∉ tW a ++ tW b := fun q => h0 (List.mem_cons_of_mem _ (List.mem_append_right _ q))
      obtain ⟨ra, a1, a2⟩ := Ia (env ++ ([d.1 + 2] ++ List.range' (d.1 + 3) d.2.1)) (fun u => if u = d.1 + 2 then (0, 2 * d.1 + 1) else if d.1 + 3 ≤ u ∧ u < d.1 + 3 + d.2.1 then (1, u) else ρ0 u) (fun u hu q => ea u hu (List.mem_append_left _ q)) (fun q => z0 (List.mem_append_left _ q)) n1
      obtain ⟨rb, b1, b2⟩ := Ib (env ++ [d.1 + 2]) ra (fun u hu q => ea u (by
        rcases List.mem_append.mp hu with hu | hu
        · exact List.mem_append_left _ hu
        · exact List.mem_append_right _ (List.mem_append_left _ hu)) (List.mem_append_right _ q)) (fun q => z0 (List.mem_append_right _ q)) n2
      have off : ∀ u, u ∉ tW a ++ tW b → rb u = if u = d.1 + 2 then (0, 2 * d.1 + 1) else if d.1 + 3 ≤ u ∧ u < d.1 + 3 + d.2.1 then (1, u) else ρ0 u := fun u hu => (b1 u (fun q => hu (List.mem_append_right _ q))).trans (a1 u (fun q => hu (List.mem_append_left _ q)))
      refine ⟨rb, fun u hu => ?_, ⟨?_, fun i hi => ?_⟩, uGq_cg a _ (fun u q => (b1 u (fun w => ?_)).symm) a2, b2⟩
      · have hu : u ∉ (d.1 + 2) :: (List.range' (d.1 + 3) d.2.1 ++ (tW a ++ tW b)) := hu
        rw [off u (fun q => hu (List.mem_cons_of_mem _ (List.mem_append_right _ q))), if_neg (fun e => hu (by rw [e]; exact List.mem_cons_self ..)), if_neg (fun e => hu (List.mem_cons_of_mem _ (List.mem_append_left _ (List.mem_range'_1.mpr e))))]
      · rw [off _ (fun q => n0 (List.mem_append_right _ q)), if_pos rfl]
      · rw [off _ (ea _ (List.mem_append_right _ (List.mem_append_right _ (List.mem_range'_1.mpr ⟨by omega, by omega⟩)))), if_neg (by omega), if_pos ⟨by omega, by omega⟩]
      · rcases q with q | q | q
        · rw [q] at w; exact z0 (List.mem_append_right _ w)
        · exact ea u q (List.mem_append_right _ w)
        · exact n3 u q u w rfl
    by_cases c3 : g = 3
    · subst c3
      have he : ∀ u, u ∈ env → u ∉ (d.1 + 1) :: tW a := he
      have h0 : 0 ∉ (d.1 + 1) :: tW a := h0
      have nd : ((d.1 + 1) :: tW a).Nodup := nd
      obtain ⟨n0, nd⟩ := List.nodup_cons.mp nd
      obtain ⟨ra, a1, a2⟩ := Ia (env ++ [d.1 + 1]) (fun u => if u = d.1 + 1 then (1, d.1 + 1) else ρ0 u) (fun u hu q => by
        rcases List.mem_append.mp hu with hu | hu
        · exact he u hu (List.mem_cons_of_mem _ q)
        · rw [List.mem_singleton.mp hu] at q; exact n0 q) (fun q => h0 (List.mem_cons_of_mem _ q)) nd
      refine ⟨ra, fun u hu => ?_, ?_, a2⟩
      · have hu : u ∉ (d.1 + 1) :: tW a := hu
        rw [a1 u (fun q => hu (List.mem_cons_of_mem _ q)), if_neg (fun e => hu (by rw [e]; exact List.mem_cons_self ..))]
      · rw [a1 _ n0, if_pos rfl]
    by_cases c4 : g = 4
    · subst c4
      exact Ib env ρ0 he h0 nd
    by_cases c5 : g = 5
    · subst c5
      exact Ib env ρ0 he h0 nd
    by_cases c6 : g = 6
    · subst c6
      exact Ia env ρ0 he h0 nd
    by_cases c15 : g = 15
    · subst c15
      exact Ia env ρ0 he h0 nd
    by_cases c16 : g = 16
    · subst c16
      obtain ⟨r, r1, r2, -⟩ := two (W := tW a ++ tW b) rfl he h0 nd
      exact ⟨r, r1, r2⟩
    by_cases c19 : g = 19
    · subst c19
      have he : ∀ u, u ∈ env → u ∉ tW a ++ ([d.2.1, d.2.1 + 1] ++ tW b) := he
      have h0 : 0 ∉ tW a ++ ([d.2.1, d.2.1 + 1] ++ tW b) := h0
      have nd : (tW a ++ ([d.2.1, d.2.1 + 1] ++ tW b)).Nodup := nd
      obtain ⟨n1, nd, n3⟩ := List.nodup_append.mp nd
      obtain ⟨-, n2, n4⟩ := List.nodup_append.mp nd
      obtain ⟨ra, a1, a2⟩ := Ia env ρ0 (fun u hu q => he u hu (List.mem_append_left _ q)) (fun q => h0 (List.mem_append_left _ q)) n1
      obtain ⟨rb, b1, b2⟩ := Ib (env ++ [d.2.1, d.2.1 + 1]) ra (fun u hu q => by
        rcases List.mem_append.mp hu with hu | hu
        · exact he u hu (List.mem_append_right _ (List.mem_append_right _ q))
        · exact n4 u hu u q rfl) (fun q => h0 (List.mem_append_right _ (List.mem_append_right _ q))) n2
      refine ⟨rb, fun u hu => (b1 u (fun q => hu (List.mem_append_right _ (List.mem_append_right _ q)))).trans (a1 u (fun q => hu (List.mem_append_left _ q))), uGq_cg a env (fun u q => (b1 u (fun w => ?_)).symm) a2, b2⟩
      rcases q with q | q | q
      · rw [q] at w; exact h0 (List.mem_append_right _ (List.mem_append_right _ w))
      · exact he u q (List.mem_append_right _ (List.mem_append_right _ w))
      · exact n3 u q u (List.mem_append_right _ w) rfl
    by_cases c31 : g = 31
    · subst c31
      exact two (W := tW a ++ tW b) rfl he h0 nd
    by_cases c34 : g = 34
    · subst c34
      exact two (W := tW a ++ tW b) rfl he h0 nd
    by_cases c33 : g = 33
    · subst c33
      obtain ⟨r, r1, -, r2⟩ := two (W := tW a ++ tW b) rfl he h0 nd
      exact ⟨r, r1, r2⟩
    by_cases c35 : g = 35
    · subst c35
      obtain ⟨r, r1, -, r2⟩ := two (W := tW a ++ tW b) rfl he h0 nd
      exact ⟨r, r1, r2⟩
    refine ⟨ρ0, fun _ _ => rfl, ?_⟩
    unfold uGq
    rw [if_neg c1, if_neg c2, if_neg c3, if_neg (by omega), if_neg (by omega), if_neg c19, if_neg (by omega), if_neg (by omega)]
    trivial
end UGX
section TXR
variable {T len cnt j N S P Q x0 : Nat} {kk pp ee f fc : Nat → Int32} {xs : List tQ} {is : List (Nat × Nat)} {e : tT} {α : Nat → tY} {τ : zSt}
theorem mIn_0 {u : Nat} : ∀ (is : List (Nat × Nat)) (s : mS), u ∉ is.map Prod.fst → (mIn is s).2.2.1 u = s.2.2.1 u
  | [], _, _ => rfl
  | x :: xs, s, h => by
    have h : u ∉ x.1 :: xs.map Prod.fst := h
    show (mIn xs (mNt x.1 (mB x.2) s)).2.2.1 u = _
    rw [mIn_0 xs _ (fun z => h (List.mem_cons_of_mem _ z))]
    exact mUp_ne _ _ (fun z => h (by rw [z]; exact List.mem_cons_self ..))
/-- **roots of all arrows** -/
theorem tx_rp (hT : 2010 ≤ T) (hp : pgT T len cnt j kk pp ee f fc xs is e α) (hr : rPo T len cnt kk pp ee f xs is e N S P Q x0 τ) : ∃ ρ, (∀ u, u ∈ tTg e → ∀ z, yIn z (pTE f pp ee is e α u) → uRp ρ (pTE f pp ee is e α) (pTN f pp ee is e α) (gUn (pTN f pp ee is e α) e (is.map Prod.fst)) (gLt e) z) ∧ ∀ u, u ∈ is.map Prod.fst ++ tW e → ∀ z, yIn z (pTN f pp ee is e α u) → uRp ρ (pTE f pp ee is e α) (pTN f pp ee is e α) (gUn (pTN f pp ee is e α) e (is.map Prod.fst)) (gLt e) z := by
  obtain ⟨⟨-, -, -, -, -, f3, -⟩, -, -, w0, nd, gok⟩ := tx_1 hT hp hr
  have hp' := hp
  obtain ⟨-, -, -, -, -, ⟨⟨g1, g2, ⟨i0, g3⟩, ⟨-, -, g4''⟩, -, g6, -⟩, -, -, p6'''⟩, -⟩ := hp
  have h0 : yK (pTN f pp ee is e α 0) ≠ 1 := by
    have e1 : (mEnd f pp ee is e).2.2.1 0 = mB 0 := by
      show (mE f pp ee e (is.map Prod.fst) (mIn is mI0)).1.2.2.1 0 = _
      rw [(mLe.e e _ _).2.2 0 (fun z => w0 (List.mem_append_right _ z)), mIn_0 is mI0 (fun z => w0 (List.mem_append_left _ z))]
      rfl
    show yK ((mEnd f pp ee is e).2.2.1 0 α) ≠ 1
    rw [e1]
    show yK (yB 0) ≠ 1
    decide
  have hin : ∀ (i : Nat) (y : Nat × Nat), is[i]? = some y → (mEnd f pp ee is e).2.2.1 y.1 α = mB y.2 α := fun i y hy => congrFun (in_ty g6 hy) α
  obtain ⟨n1, n2, n3⟩ := List.nodup_append.mp nd
  obtain ⟨ρ, -, hG⟩ := uGq_ex (f := f) (pp := pp) (ee := ee) e (is.map Prod.fst) (fun _ => (0, 0)) (fun u hu q => n3 u hu u q rfl) (fun q => w0 (List.mem_append_right _ q)) n2
  have hE : uEn ρ (pTE f pp ee is e α) (pTN f pp ee is e α) (gUn (pTN f pp ee is e α) e (is.map Prod.fst)) (gLt e) i0 [] [] (is.map Prod.fst) := ⟨fun c hc => (by cases hc), fun c hc => (by cases hc), fun i u hi hk => by
    rw [List.getElem?_map] at hi
    cases ei : is[i]? with
    | none => rw [ei] at hi; cases hi
    | some y =>
      rw [ei] at hi
      injection hi with hi
      have hk : yK ((mEnd f pp ee is e).2.2.1 u α) = 1 := hk
      rw [← hi, hin i y ei] at hk
      have hk : y.2 + 2 = 1 := hk
      omega⟩
  have hA := ((gRp (L := is.map Prod.fst ++ tW e) (kk := kk) (cnt := cnt) h0 e).1 0 (by decide) g2 (is.map Prod.fst) _ i0 cnt [] [] gok g3 hE hG (fun _ h => h) (fun _ h => h) p6''' g4'' f3).1
  obtain ⟨a1, a2⟩ := tx_ar hT hp' hr hA
  exact ⟨ρ, fun u hu z hz => uAA_to (a1 u hu z hz), fun u hu z hz => uAA_to (a2 u hu z hz)⟩
end TXR
