/-! CAPACITIES: every arrow that is asked for has a root -/
section URM
variable {ρ : Nat → Nat × Nat} {f pp ee : Nat → Int32} {tE tN : Nat → tY} {Un : List ((Nat × Nat) × Nat)} {Ls L O V env : List Nat} {kk : Nat → Int32} {cnt i j : Nat}
theorem yIs_k {y : tY} (h : yIs y) : yK y = 1 := by rw [h]; rfl
theorem uY_t (w : Nat) : uY tE tN (0, 2 * w) = tE w := by
  unfold uY
  rw [if_pos rfl, if_pos (show 2 * w % 2 = 0 by omega)]
  show tE (2 * w / 2) = _
  congr 1
  omega
theorem uY_f (w : Nat) : uY tE tN (0, 2 * w + 1) = tN (w + 2) := by
  unfold uY
  rw [if_pos rfl, if_neg (show ¬ (2 * w + 1) % 2 = 0 by omega)]
  show tN ((2 * w + 1) / 2 + 2) = _
  congr 1
  omega
theorem uY_p (u : Nat) : uY tE tN (1, u) = tN u := rfl
theorem rEv_l {t : tT} (hw : tWf kk cnt t 0) (h : rEv L t env) : env.length ≤ 12 := by
  cases t with
  | leaf =>
    have hw : (0 : Nat) = 2 := hw
    cases hw
  | inner g d z a b => exact h.1.1
theorem gOk_i {a : tT} {y : tY} (wa : tWf kk cnt a 2) (h : gOk f pp ee tE tN a env y) (hq : 0 < tQn a) : yK y = 1 := by
  cases a with
  | leaf => exact absurd hq (Nat.lt_irrefl _)
  | inner g d z a b =>
    rcases wa with ⟨h2, _⟩ | ⟨_, _, wb, w⟩ | ⟨h2, _⟩
    · cases h2
    · rcases w with ⟨rfl, _⟩ | ⟨rfl, _⟩ | ⟨rfl, _⟩
      · exact yIs_k h.1
      · exact yIs_k h.1
      · exact yIs_k h.1
    · cases h2
/-- what is taken at a place comes from another unit -/
theorem uSu (hE : uEn ρ tE tN Un Ls i O V env) {id : Nat × Nat} {p : Nat} (hij : i ≤ j) (hs : yK (yL (yRs p (uY tE tN id))) = 1 → (∃ u, u ∈ env ∧ tN u = yL (yRs p (uY tE tN id))) ∨ ∃ w m, (((0, 2 * w) : Nat × Nat), m) ∈ Un ∧ (i ≤ w ∧ w < j) ∧ tE w = yL (yRs p (uY tE tN id))) : uCp tE tN Un j V id p := fun hk => by
  rcases hs hk with ⟨u, hu, e⟩ | ⟨w, m, h1, ⟨h2, h3⟩, e⟩
  · obtain ⟨i', hi'⟩ := List.mem_iff_getElem?.mp hu
    obtain ⟨r, ⟨⟨q1, q2⟩, q3, q4, ⟨q5, q6⟩, q7⟩, -⟩ := hE.2.2 i' u hi' (by rw [e]; exact hk)
    by_cases c : r.1 = id
    · rw [c] at q2
      have lt : p < r.2.2.1 := yOw (q2.symm.trans e) hk
      obtain ⟨id', m', k', a1, a2, a3, a4, a5⟩ := q7 p lt (by rw [c]; exact hk)
      rw [c] at a2 a5
      exact ⟨id', m', k', a1, a2, fun z => by have := a3 z; omega, a4, a5⟩
    · exact ⟨r.1, r.2.1, r.2.2.1, q1, c, fun z => by have := q5 z; omega, q6, by rw [← e]; exact q2⟩
  · refine ⟨(0, 2 * w), m, 0, h1, fun z => ?_, fun _ => by show 2 * w / 2 < j; omega, fun c hc e' => ?_, ?_⟩
    · have e2 : uY tE tN id = tE w := by rw [← z]; exact uY_t w
      have := yOw (Y := uY tE tN id) (k := 0) (j := p) (by show uY tE tN id = _; rw [← e]; exact e2) hk
      omega
    · injection e' with _ e'
      have := hE.2.1 c hc
      omega
    · rw [← e]
      exact (uY_t w).symm
theorem mSd_c (tN : Nat → tY) (w : Nat) (env : List Nat) : mSd tN (w :: env) = (if gMs (tN w) = true then 1 else 0) + mSd tN env := by
  have e : (w :: env).filter (fun u => gMs (tN u)) = if gMs (tN w) = true then w :: env.filter (fun u => gMs (tN u)) else env.filter (fun u => gMs (tN u)) := List.filter_cons
  unfold mSd
  rw [e]
  by_cases c : gMs (tN w) = true
  · rw [if_pos c, if_pos c, List.length_cons]
    omega
  · rw [if_neg c, if_neg c]
    omega
theorem mSd_f {u : Nat} : ∀ {env : List Nat}, u ∈ env → yK (tN u) = 1 → mSd tN env + 1 ≤ env.length
  | [], h, _ => by cases h
  | w :: env, h, hk => by
    have l := mSd_le tN env
    rw [mSd_c, List.length_cons]
    rcases List.mem_cons.mp h with h | h
    · have : gMs (tN w) = false := by
        rw [← h]
        unfold gMs
        rw [hk]
        rfl
      rw [this, if_neg (by decide)]
      omega
    · have := mSd_f h hk
      split <;> omega
set_option maxHeartbeats 2000000 in
/-- **every arrow that the text asks for is a right tail of a unit's type** -/
theorem gRp (h0 : yK (tN 0) ≠ 1) : ∀ (t : tT), (∀ l, l ≠ 2 → tWf kk cnt t l → ∀ env y i j O V, gOk f pp ee tE tN t env y → tRg t i j → uEn ρ tE tN Un Ls i O V env → uGq f pp ee ρ t env → (∀ x, x ∈ gUn tN t env → x ∈ Un) → (∀ c, c ∈ gLt t → c ∈ Ls) → rEv L t env → tA3 pp t → tF3 t → gAa f pp ee tE tN (uAA ρ tE tN Un Ls) t env ∧ (l = 0 → yK y = 1 → ∃ r, uRt ρ tE tN Un j env.length 1 O V y r ∧ r.1 = gRo f pp ee ρ t env ∧ (0 < r.2.2.1 → ∃ u, u ∈ env ∧ yK (tN u) = 1 ∧ r.1 = ρ u))) ∧ (tWf kk cnt t 2 → ∀ env y i j O V, gOk f pp ee tE tN t env y → tRg t i j → uEn ρ tE tN Un Ls i O V env → uGq f pp ee ρ t env → (∀ x, x ∈ gUn tN t env → x ∈ Un) → (∀ c, c ∈ gLt t → c ∈ Ls) → rEv L t env → tA3 pp t → tF3 t → gAa f pp ee tE tN (uAA ρ tE tN Un Ls) t env ∧ ∀ x, x < tQn t → yK (yL (yRs x y)) = 1 → (∃ u, u ∈ env ∧ tN u = yL (yRs x y)) ∨ ∃ w m, (((0, 2 * w) : Nat × Nat), m) ∈ Un ∧ (i ≤ w ∧ w < j) ∧ tE w = yL (yRs x y))
  | .leaf => ⟨fun l hl wf => absurd wf hl, fun _ _ _ _ _ _ _ _ _ _ _ _ _ _ _ _ => ⟨trivial, fun x hx => absurd hx (Nat.not_lt_zero _)⟩⟩
  | .inner g d z a b => by
    have Ia := gRp h0 a
    have Ib := gRp h0 b
    -- a TEMPLATE of its own
    have TEM : ∀ {env : List Nat} {y : tY} {i j : Nat} {O V : List Nat}, ((((0, 2 * d.1) : Nat × Nat), mSd tN env) ∈ Un) → tE d.1 = y → i ≤ d.1 → d.1 < j → uEn ρ tE tN Un Ls i O V env → ∃ r, uRt ρ tE tN Un j env.length 1 O V y r ∧ r.1 = (0, 2 * d.1) ∧ (0 < r.2.2.1 → ∃ u, u ∈ env ∧ yK (tN u) = 1 ∧ r.1 = ρ u) := fun {env y i j O V} hm hy h1 h2 hE => ⟨_, uRt.un hm (by rw [uY_t]; exact hy.symm) (mSd_le tN env) (fun _ => by show 2 * d.1 / 2 < j; omega) (fun c hc e => by
      injection e with _ e
      have := hE.2.1 c hc
      omega), rfl, fun z => absurd z (Nat.lt_irrefl 0)⟩
    -- a NAME
    have NAM : ∀ {env : List Nat} {w i : Nat} {O V : List Nat}, uEn ρ tE tN Un Ls i O V env → yK (tN (gNu f pp ee env w)) = 1 → ∃ i', env[i']? = some (gNu f pp ee env w) ∧ i' < env.length ∧ ∃ r, uRt ρ tE tN Un i i' 0 O V (tN (gNu f pp ee env w)) r ∧ r.1 = ρ (gNu f pp ee env w) := fun {env w i O V} hE hk => by
      rcases gNu_in (f := f) (pp := pp) (ee := ee) env w with e | e
      · rw [e] at hk; exact absurd hk h0
      · obtain ⟨i', hi'⟩ := List.mem_iff_getElem?.mp e
        exact ⟨i', hi', (List.getElem?_eq_some_iff.mp hi').1, hE.2.2 i' _ hi' hk⟩
    refine ⟨fun l hl wf env y i j O V hg hr hE hG hU hL hev h3 hF => ?_, fun wf env y i j O V hg hr hE hG hU hL hev h3 hF => ?_⟩
    · rcases wf with ⟨rfl, rfl, _, wa, wb⟩ | ⟨h2, _⟩ | ⟨_, w⟩
      · -- two ways
        obtain ⟨k, ra, rb⟩ : ∃ k, tRg a i k ∧ tRg b k j := hr
        have hU : ∀ x, x ∈ gUn tN a env ++ gUn tN b env → x ∈ Un := hU
        have hL : ∀ c, c ∈ gLt a ++ gLt b → c ∈ Ls := hL
        have hev : rEv L a env ∧ rEv L b env := hev.2
        obtain ⟨A1, -⟩ := Ia.1 0 (by decide) wa env y i k O V hg.1 ra hE hG.1 (fun x hx => hU x (List.mem_append_left _ hx)) (fun c hc => hL c (List.mem_append_left _ hc)) hev.1 h3.2.2.1 hF.2.1
        obtain ⟨A2, -⟩ := Ib.1 0 (by decide) wb env y k j O V hg.2 rb (hE.mo ra.le) hG.2 (fun x hx => hU x (List.mem_append_right _ hx)) (fun c hc => hL c (List.mem_append_right _ hc)) hev.2 h3.2.2.2 hF.2.2
        exact ⟨⟨A1, A2⟩, fun e => by cases e⟩
      · exact absurd h2 hl
      · rcases w with ⟨rfl, _, wa, wb⟩ | ⟨rfl, ⟨w1, w2, _⟩, wa, wb⟩ | ⟨rfl, _, wa⟩ | ⟨rfl, wc, wb⟩ | ⟨rfl, wc, wb⟩ | ⟨rfl, _, _, wa⟩ | ⟨h7, _, _, hab⟩ | ⟨h7, _, hab⟩ | ⟨h7, _, hab⟩ | ⟨rfl, _⟩ | ⟨rfl, _, wa⟩ | ⟨rfl, _, wa, hb⟩ | ⟨rfl, _⟩ | ⟨rfl, _, wa, wb⟩
        · -- let
          obtain ⟨⟨r1, r2, -⟩, k, ⟨r3, -⟩, ra, rb⟩ := hr
          have ra : tRg a (d.1 + 1) k := ra
          have hU : ∀ x, x ∈ (((0, 2 * d.1) : Nat × Nat), mSd tN env) :: (gUn tN a env ++ gUn tN b (env ++ [d.1 + 1])) → x ∈ Un := hU
          have hL : ∀ c, c ∈ d.1 :: (gLt a ++ gLt b) → c ∈ Ls := hL
          have hev : rEv L a env ∧ rEv L b (env ++ [d.1 + 1]) := hev.2
          have hg : tE d.1 = y ∧ gOk f pp ee tE tN a env (tN (d.1 + 1)) ∧ gOk f pp ee tE tN b (env ++ [d.1 + 1]) y := hg
          have h3a : tA3 pp a := h3.2.2.1
          have hFa : tF3 a := hF.2.1
          have E1 := hE.av r1
          have hG : ρ (d.1 + 1) = gRo f pp ee ρ a env ∧ uGq f pp ee ρ a env ∧ uGq f pp ee ρ b (env ++ [d.1 + 1]) := hG
          obtain ⟨A1, R1⟩ := Ia.1 0 (by decide) wa env _ (d.1 + 1) k O (d.1 :: V) hg.2.1 ra E1 hG.2.1 (fun x hx => hU x (List.mem_cons_of_mem _ (List.mem_append_left _ hx))) (fun c hc => hL c (List.mem_cons_of_mem _ (List.mem_append_left _ hc))) hev.1 h3a hFa
          have l12 := rEv_l wb hev.2
          rw [List.length_append] at l12
          have l12 : env.length + 1 ≤ 12 := l12
          have hUl : (((0, 2 * d.1) : Nat × Nat), mSd tN env) ∈ Un := hU _ (List.mem_cons_self ..)
          have E3 : ∃ O', uEn ρ tE tN Un Ls k O' (d.1 :: V) (env ++ [d.1 + 1]) := by
            by_cases hfun : ∃ u, u ∈ env ∧ yK (tN u) = 1
            · obtain ⟨uf, uf1, uf2⟩ := hfun
              have m10 := mSd_f uf1 uf2
              have E2 : uEn ρ tE tN Un Ls k (d.1 :: O) (d.1 :: V) env := by
                have E := E1.mo ra.le
                refine ⟨fun c hc => ?_, E.2.1, fun i' u e hk => ?_⟩
                · rcases List.mem_cons.mp hc with z | z
                  · rw [z]; exact ⟨List.mem_cons_self .., hL _ (List.mem_cons_self ..), _, by omega, hUl⟩
                  · exact E.1 c z
                · obtain ⟨r, hr', hr2⟩ := E.2.2 i' u e hk
                  exact ⟨r, hr'.mo (Nat.le_refl _) (Nat.le_refl _) (Nat.le_refl _) (fun _ z => List.mem_cons_of_mem _ z) (fun _ z => Or.inl z), hr2⟩
              refine ⟨_, E2.ap (fun i' u e hk => ?_)⟩
              have e0 : i' = 0 ∧ u = d.1 + 1 := by
                cases i' with
                | zero => injection e with e; exact ⟨rfl, e.symm⟩
                | succ n => cases e
              obtain ⟨rfl, rfl⟩ := e0
              obtain ⟨r, ⟨⟨q1, q2⟩, q3, ⟨q4, q5, q6⟩, q7, q8⟩, q0, q9⟩ := R1 rfl hk
              rcases Nat.eq_zero_or_pos r.2.2.1 with k0 | k0
              · exact ⟨r, ⟨⟨q1, q2⟩, q3, ⟨by rw [k0]; exact Nat.zero_le _, q5, fun c hc => ⟨List.mem_cons_of_mem _ (q6 c hc).1, (q6 c hc).2⟩⟩, q7, q8⟩, q0.trans hG.1.symm⟩
              · obtain ⟨u', u1, u2, u3⟩ := q9 k0
                have wd : r.1.1 = 0 → r.1.2 / 2 ≤ d.1 := fun e0 => by
                  obtain ⟨i2, hi2⟩ := List.mem_iff_getElem?.mp u1
                  obtain ⟨r', ⟨-, -, -, ⟨s1, -⟩, -⟩, s2⟩ := hE.2.2 i2 u' hi2 u2
                  have e3 : r'.1 = r.1 := s2.trans u3.symm
                  rw [e3] at s1
                  have := s1 e0
                  omega
                refine ⟨(r.1, r.2.1, r.2.2.1, d.1 :: r.2.2.2), ⟨⟨q1, q2⟩, q3, ⟨?_, List.nodup_cons.mpr ⟨fun z => ?_, q5⟩, fun c hc => ?_⟩, q7, q8⟩, q0.trans hG.1.symm⟩
                · show r.2.2.1 ≤ 4 * ((d.1 :: r.2.2.2).length + 0)
                  rw [List.length_cons]
                  omega
                · have := hE.2.1 _ (hE.1 _ (q6 _ z).1).1
                  omega
                · rcases List.mem_cons.mp hc with z | z
                  · rw [z]; exact ⟨List.mem_cons_self .., hG.1.trans q0.symm, wd⟩
                  · exact ⟨List.mem_cons_of_mem _ (q6 c z).1, (q6 c z).2⟩
            · refine ⟨O, (E1.mo ra.le).ap (fun i' u e hk => ?_)⟩
              have e0 : i' = 0 ∧ u = d.1 + 1 := by
                cases i' with
                | zero => injection e with e; exact ⟨rfl, e.symm⟩
                | succ n => cases e
              obtain ⟨rfl, rfl⟩ := e0
              obtain ⟨r, ⟨⟨q1, q2⟩, q3, ⟨q4, q5, q6⟩, q7, q8⟩, q0, q9⟩ := R1 rfl hk
              have k0 : r.2.2.1 = 0 := by
                rcases Nat.eq_zero_or_pos r.2.2.1 with z | z
                · exact z
                · obtain ⟨u', u1, u2, -⟩ := q9 z
                  exact absurd ⟨u', u1, u2⟩ hfun
              exact ⟨r, ⟨⟨q1, q2⟩, q3, ⟨by rw [k0]; exact Nat.zero_le _, q5, q6⟩, q7, q8⟩, q0.trans hG.1.symm⟩
          obtain ⟨O', E3⟩ := E3
          obtain ⟨A2, -⟩ := Ib.1 0 (by decide) wb (env ++ [d.1 + 1]) y k j _ _ hg.2.2 rb E3 hG.2.2 (fun x hx => hU x (List.mem_cons_of_mem _ (List.mem_append_right _ hx))) (fun c hc => hL c (List.mem_cons_of_mem _ (List.mem_append_right _ hc))) hev.2 h3.2.2.2 hF.2.2
          exact ⟨⟨A1, A2⟩, fun _ _ => TEM (hU _ (List.mem_cons_self ..)) hg.1 r1 r2 hE⟩
        · -- let rec
          obtain ⟨⟨r1, r2, -⟩, k, ⟨r3, -⟩, ra, rb⟩ := hr
          have ra : tRg a (d.1 + 1) k := ra
          have hU : ∀ x, x ∈ (((0, 2 * d.1) : Nat × Nat), mSd tN env) :: (((0, 2 * d.1 + 1) : Nat × Nat), mSd tN env) :: ((List.range d.2.1).map (fun i => (((1, d.1 + 3 + i) : Nat × Nat), mSd tN (env ++ ([d.1 + 2] ++ List.range' (d.1 + 3) i)))) ++ (gUn tN a (env ++ ([d.1 + 2] ++ List.range' (d.1 + 3) d.2.1)) ++ gUn tN b (env ++ [d.1 + 2]))) → x ∈ Un := hU
          have hL : ∀ c, c ∈ gLt a ++ gLt b → c ∈ Ls := hL
          have hev : rEv L a (env ++ ([d.1 + 2] ++ List.range' (d.1 + 3) d.2.1)) ∧ rEv L b (env ++ [d.1 + 2]) := hev.2
          have hg : tE d.1 = y ∧ (∃ r, tN (d.1 + 2) = gFn tN d.2.1 (d.1 + 3) r ∧ gOk f pp ee tE tN a (env ++ ([d.1 + 2] ++ List.range' (d.1 + 3) d.2.1)) r) ∧ gOk f pp ee tE tN b (env ++ [d.1 + 2]) y := hg
          obtain ⟨hy, ⟨rr, hf, ga⟩, gb⟩ := hg
          have l12 := rEv_l wb hev.2
          rw [List.length_append] at l12
          have l12 : env.length + 1 ≤ 12 := l12
          have mle := mSd_le tN env
          have hUf : (((0, 2 * d.1 + 1) : Nat × Nat), mSd tN env) ∈ Un := hU _ (List.mem_cons_of_mem _ (List.mem_cons_self ..))
          have hUp : ∀ x, x < d.2.1 → (((1, d.1 + 3 + x) : Nat × Nat), mSd tN (env ++ ([d.1 + 2] ++ List.range' (d.1 + 3) x))) ∈ Un := fun x hx => hU _ (List.mem_cons_of_mem _ (List.mem_cons_of_mem _ (List.mem_append_left _ (List.mem_map.mpr ⟨x, List.mem_range.mpr hx, rfl⟩))))
          have E1 := hE.mo (show i ≤ d.1 + 1 by omega)
          have hG : (ρ (d.1 + 2) = (0, 2 * d.1 + 1) ∧ ∀ i, i < d.2.1 → ρ (d.1 + 3 + i) = (1, d.1 + 3 + i)) ∧ uGq f pp ee ρ a (env ++ ([d.1 + 2] ++ List.range' (d.1 + 3) d.2.1)) ∧ uGq f pp ee ρ b (env ++ [d.1 + 2]) := hG
          have RF : ∀ {w' : Nat}, d.1 < w' → uRt ρ tE tN Un w' env.length 0 O V (tN (d.1 + 2)) ((0, 2 * d.1 + 1), mSd tN env, 0, []) := fun {w'} hw' => uRt.un hUf (uY_f d.1).symm mle (fun _ => by show (2 * d.1 + 1) / 2 < w'; omega) (fun c hc e => by injection e with _ e; omega)
          have Ea : uEn ρ tE tN Un Ls (d.1 + 1) O V (env ++ ([d.1 + 2] ++ List.range' (d.1 + 3) d.2.1)) := E1.ap (fun i' u e hk => by
            cases i' with
            | zero =>
              injection e with e
              rw [← e]
              exact ⟨_, RF (Nat.lt_succ_self _), hG.1.1.symm⟩
            | succ x =>
              have e : (List.range' (d.1 + 3) d.2.1)[x]? = some u := e
              have hx : x < d.2.1 := by
                obtain ⟨z, -⟩ := List.getElem?_eq_some_iff.mp e
                rw [List.length_range'] at z
                exact z
              rw [List.getElem?_range' hx] at e
              injection e with e
              have e : d.1 + 3 + x = u := by omega
              rw [← e]
              refine ⟨_, uRt.un (hUp x hx) (uY_p _).symm (Nat.le_trans (mSd_le tN _) ?_) (fun z => by cases z) (fun c hc e => by injection e with e _; cases e), (hG.1.2 x hx).symm⟩
              rw [List.length_append, List.length_append, List.length_range']
              show env.length + (1 + x) ≤ env.length + (x + 1)
              omega)
          have Eb : uEn ρ tE tN Un Ls k O V (env ++ [d.1 + 2]) := (E1.mo ra.le).ap (fun i' u e hk => by
            have e0 : i' = 0 ∧ u = d.1 + 2 := by
              cases i' with
              | zero => injection e with e; exact ⟨rfl, e.symm⟩
              | succ n => cases e
            obtain ⟨rfl, rfl⟩ := e0
            exact ⟨_, RF (by have := ra.le; omega), hG.1.1.symm⟩)
          obtain ⟨A1, -⟩ := Ia.1 0 (by decide) wa _ rr (d.1 + 1) k O V ga ra Ea hG.2.1 (fun x hx => hU x (List.mem_cons_of_mem _ (List.mem_cons_of_mem _ (List.mem_append_right _ (List.mem_append_left _ hx))))) (fun c hc => hL c (List.mem_append_left _ hc)) hev.1 h3.2.2.1 hF.2.1
          obtain ⟨A2, -⟩ := Ib.1 0 (by decide) wb _ y k j O V gb rb Eb hG.2.2 (fun x hx => hU x (List.mem_cons_of_mem _ (List.mem_cons_of_mem _ (List.mem_append_right _ (List.mem_append_right _ hx))))) (fun c hc => hL c (List.mem_append_right _ hc)) hev.2 h3.2.2.2 hF.2.2
          refine ⟨⟨fun x hx => uAA_of ⟨(0, 2 * d.1 + 1), mSd tN env, x, [], ⟨hUf, by rw [uY_f]⟩, by omega, ⟨by show x ≤ 3; omega, List.nodup_nil, fun c hc => by cases hc⟩, fun p hp hk => ?_⟩, A1, A2⟩, fun _ _ => TEM (hU _ (List.mem_cons_self ..)) hy r1 r2 hE⟩
          refine ⟨(1, d.1 + 3 + p), _, 0, hUp p (by omega), fun z => (by injection z with z _; cases z), fun c hc => (by cases hc), ?_⟩
          rw [uY_f, hf]
          exact gFn_at d.2.1 (d.1 + 3) p (by omega)
        · -- fun
          obtain ⟨⟨r1, r2, -⟩, k, ⟨r3, -⟩, ra, rb⟩ := hr
          have ra : tRg a (d.1 + 1) k := ra
          have hU : ∀ x, x ∈ (((0, 2 * d.1) : Nat × Nat), mSd tN env) :: (((1, d.1 + 1) : Nat × Nat), mSd tN env) :: gUn tN a (env ++ [d.1 + 1]) → x ∈ Un := hU
          have hL : ∀ c, c ∈ gLt a → c ∈ Ls := hL
          have hev : rEv L a (env ++ [d.1 + 1]) := hev.2
          have hg : tE d.1 = y ∧ ∃ r, y = yA (tN (d.1 + 1)) r ∧ gOk f pp ee tE tN a (env ++ [d.1 + 1]) r := hg
          obtain ⟨hy, rr, hyr, ga⟩ := hg
          have l12 := rEv_l wa hev
          rw [List.length_append] at l12
          have l12 : env.length + 1 ≤ 12 := l12
          have mle := mSd_le tN env
          have hUp : (((1, d.1 + 1) : Nat × Nat), mSd tN env) ∈ Un := hU _ (List.mem_cons_of_mem _ (List.mem_cons_self ..))
          have hG : ρ (d.1 + 1) = (1, d.1 + 1) ∧ uGq f pp ee ρ a (env ++ [d.1 + 1]) := hG
          have Ea : uEn ρ tE tN Un Ls (d.1 + 1) O V (env ++ [d.1 + 1]) := (hE.mo (show i ≤ d.1 + 1 by omega)).ap (fun i' u e hk => by
            have e0 : i' = 0 ∧ u = d.1 + 1 := by
              cases i' with
              | zero => injection e with e; exact ⟨rfl, e.symm⟩
              | succ n => cases e
            obtain ⟨rfl, rfl⟩ := e0
            exact ⟨_, uRt.un hUp (uY_p _).symm mle (fun z => by cases z) (fun c hc e => by injection e with e _; cases e), hG.1.symm⟩)
          obtain ⟨A1, -⟩ := Ia.1 0 (by decide) wa _ rr (d.1 + 1) k O V ga ra Ea hG.2 (fun x hx => hU x (List.mem_cons_of_mem _ (List.mem_cons_of_mem _ hx))) hL hev h3.2.2.1 hF.2.1
          refine ⟨⟨uAA_of ⟨(0, 2 * d.1), mSd tN env, 0, [], ⟨hU _ (List.mem_cons_self ..), by rw [uY_t]; rfl⟩, by omega, ⟨Nat.zero_le _, List.nodup_nil, fun c hc => by cases hc⟩, fun p hp hk => ?_⟩, A1⟩, fun _ _ => TEM (hU _ (List.mem_cons_self ..)) hy r1 r2 hE⟩
          have hp : p = 0 := by omega
          subst hp
          refine ⟨(1, d.1 + 1), _, 0, hUp, fun z => (by injection z with z _; cases z), fun c hc => (by cases hc), ?_⟩
          rw [uY_t, hy, hyr]
          rfl
        · -- if
          obtain ⟨⟨r1, r2, -⟩, k, ⟨r3, -⟩, -, rb⟩ := hr
          have hU : ∀ x, x ∈ (((0, 2 * d.1) : Nat × Nat), mSd tN env) :: gUn tN b env → x ∈ Un := hU
          have hL : ∀ c, c ∈ gLt b → c ∈ Ls := hL
          have hev : rEv L b env := hev.2
          have hg : tE d.1 = y ∧ gCk f pp ee tN env a ∧ gOk f pp ee tE tN b env y := hg
          obtain ⟨A1, -⟩ := Ib.1 1 (by decide) wb env y k j O V hg.2.2 rb (hE.mo (by omega)) hG (fun x hx => hU x (List.mem_cons_of_mem _ hx)) hL hev h3.2.2.2 hF.2.2
          exact ⟨A1, fun _ _ => TEM (hU _ (List.mem_cons_self ..)) hg.1 r1 r2 hE⟩
        · -- assert
          obtain ⟨⟨r1, r2, -⟩, k, ⟨r3, -⟩, -, rb⟩ := hr
          have hU : ∀ x, x ∈ gUn tN b env → x ∈ Un := hU
          have hL : ∀ c, c ∈ gLt b → c ∈ Ls := hL
          have hev : rEv L b env := hev.2
          have hg : gCk f pp ee tN env a ∧ gOk f pp ee tE tN b env y := hg
          obtain ⟨A1, R1⟩ := Ib.1 0 (by decide) wb env y k j O V hg.2 rb (hE.mo (by omega)) hG hU hL hev h3.2.2.2 hF.2.2
          exact ⟨A1, fun _ => R1 rfl⟩
        · -- set
          obtain ⟨⟨r1, r2, -⟩, k, ⟨r3, -⟩, ra, rb⟩ := hr
          have ra : tRg a (d.1 + 1) k := ra
          have hU : ∀ x, x ∈ gUn tN a env → x ∈ Un := hU
          have hL : ∀ c, c ∈ gLt a → c ∈ Ls := hL
          have hev : rEv L a env := hev.2.1
          obtain ⟨A1, R1⟩ := Ia.1 0 (by decide) wa env y (d.1 + 1) k O V hg.2.2 ra (hE.mo (by omega)) hG hU hL hev h3.2.2.1 hF.2.1
          refine ⟨A1, fun e hk => ?_⟩
          obtain ⟨r, hr', hr2⟩ := R1 rfl hk
          exact ⟨r, hr'.mo rb.le (Nat.le_refl _) (Nat.le_refl _) (fun _ z => z) (fun _ z => Or.inl z), hr2⟩
        · -- new, S
          rcases h7 with rfl | rfl
          · exact ⟨trivial, fun _ hk => absurd hk (by rw [hg.1]; decide)⟩
          · refine ⟨trivial, fun _ hk => ?_⟩
            obtain ⟨⟨r1, r2, -⟩, k, ⟨r3, -⟩, ra, rb⟩ := hr
            have hy : y = gSk f pp ee tN env d.2.2.2.1.2 := hg.1
            unfold gSk at hy
            by_cases c : isN d.2.2.2.1.2 = true
            · rw [if_pos c] at hy
              rw [hy] at hk ⊢
              obtain ⟨i', hi0, hi', r, hr', hr2⟩ := NAM hE hk
              exact ⟨r, hr'.mo (by omega) (by omega) (by omega) (fun _ z => z) (fun _ z => Or.inl z), hr2, fun _ => ⟨_, List.mem_of_getElem? hi0, hk, hr2⟩⟩
            · rw [if_neg c] at hy
              rw [hy] at hk
              exact absurd hk (by decide)
        · rcases h7 with rfl | rfl | rfl
          · exact ⟨trivial, fun _ hk => absurd hk (by rw [show y = yB 1 from hg]; decide)⟩
          · exact ⟨trivial, fun _ hk => absurd hk (by rw [show y = yB 1 from hg]; decide)⟩
          · exact ⟨trivial, fun _ hk => absurd hk (by rw [show y = yB 3 from hg]; decide)⟩
        · rcases h7 with rfl | rfl | rfl
          · exact ⟨trivial, fun _ hk => absurd hk (by rw [show y = yB 0 from hg.1]; decide)⟩
          · exact ⟨trivial, fun _ hk => absurd hk (by rw [show y = yB 0 from hg.1]; decide)⟩
          · exact ⟨trivial, fun _ hk => absurd hk (by rw [show y = yB 0 from hg.1]; decide)⟩
        · exact ⟨trivial, fun _ hk => absurd hk (by rw [show y = yB 0 from hg.1]; decide)⟩
        · -- a call
          obtain ⟨⟨r1, r2, -⟩, k, ⟨r3, -⟩, ra, rb⟩ := hr
          have ra : tRg a (d.1 + 1) k := ra
          have rl := ra.le
          have rl' := rb.le
          have hU : ∀ x, x ∈ gUn tN a env → x ∈ Un := hU
          have hL : ∀ c, c ∈ gLt a → c ∈ Ls := hL
          have l12 : env.length ≤ 12 := hev.1.1
          have hev : rEv L a env := hev.2.1
          have hg : y = yRs (tQn a) (tN (gNu f pp ee env d.1)) ∧ gOk f pp ee tE tN a env (tN (gNu f pp ee env d.1)) := hg
          have q4 : tQn a ≤ 4 := h3.2.1 rfl
          obtain ⟨A1, SU⟩ := Ia.2 wa env _ (d.1 + 1) k O V hg.2 ra (hE.mo (by omega)) hG hU hL hev h3.2.2.1 hF.2.1
          have MAIN : yK (tN (gNu f pp ee env d.1)) = 1 → (∀ x, x < tQn a → uAA ρ tE tN Un Ls (yRs x (tN (gNu f pp ee env d.1))) = true) ∧ ∃ r, uRt ρ tE tN Un j env.length 1 O V y r ∧ r.1 = ρ (gNu f pp ee env d.1) ∧ (0 < r.2.2.1 → ∃ u, u ∈ env ∧ yK (tN u) = 1 ∧ r.1 = ρ u) := fun hk => by
            obtain ⟨i', hi0, hi', r, ⟨⟨p1, p2⟩, p3, ⟨p4, p5, p6⟩, ⟨p7, p8⟩, p9⟩, p0⟩ := NAM hE hk
            have CP : ∀ p, p < r.2.2.1 + tQn a → uCp tE tN Un j V r.1 p := fun p hp => by
              by_cases c : p < r.2.2.1
              · exact (p9 p c).mo (by omega) (fun _ z => Or.inl z)
              · have ep : yRs p (uY tE tN r.1) = yRs (p - r.2.2.1) (tN (gNu f pp ee env d.1)) := by
                  rw [p2, ← yRs_ad]
                  congr 1
                  omega
                refine uSu hE (by omega) (fun hk' => ?_)
                rw [ep] at hk' ⊢
                rcases SU (p - r.2.2.1) (by omega) hk' with z | ⟨w, m, z1, ⟨z2, z3⟩, z4⟩
                · exact Or.inl z
                · exact Or.inr ⟨w, m, z1, ⟨by omega, by omega⟩, z4⟩
            refine ⟨fun x hx => uAA_of ⟨r.1, r.2.1, r.2.2.1 + x, r.2.2.2, ⟨p1, by rw [yRs_ad, ← p2]⟩, by omega, ⟨by omega, p5, fun c hc => ⟨(hE.1 c (p6 c hc).1).2.1, p8 c (hE.1 c (p6 c hc).1).1, (p6 c hc).2.1, (p6 c hc).2.2, (hE.1 c (p6 c hc).1).2.2⟩⟩, fun p hp hk' => ?_⟩, (r.1, r.2.1, r.2.2.1 + tQn a, r.2.2.2), ⟨⟨p1, ?_⟩, ?_, ⟨?_, p5, p6⟩, ⟨fun z => ?_, p8⟩, CP⟩, p0, fun _ => ⟨_, List.mem_of_getElem? hi0, hk, p0⟩⟩
            · obtain ⟨id', m', k', a1, a2, a3, a4, a5⟩ := CP p (by omega) hk'
              exact ⟨id', m', k', a1, a2, fun c hc => a4 c (hE.1 c (p6 c hc).1).1, a5⟩
            · rw [hg.1]
              show _ = yRs (r.2.2.1 + tQn a) (uY tE tN r.1)
              rw [yRs_ad, ← p2]
            · show 4 * r.2.1 + (r.2.2.1 + tQn a) ≤ 4 * env.length
              omega
            · show r.2.2.1 + tQn a ≤ 4 * (r.2.2.2.length + 1)
              omega
            · have := p7 z
              show r.1.2 / 2 < j
              omega
          refine ⟨⟨fun x hx => (MAIN (gOk_i wa hg.2 (by omega))).1 x hx, A1⟩, fun _ hk => ?_⟩
          by_cases c : 0 < tQn a
          · exact (MAIN (gOk_i wa hg.2 c)).2
          · refine (MAIN ?_).2
            have e0 : tQn a = 0 := by omega
            rw [hg.1, e0] at hk
            exact hk
        · -- ( E )
          obtain ⟨⟨r1, r2, -⟩, k, ⟨r3, -⟩, ra, rb⟩ := hr
          have ra : tRg a (d.1 + 1) k := ra
          have hU : ∀ x, x ∈ gUn tN a env → x ∈ Un := hU
          have hL : ∀ c, c ∈ gLt a → c ∈ Ls := hL
          have hev : rEv L a env := hev.2.1
          have hg : gOk f pp ee tE tN a env y := hg
          obtain ⟨A1, R1⟩ := Ia.1 0 (by decide) wa env y (d.1 + 1) k O V hg ra (hE.mo (by omega)) hG hU hL hev h3.2.2.1 hF.2.1
          refine ⟨A1, fun e hk => ?_⟩
          obtain ⟨r, hr', hr2⟩ := R1 rfl hk
          exact ⟨r, hr'.mo rb.le (Nat.le_refl _) (Nat.le_refl _) (fun _ z => z) (fun _ z => Or.inl z), hr2⟩
        · exact ⟨trivial, fun _ hk => absurd hk (by rw [show y = yB 3 from hg.1]; decide)⟩
        · -- match
          obtain ⟨⟨r1, r2, -⟩, k, ⟨r3, -⟩, ra, rb⟩ := hr
          have ra : tRg a (d.1 + 1) k := ra
          have hU : ∀ x, x ∈ (((0, 2 * d.1) : Nat × Nat), mSd tN env) :: (gUn tN a env ++ gUn tN b (env ++ [d.2.1, d.2.1 + 1])) → x ∈ Un := hU
          have hL : ∀ c, c ∈ gLt a ++ gLt b → c ∈ Ls := hL
          have hev : rEv L a env ∧ rEv L b (env ++ [d.2.1, d.2.1 + 1]) := hev.2
          have hg : tE d.1 = y ∧ tN (gNu f pp ee env (d.1 + 1)) = yB 3 ∧ (tN d.2.1 = yB 0 ∧ tN (d.2.1 + 1) = yB 3) ∧ gOk f pp ee tE tN a env y ∧ gOk f pp ee tE tN b (env ++ [d.2.1, d.2.1 + 1]) y := hg
          obtain ⟨hy, -, ⟨t1, t2⟩, ga, gb⟩ := hg
          have Eb : uEn ρ tE tN Un Ls k O V (env ++ [d.2.1, d.2.1 + 1]) := (hE.mo (by have := ra.le; omega)).ap (fun i' u e hk => by
            match i', e with
            | 0, e => injection e with e; rw [← e, t1] at hk; exact absurd hk (by decide)
            | 1, e => injection e with e; rw [← e, t2] at hk; exact absurd hk (by decide)
            | n + 2, e => cases e)
          obtain ⟨A1, -⟩ := Ia.1 0 (by decide) wa env y (d.1 + 1) k O V ga ra (hE.mo (by omega)) hG.1 (fun x hx => hU x (List.mem_cons_of_mem _ (List.mem_append_left _ hx))) (fun c hc => hL c (List.mem_append_left _ hc)) hev.1 h3.2.2.1 hF.2.1
          obtain ⟨A2, -⟩ := Ib.1 0 (by decide) wb _ y k j O V gb rb Eb hG.2 (fun x hx => hU x (List.mem_cons_of_mem _ (List.mem_append_right _ hx))) (fun c hc => hL c (List.mem_append_right _ hc)) hev.2 h3.2.2.2 hF.2.2
          exact ⟨⟨A1, A2⟩, fun _ _ => TEM (hU _ (List.mem_cons_self ..)) hy r1 r2 hE⟩
    · rcases wf with ⟨h2, _⟩ | ⟨_, _, wb, w⟩ | ⟨h2, _⟩
      · cases h2
      · obtain ⟨⟨r1, r2, -⟩, k, ⟨r3, -⟩, ra, rb⟩ : (i ≤ d.1 ∧ d.1 < j ∧ True) ∧ ∃ k, (d.1 + 1 ≤ k ∧ True) ∧ (if g = 4 ∨ g = 5 then True else tRg a (d.1 + 1) k) ∧ tRg b k j := by
          rcases w with ⟨rfl, _⟩ | ⟨rfl, _⟩ | ⟨rfl, _⟩
          all_goals (obtain ⟨⟨r1, r2, -⟩, k, ⟨r3, -⟩, ra, rb⟩ := hr; exact ⟨⟨r1, r2, trivial⟩, k, ⟨r3, trivial⟩, ra, rb⟩)
        have rest : ∀ {A1 : Prop}, A1 → gOk f pp ee tE tN b env (yR y) → uGq f pp ee ρ b env → (∀ x, x ∈ gUn tN b env → x ∈ Un) → (∀ c, c ∈ gLt b → c ∈ Ls) → rEv L b env → tA3 pp b → tF3 b → (yK (yL y) = 1 → (∃ u, u ∈ env ∧ tN u = yL y) ∨ ∃ w m, (((0, 2 * w) : Nat × Nat), m) ∈ Un ∧ (i ≤ w ∧ w < j) ∧ tE w = yL y) → (A1 ∧ gAa f pp ee tE tN (uAA ρ tE tN Un Ls) b env) ∧ ∀ x, x < tQn b + 1 → yK (yL (yRs x y)) = 1 → (∃ u, u ∈ env ∧ tN u = yL (yRs x y)) ∨ ∃ w m, (((0, 2 * w) : Nat × Nat), m) ∈ Un ∧ (i ≤ w ∧ w < j) ∧ tE w = yL (yRs x y) := fun {A1} hA1 gb gob hUb hLb evb h3b hFb h1 => by
          obtain ⟨A2, SU⟩ := Ib.2 wb env (yR y) k j O V gb rb (hE.mo (by omega)) gob hUb hLb evb h3b hFb
          refine ⟨⟨hA1, A2⟩, fun x hx hk => ?_⟩
          cases x with
          | zero => exact h1 hk
          | succ x =>
            rcases SU x (by omega) hk with z | ⟨w, m, z1, ⟨z2, z3⟩, z4⟩
            · exact Or.inl z
            · exact Or.inr ⟨w, m, z1, ⟨by omega, z3⟩, z4⟩
        rcases w with ⟨rfl, hp, ha⟩ | ⟨rfl, _, wa⟩ | ⟨rfl, _, ha, hd⟩
        · have hg : yIs y ∧ (yL y = gSk f pp ee tN env d.2.2.2.1.2 ∧ (d.2.1 = 1 ∨ isN d.2.2.2.1.2 = false → gSo f pp ee tN env d.2.2.2.1.2)) ∧ gOk f pp ee tE tN b env (yR y) := hg
          have q := rest (A1 := True) trivial hg.2.2 hG hU hL hev.2.2 h3.2.2.2 hF.2.2 (fun hk => by
            have e := hg.2.1.1
            unfold gSk at e
            by_cases c : isN d.2.2.2.1.2 = true
            · rw [if_pos c] at e
              rw [e] at hk ⊢
              obtain ⟨i', hi, -⟩ := NAM hE hk
              exact Or.inl ⟨_, List.mem_of_getElem? hi, rfl⟩
            · rw [if_neg c] at e
              rw [e] at hk
              exact absurd hk (by decide))
          exact ⟨q.1.2, q.2⟩
        · have ra : tRg a (d.1 + 1) k := ra
          have hg : yIs y ∧ gOk f pp ee tE tN a env (yL y) ∧ gOk f pp ee tE tN b env (yR y) := hg
          have hU : ∀ x, x ∈ gUn tN a env ++ gUn tN b env → x ∈ Un := hU
          have hL : ∀ c, c ∈ gLt a ++ gLt b → c ∈ Ls := hL
          have hev : rEv L a env ∧ rEv L b env := hev.2
          obtain ⟨A1, -⟩ := Ia.1 0 (by decide) wa env _ (d.1 + 1) k O V hg.2.1 ra (hE.mo (by omega)) hG.1 (fun x hx => hU x (List.mem_append_left _ hx)) (fun c hc => hL c (List.mem_append_left _ hc)) hev.1 h3.2.2.1 hF.2.1
          refine rest A1 hg.2.2 hG.2 (fun x hx => hU x (List.mem_append_right _ hx)) (fun c hc => hL c (List.mem_append_right _ hc)) hev.2 h3.2.2.2 hF.2.2 (fun hk => ?_)
          obtain ⟨d', z', a', b', rfl⟩ := hF.1 rfl
          obtain ⟨⟨s1, s2, -⟩, -⟩ := ra
          have gf : tE d'.1 = yL y ∧ _ := hg.2.1
          have rl := rb.le
          exact Or.inr ⟨d'.1, _, hU _ (List.mem_append_left _ (List.mem_cons_self ..)), ⟨by omega, by omega⟩, gf.1⟩
        · have hg : yIs y ∧ yL y = yB 1 ∧ gOk f pp ee tE tN b env (yR y) := hg
          have q := rest (A1 := True) trivial hg.2.2 hG hU hL hev.2.2 h3.2.2.2 hF.2.2 (fun hk => by rw [hg.2.1] at hk; exact absurd hk (by decide))
          exact ⟨q.1.2, q.2⟩
      · cases h2
end URM
