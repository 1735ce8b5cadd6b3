/-! CAPACITIES: a piece's spine: what its unit covers, functions there and the tail are small -/
theorem tl_rm2 {l : List (Nat × tY × List Nat)} {k s : Nat} {C : List Nat} (h : ∃ x, x ∈ l ∧ x.1 = k ∧ s ≤ yLv x.2.1) (hC : C.Nodup) (hl : ∀ c, c ∈ C → ∃ x, x ∈ l ∧ x.1 = 2 * c) (hk : ∀ c, c ∈ C → 2 * c ≠ k) (k' v : Nat) (hk' : k' ≠ k) (hc' : ∀ c, c ∈ C → 2 * c ≠ k') (hx : ∃ x, x ∈ l ∧ x.1 = k' ∧ v ≤ yLv x.2.1) : s + v + C.length ≤ tLv l := by
  have nC : (C.map (fun c => 2 * c)).Nodup := by
    refine List.Pairwise.map _ (fun a b hab => ?_) hC
    omega
  have ne : ∀ {q : Nat}, (∀ c, c ∈ C → 2 * c ≠ q) → q ∉ C.map (fun c => 2 * c) := fun {q} hq hm => by
    obtain ⟨c, c1, c2⟩ := List.mem_map.mp hm
    exact hq c c1 c2
  have nk : (k :: k' :: C.map (fun c => 2 * c)).Nodup := List.nodup_cons.mpr ⟨fun hm => by
    rcases List.mem_cons.mp hm with hm | hm
    · exact hk' hm.symm
    · exact ne hk hm, List.nodup_cons.mpr ⟨ne hc', nC⟩⟩
  have cg : ∀ L : List Nat, k ∉ L → k' ∉ L → (L.map (fun q => if q = k then s else if q = k' then v else 1)).sum = L.length := fun L h1 h2 => by
    induction L with
    | nil => rfl
    | cons a L ih =>
      rw [List.map_cons, List.sum_cons, List.length_cons, ih (fun z => h1 (List.mem_cons_of_mem _ z)) (fun z => h2 (List.mem_cons_of_mem _ z)), if_neg (fun z => h1 (by rw [← z]; exact List.mem_cons_self ..)), if_neg (fun z => h2 (by rw [← z]; exact List.mem_cons_self ..))]
      omega
  have := tLv_sub (fun q => if q = k then s else if q = k' then v else 1) _ l nk (fun q hm => by
    rcases List.mem_cons.mp hm with hm | hm
    · obtain ⟨x, x1, x2, x3⟩ := h
      exact ⟨x, x1, x2.trans hm.symm, by show (if q = k then s else if q = k' then v else 1) ≤ _; rw [if_pos hm]; exact x3⟩
    · rcases List.mem_cons.mp hm with hm | hm
      · obtain ⟨x, x1, x2, x3⟩ := hx
        exact ⟨x, x1, x2.trans hm.symm, by show (if q = k then s else if q = k' then v else 1) ≤ _; rw [if_neg (by rw [hm]; exact hk'), if_pos hm]; exact x3⟩
      · obtain ⟨c, c1, c2⟩ := List.mem_map.mp hm
        obtain ⟨x, x1, x2⟩ := hl c c1
        refine ⟨x, x1, x2.trans c2, ?_⟩
        show (if q = k then s else if q = k' then v else 1) ≤ _
        rw [if_neg (fun z => hk c c1 (c2.trans z)), if_neg (fun z => hc' c c1 (c2.trans z))]
        exact yLv_pos _)
  rw [List.map_cons, List.sum_cons, if_pos rfl, List.map_cons, List.sum_cons, if_neg hk', if_pos rfl, cg _ (ne hk) (ne hc'), List.length_map] at this
  omega
/-- where a type gets small -/
theorem sp_min {B : Nat} (hB : 1 ≤ B) : ∀ y : tY, yG y → ∃ s, (∀ j, j < s → B < yLv (yRs j y) ∧ yIs (yRs j y)) ∧ yLv (yRs s y) ≤ B
  | .leaf, h => absurd h (fun x => x)
  | .inner k u v a b, h => by
    by_cases c : yLv (.inner k u v a b : tY) ≤ B
    · exact ⟨0, fun j hj => absurd hj (Nat.not_lt_zero _), c⟩
    · have k0 : k = 0 := by
        apply Classical.byContradiction
        intro hk
        have : yLv (.inner k u v a b : tY) = 1 := if_neg hk
        omega
      subst k0
      have hg : yG a ∧ yG b := h
      obtain ⟨s, h1, h2⟩ := sp_min hB b hg.2
      refine ⟨s + 1, fun j hj => ?_, h2⟩
      cases j with
      | zero => exact ⟨by show B < yLv (.inner 0 u v a b : tY); omega, rfl⟩
      | succ j => exact h1 j (by omega)
section BLP
variable {ρ : Nat → Nat × Nat} {tE tN : Nat → tY} {Un : List ((Nat × Nat) × Nat)} {Ls W : List Nat} {l : List (Nat × tY × List Nat)} {k : Nat} {Y : tY} {ns : List Nat}
theorem tlH.ot2 (h : tlH ρ tE tN Un Ls W l) {id : Nat × Nat} {m d : Nat} {z : tY} (hx : (k, Y, ns) ∈ l) (hu : (id, m) ∈ Un) (hz : z = yRs d (uY tE tN id)) : (id = (0, k) ∧ uY tE tN id = Y) ∨ (∃ (i u : Nat), id = (1, u) ∧ ns[i]? = some u ∧ yLv z ≤ yLv (tN u)) ∨ ∃ k', k' ≠ k ∧ (∀ c, c ∈ Ls → 2 * c = k' → id = (0, 2 * c)) ∧ ∃ x, x ∈ l ∧ x.1 = k' ∧ yLv z ≤ yLv x.2.1 := by
  rcases h.1.2.1 _ hu with ⟨h1, ns', h2⟩ | ⟨h1, k', Y', ns', i', h2, h3, -⟩
  · have h1 : id.1 = 0 := h1
    have h2 : (id.2, uY tE tN id, ns') ∈ l := h2
    by_cases c : id.2 = k
    · have e := tl_key h.2.1 h2 hx c
      injection e with e1 e2
      injection e2 with e2 e3
      exact Or.inl ⟨Prod.ext h1 c, e2⟩
    · exact Or.inr (Or.inr ⟨id.2, c, fun c' _ e => Prod.ext h1 e.symm, _, h2, rfl, by rw [hz]; exact yG.rs d _ (h.2.2.2.2.1 _ h2)⟩)
  · have h1 : id.1 = 1 := h1
    have h3 : ns'[i']? = some id.2 := h3
    have e0 : id = (1, id.2) := Prod.ext h1 rfl
    have eu : uY tE tN id = tN id.2 := by rw [e0]; rfl
    obtain ⟨n1, n2, n3, n4⟩ := h.nm h2 h3
    have lz : yLv z ≤ yLv (tN id.2) := by
      rw [hz, eu]
      exact yG.rs d _ n3
    by_cases c : k' = k
    · have e := tl_key h.2.1 h2 hx c
      injection e with e1 e2
      injection e2 with e2 e3
      rw [e3] at h3
      exact Or.inr (Or.inl ⟨i', id.2, e0, h3, lz⟩)
    · refine Or.inr (Or.inr ⟨k', c, fun c' hc' e => ?_, _, h2, rfl, Nat.le_trans lz n4⟩)
      obtain ⟨y, hy⟩ := h.1.2.2.1 c' hc'
      have e' := tl_key h.2.1 hy h2 e
      injection e' with e1 e2
      injection e2 with e2 e3
      rw [← e3] at h3
      cases h3
/-- an arrow of a parameter that comes from elsewhere -/
theorem far_p (h : tlH ρ tE tN Un Ls W l) (hx : (k, Y, ns) ∈ l) {i u : Nat} (hi : ns[i]? = some u) {C : List Nat} (hC : C.Nodup) (hL : ∀ c, c ∈ C → c ∈ Ls) {z : tY} (hz : yLv z ≤ yLv (tN u)) {id : Nat × Nat} {m d : Nat} (hu : (id, m) ∈ Un) (ez : z = yRs d (uY tE tN id)) (hne : id ≠ (1, u)) : yLv (tN u) + yLv z + C.length ≤ 61 ∧ ((∀ c, c ∈ C → id ≠ (0, 2 * c)) → yLv (tN u) + yLv z + C.length ≤ 60) := by
  obtain ⟨n1, n2, n3, n4⟩ := h.nm hx hi
  have gY : yG Y := h.2.2.2.2.1 _ hx
  have h60 := h.2.2.2.1
  have kC : ∀ c, c ∈ C → 2 * c ≠ k := fun c hc ek => by
    obtain ⟨y, hy⟩ := h.1.2.2.1 c (hL c hc)
    have e := tl_key h.2.1 hy hx ek
    injection e with e1 e2
    injection e2 with e2 e3
    rw [← e3] at hi
    cases hi
  have T1 := (tl_rm (s := yLv Y) ⟨_, hx, rfl, Nat.le_refl _⟩ hC (h.lc hL) kC).1
  have T2 := (tl_rm (s := yLv (tN u)) ⟨_, hx, rfl, n4⟩ hC (h.lc hL) kC).2
  rcases h.ot2 hx hu ez with ⟨e1, e2⟩ | ⟨i', u', e1, e2, e3⟩ | ⟨k', c, cn, x, x1, x2, x3⟩
  · have : yLv (tN u) + yLv z + C.length ≤ 60 := by
      rw [e2] at ez
      by_cases cd : d ≤ i
      · have := yLv_lt cd (fun j hj => h.is hx (by omega))
        rw [n2, ← ez] at this
        omega
      · have p1 := yLv_pl i Y (fun j hj => h.is hx (by omega))
        have p2 := yRs_mo (i + 1) (d - (i + 1)) Y (Or.inl gY)
        rw [show i + 1 + (d - (i + 1)) = d by omega, ← ez] at p2
        rw [n2] at p1
        omega
    exact ⟨by omega, fun _ => this⟩
  · obtain ⟨m1, m2, m3, m4⟩ := h.nm hx e2
    have ne : i ≠ i' := fun e => hne (by
      rw [e1]
      rw [← e, hi] at e2
      injection e2 with e2
      rw [e2])
    have p : yLv (tN u) + yLv (tN u') ≤ yLv Y := by
      rcases Nat.lt_or_gt_of_ne ne with c | c
      · have := yLv_p2 c (fun j hj => h.is hx (by omega))
        rw [n2, m2] at this
        exact this
      · have := yLv_p2 c (fun j hj => h.is hx (by omega))
        rw [n2, m2] at this
        omega
    exact ⟨by omega, fun _ => by omega⟩
  · refine ⟨by have := T2 k' (yLv z) c (yLv_pos z) ⟨x, x1, x2, x3⟩; omega, fun hn => ?_⟩
    have := tl_rm2 (s := yLv (tN u)) ⟨_, hx, rfl, n4⟩ hC (h.lc hL) kC k' (yLv z) c (fun c' hc' e => hn c' hc' (cn c' (hL c' hc') e)) ⟨x, x1, x2, x3⟩
    omega
/-- **the spine of a parameter** -/
theorem bl_p (h : tlH ρ tE tN Un Ls W l) (hx : (k, Y, ns) ∈ l) {i u : Nat} (hi : ns[i]? = some u) {k1 : Nat} {C : List Nat} (K : uKc ρ tE tN Un Ls (1, u) k1 C) : yLv (tN u) + C.length ≤ 60 ∧ ∃ s, s ≤ k1 ∧ (∀ j, j < s → yIs (yRs j (tN u)) ∧ (yK (yL (yRs j (tN u))) = 1 → yLv (yL (yRs j (tN u))) + yLv (tN u) + C.length ≤ 60)) ∧ yLv (yRs s (tN u)) + yLv (tN u) + C.length ≤ 61 := by
  obtain ⟨n1, n2, n3, n4⟩ := h.nm hx hi
  have h60 := h.2.2.2.1
  obtain ⟨K1, K2, ⟨K3, K4⟩, -, -, K6⟩ := K
  have hL : ∀ c, c ∈ C → c ∈ Ls := fun c hc => (K4 c hc).1
  have kC : ∀ c, c ∈ C → 2 * c ≠ k := fun c hc ek => by
    obtain ⟨y, hy⟩ := h.1.2.2.1 c (hL c hc)
    have e := tl_key h.2.1 hy hx ek
    injection e with e1 e2
    injection e2 with e2 e3
    rw [← e3] at hi
    cases hi
  have T1 := (tl_rm (s := yLv (tN u)) ⟨_, hx, rfl, n4⟩ K3 (h.lc hL) kC).1
  have hin : ∀ z, yIn z (tN u) → yIn z Y := fun z hz => yIn_rs i Y (fun j hj => h.is hx (by omega)) (yIn_l (h.is hx n1) (by rw [n2]; exact hz))
  obtain ⟨s, s1, s2⟩ := sp_min (B := 61 - (yLv (tN u) + C.length)) (by omega) (tN u) n3
  have own : ∀ j, j < s → j < k1 := fun j hj => by
    have iz : yIn (yRs j (tN u)) (tN u) := yIn_rs j (tN u) (fun q hq => (s1 q (by omega)).2) (yIn_me (yIs_k (s1 j hj).2))
    obtain ⟨id, m', d, C', ⟨u1, u2⟩, u3, ⟨u4, u5, u6⟩, u7⟩ := h.2.2.2.2.2 _ hx _ (hin _ iz)
    have zl := yIn_lv iz
    by_cases ce : id = (1, u)
    · have ow : uOw ρ tE tN Un Ls (1, u) d := ⟨m', C', by rw [← ce]; exact u1, u3, u4, ⟨u5, by rw [← ce]; exact u6⟩, by rw [← ce]; exact u7⟩
      have dk := K1 d ow
      have e2 : yRs j (tN u) = yRs d (tN u) := by
        rw [ce] at u2
        exact u2
      rcases Nat.lt_or_ge d j with c | c
      · have q1 := (ySx_is (s1 d (by omega)).2).2
        have q2 := yRs_mo (d + 1) (j - (d + 1)) (tN u) (Or.inl n3)
        rw [show d + 1 + (j - (d + 1)) = j by omega] at q2
        have q3 : yRs (d + 1) (tN u) = yR (yRs d (tN u)) := by rw [yRs_ad]; rfl
        rw [q3] at q2
        rw [e2] at q2
        have q4 := yLv_pos (yL (yRs d (tN u)))
        omega
      · omega
    · have := (far_p h hx hi K3 hL zl u1 u2 ce).1
      have := (s1 j hj).1
      omega
  refine ⟨by omega, s, ?_, fun j hj => ⟨(s1 j hj).2, fun hk => ?_⟩, by omega⟩
  · rcases Nat.eq_zero_or_pos s with e | e
    · omega
    · have := own (s - 1) (by omega)
      omega
  · obtain ⟨id', m', k', a1, a2, a3, a4⟩ := K6 j (own j hj) hk
    have a4 : yL (yRs j (tN u)) = yRs k' (uY tE tN id') := a4
    have zl : yLv (yL (yRs j (tN u))) ≤ yLv (tN u) := by
      have := yLv_pl j (tN u) (fun q hq => (s1 q (by omega)).2)
      omega
    have := (far_p h hx hi K3 hL zl a1 a4 a2).2 a3
    omega
end BLP
