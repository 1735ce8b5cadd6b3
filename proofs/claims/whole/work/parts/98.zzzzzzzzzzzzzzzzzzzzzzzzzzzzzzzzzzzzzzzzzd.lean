/-! CAPACITIES: no more than 48 measured arrows lie one in another -/
theorem ySx_0 {y : tY} (h : yK y ≠ 1) : ySx y = 0 := by
  cases y with
  | leaf => rfl
  | inner k u v a b => exact if_neg (fun c => h (by show k + 1 = 1; omega))
theorem yIn_k {z : tY} : ∀ {y : tY}, yIn z y → yK z = 1
  | .leaf, h => absurd h (fun x => x)
  | .inner k u v l r, h => by
    obtain ⟨hk, h⟩ := h
    rcases h with h | h | h
    · rw [h]; show k + 1 = 1; omega
    · exact yIn_k h
    · exact yIn_k h
theorem yIn_me {y : tY} (h : yK y = 1) : yIn y y := by
  cases y with
  | leaf => cases h
  | inner k u v a b =>
    have h : k + 1 = 1 := h
    exact ⟨by omega, Or.inl rfl⟩
theorem yLv_2 {y : tY} (h : yK y = 1) : 2 ≤ yLv y := by
  cases y with
  | leaf => cases h
  | inner k u v a b =>
    have h : k + 1 = 1 := h
    have e : yLv (.inner k u v a b : tY) = yLv a + yLv b := if_pos (by omega)
    have p1 := yLv_pos a
    have p2 := yLv_pos b
    omega
theorem yIn_l {z y : tY} (h : yIs y) (hz : yIn z (yL y)) : yIn z y := by
  rw [h]
  exact ⟨rfl, Or.inr (Or.inl hz)⟩
theorem yIn_rs {z : tY} : ∀ (q : Nat) (Y : tY), (∀ i, i < q → yIs (yRs i Y)) → yIn z (yRs q Y) → yIn z Y
  | 0, _, _, h => h
  | q + 1, Y, hi, h => by
    have h0 : yIs Y := hi 0 (by omega)
    have := yIn_rs q (yR Y) (fun i hq => hi (i + 1) (by omega)) h
    rw [h0]
    exact ⟨rfl, Or.inr (Or.inr this)⟩
theorem yG_rs : ∀ (q : Nat) (Y : tY), yG Y ∨ Y = .leaf → yG (yRs q Y) ∨ yRs q Y = .leaf
  | 0, _, h => h
  | q + 1, Y, h => yG_rs q (yR Y) (by
    rcases h with h | h
    · exact h.r.2
    · rw [h]; exact Or.inr rfl)
theorem yG_is {q : Nat} {Y : tY} (h : yG Y) (hi : yIs (yRs q Y)) : yG (yL (yRs q Y)) := by
  rcases yG_rs q Y (Or.inl h) with g | g
  · rw [hi] at g
    have g : yG (yL (yRs q Y)) ∧ yG (yR (yRs q Y)) := g
    exact g.1
  · rw [g] at hi
    cases hi
theorem ySx_l {y : tY} (h : yG y) : ySx (yL y) ≤ ySx y ∧ ySx (yR y) ≤ ySx y := by
  cases y with
  | leaf => exact absurd h (fun x => x)
  | inner k u v a b =>
    have h : if k = 0 then yG a ∧ yG b else a = .leaf ∧ b = .leaf := h
    show ySx a ≤ (if k = 0 then max (ySx a) (ySx b + if gMs a = true then 1 else 0) else 0) ∧ ySx b ≤ if k = 0 then max (ySx a) (ySx b + if gMs a = true then 1 else 0) else 0
    by_cases c : k = 0
    · rw [if_pos c]
      exact ⟨Nat.le_max_left _ _, Nat.le_trans (Nat.le_add_right _ _) (Nat.le_max_right _ _)⟩
    · rw [if_neg c] at h ⊢
      rw [h.1, h.2]
      exact ⟨Nat.le_refl _, Nat.le_refl _⟩
theorem ySx_rs : ∀ (q : Nat) (Y : tY), yG Y ∨ Y = .leaf → ySx (yRs q Y) ≤ ySx Y
  | 0, _, _ => Nat.le_refl _
  | q + 1, Y, h => by
    rcases h with h | h
    · exact Nat.le_trans (ySx_rs q (yR Y) h.r.2) (ySx_l h).2
    · rw [h, yRs_lf]
      exact Nat.le_refl _
theorem nd_gt {u : Nat} : ∀ {l : List Nat} {i j : Nat}, l.Nodup → l[i]? = some u → l[j]? = some u → i = j
  | [], _, _, _, h, _ => by cases h
  | a :: l, 0, 0, _, _, _ => rfl
  | a :: l, 0, j + 1, nd, h1, h2 => by
    have h1 : some a = some u := h1
    have h2 : l[j]? = some u := h2
    injection h1 with h1
    exact absurd (by rw [h1]; exact List.mem_of_getElem? h2) (List.nodup_cons.mp nd).1
  | a :: l, i + 1, 0, nd, h1, h2 => by
    have h2 : some a = some u := h2
    have h1 : l[i]? = some u := h1
    injection h2 with h2
    exact absurd (by rw [h2]; exact List.mem_of_getElem? h1) (List.nodup_cons.mp nd).1
  | a :: l, i + 1, j + 1, nd, h1, h2 => by
    have := nd_gt (l := l) (List.nodup_cons.mp nd).2 h1 h2
    omega
theorem tl_key : ∀ {l : List (Nat × tY × List Nat)} {x y : Nat × tY × List Nat}, (l.map Prod.fst).Nodup → x ∈ l → y ∈ l → x.1 = y.1 → x = y
  | [], _, _, _, h, _, _ => by cases h
  | z :: l, x, y, nd, hx, hy, e => by
    rw [List.map_cons] at nd
    obtain ⟨n1, n2⟩ := List.nodup_cons.mp nd
    rcases List.mem_cons.mp hx with hx | hx
    · rcases List.mem_cons.mp hy with hy | hy
      · rw [hx, hy]
      · exact absurd (List.mem_map.mpr ⟨y, hy, by rw [← e, hx]⟩) n1
    · rcases List.mem_cons.mp hy with hy | hy
      · exact absurd (List.mem_map.mpr ⟨x, hx, by rw [e, hy]⟩) n1
      · exact tl_key n2 hx hy e
theorem fm_key : ∀ {l : List (Nat × tY × List Nat)} {x y : Nat × tY × List Nat} {u : Nat}, (l.flatMap (fun x => x.2.2)).Nodup → x ∈ l → y ∈ l → u ∈ x.2.2 → u ∈ y.2.2 → x = y ∧ x.2.2.Nodup
  | [], _, _, _, _, h, _, _, _ => by cases h
  | z :: l, x, y, u, nd, hx, hy, ux, uy => by
    rw [List.flatMap_cons] at nd
    obtain ⟨n1, n2, n3⟩ := List.nodup_append.mp nd
    rcases List.mem_cons.mp hx with hx | hx
    · rcases List.mem_cons.mp hy with hy | hy
      · exact ⟨by rw [hx, hy], by rw [hx]; exact n1⟩
      · exact absurd rfl (n3 u (by rw [← hx]; exact ux) u (List.mem_flatMap.mpr ⟨y, hy, uy⟩))
    · rcases List.mem_cons.mp hy with hy | hy
      · exact absurd rfl (n3 u (by rw [← hy]; exact uy) u (List.mem_flatMap.mpr ⟨x, hx, ux⟩))
      · exact fm_key n2 hx hy ux uy
section SXP
variable {ρ : Nat → Nat × Nat} {tE tN : Nat → tY} {Un : List ((Nat × Nat) × Nat)} {Ls W : List Nat} {l : List (Nat × tY × List Nat)} {k : Nat} {Y : tY} {ns : List Nat}
/-- what holds of a text's TEMPLATES -/
def tlH (ρ : Nat → Nat × Nat) (tE tN : Nat → tY) (Un : List ((Nat × Nat) × Nat)) (Ls W : List Nat) (l : List (Nat × tY × List Nat)) : Prop := tlA tE tN Un Ls W l ∧ (l.map Prod.fst).Nodup ∧ W.Nodup ∧ tLv l ≤ 60 ∧ (∀ x, x ∈ l → yG x.2.1) ∧ ∀ x, x ∈ l → ∀ z, yIn z x.2.1 → uRp ρ tE tN Un Ls z
theorem tlH.is (h : tlH ρ tE tN Un Ls W l) (hx : (k, Y, ns) ∈ l) {i : Nat} (hi : i < ns.length) : yIs (yRs i Y) := by
  have := (h.1.1 _ hx).2 i ns[i] (List.getElem?_eq_getElem hi)
  exact this.1
/-- a parameter with a NAME -/
theorem tlH.nm (h : tlH ρ tE tN Un Ls W l) (hx : (k, Y, ns) ∈ l) {i u : Nat} (hi : ns[i]? = some u) : i < ns.length ∧ yL (yRs i Y) = tN u ∧ yG (tN u) ∧ yLv (tN u) ≤ yLv Y := by
  obtain ⟨h1, h2⟩ := (h.1.1 _ hx).2 i u hi
  have h1 : yIs (yRs i Y) := h1
  have h2 : yL (yRs i Y) = tN u := h2
  obtain ⟨hl, -⟩ := List.getElem?_eq_some_iff.mp hi
  have g : yG Y := h.2.2.2.2.1 _ hx
  have := yLv_pl i Y (fun j hj => h.is hx (by omega))
  rw [h2] at this
  refine ⟨hl, h2, ?_, by omega⟩
  rw [← h2]
  exact yG_is g h1
/-- where an arrow may come from, other than from here -/
theorem tlH.ot (h : tlH ρ tE tN Un Ls W l) {id : Nat × Nat} {m d : Nat} {z : tY} (hx : (k, Y, ns) ∈ l) (hu : (id, m) ∈ Un) (hz : z = yRs d (uY tE tN id)) : (id = (0, k) ∧ uY tE tN id = Y) ∨ (∃ (i u : Nat), id = (1, u) ∧ ns[i]? = some u ∧ yLv z ≤ yLv (tN u)) ∨ ∃ k', k' ≠ k ∧ ∃ x, x ∈ l ∧ x.1 = k' ∧ yLv z ≤ yLv x.2.1 := by
  rcases h.1.2.1 _ hu with ⟨h1, ns', h2⟩ | ⟨h1, k', Y', ns', i', h2, h3, -⟩
  · have h1 : id.1 = 0 := h1
    have h2 : (id.2, uY tE tN id, ns') ∈ l := h2
    by_cases c : id.2 = k
    · have e := tl_key h.2.1 h2 hx c
      injection e with e1 e2
      injection e2 with e2 e3
      exact Or.inl ⟨Prod.ext h1 c, e2⟩
    · exact Or.inr (Or.inr ⟨id.2, c, _, h2, rfl, by rw [hz]; exact yG.rs d _ (h.2.2.2.2.1 _ h2)⟩)
  · have h1 : id.1 = 1 := h1
    have h3 : ns'[i']? = some id.2 := h3
    have e0 : id = (1, id.2) := Prod.ext h1 rfl
    have eu : uY tE tN id = tN id.2 := by rw [e0]; rfl
    obtain ⟨n1, n2, n3, n4⟩ := h.nm h2 h3
    have lz : yLv z ≤ yLv (tN id.2) := by
      rw [hz, eu]
      exact yG.rs d _ n3
    by_cases c : k' = k
    · have e := tl_key h.2.1 h2 hx c
      injection e with e1 e2
      injection e2 with e2 e3
      rw [e3] at h3
      exact Or.inr (Or.inl ⟨i', id.2, e0, h3, lz⟩)
    · exact Or.inr (Or.inr ⟨k', c, _, h2, rfl, Nat.le_trans lz n4⟩)
theorem tlH.lc (h : tlH ρ tE tN Un Ls W l) {C : List Nat} (hC : ∀ c, c ∈ C → c ∈ Ls) : ∀ c, c ∈ C → ∃ x, x ∈ l ∧ x.1 = 2 * c := fun c hc => by
  obtain ⟨y, hy⟩ := h.1.2.2.1 c (hC c hc)
  exact ⟨_, hy, rfl⟩
/-- **within a parameter** -/
theorem sx_p (h : tlH ρ tE tN Un Ls W l) (hx : (k, Y, ns) ∈ l) {i u : Nat} (hi : ns[i]? = some u) (hk : yK (tN u) = 1) : yAm i Y + ySx (tN u) ≤ 48 := by
  obtain ⟨n1, n2, n3, n4⟩ := h.nm hx hi
  have q4 : ns.length ≤ 4 := (h.1.1 _ hx).1
  have am := yAm_le i Y
  have sl := ySx_lv (tN u)
  have gY : yG Y := h.2.2.2.2.1 _ hx
  have h60 := h.2.2.2.1
  have fnd : (l.flatMap (fun x => x.2.2)).Nodup := h.1.2.2.2.nodup h.2.2.1
  have hin : ∀ z, yIn z (tN u) → yIn z Y := fun z hz => yIn_rs i Y (fun j hj => h.is hx (by omega)) (yIn_l (h.is hx n1) (by rw [n2]; exact hz))
  -- an arrow from elsewhere is small
  have far : ∀ (C : List Nat), C.Nodup → (∀ c, c ∈ C → c ∈ Ls) → ∀ z, yIn z (tN u) → ∀ id m d, (id, m) ∈ Un → z = yRs d (uY tE tN id) → id ≠ (1, u) → yLv (tN u) + yLv z + C.length ≤ 61 := fun C hC hL z hz id m d hu ez hne => by
    have kC : ∀ c, c ∈ C → 2 * c ≠ k := fun c hc ek => by
      obtain ⟨y, hy⟩ := h.1.2.2.1 c (hL c hc)
      have e := tl_key h.2.1 hy hx ek
      injection e with e1 e2
      injection e2 with e2 e3
      rw [← e3] at hi
      cases hi
    have T1 := (tl_rm (s := yLv Y) ⟨_, hx, rfl, Nat.le_refl _⟩ hC (h.lc hL) kC).1
    have T2 := (tl_rm (s := yLv (tN u)) ⟨_, hx, rfl, n4⟩ hC (h.lc hL) kC).2
    have zl := yIn_lv hz
    rcases h.ot hx hu ez with ⟨e1, e2⟩ | ⟨i', u', e1, e2, e3⟩ | ⟨k', c, x, x1, x2, x3⟩
    · rw [e2] at ez
      by_cases cd : d ≤ i
      · have := yLv_lt cd (fun j hj => h.is hx (by omega))
        rw [n2, ← ez] at this
        omega
      · have p1 := yLv_pl i Y (fun j hj => h.is hx (by omega))
        have p2 := yRs_mo (i + 1) (d - (i + 1)) Y (Or.inl gY)
        rw [show i + 1 + (d - (i + 1)) = d by omega, ← ez] at p2
        rw [n2] at p1
        omega
    · obtain ⟨m1, m2, m3, m4⟩ := h.nm hx e2
      have ne : i ≠ i' := fun e => hne (by
        rw [e1]
        rw [← e, hi] at e2
        injection e2 with e2
        rw [e2])
      have p : yLv (tN u) + yLv (tN u') ≤ yLv Y := by
        rcases Nat.lt_or_gt_of_ne ne with c | c
        · have := yLv_p2 c (fun j hj => h.is hx (by omega))
          rw [n2, m2] at this
          exact this
        · have := yLv_p2 c (fun j hj => h.is hx (by omega))
          rw [n2, m2] at this
          omega
      omega
    · have := T2 k' (yLv z) c (yLv_pos z) ⟨x, x1, x2, x3⟩
      omega
  by_cases ex : ∃ q, q ≤ 47 ∧ ∃ (m : Nat) (C : List Nat), ((1, u), m) ∈ Un ∧ 4 * m + q ≤ 47 ∧ q ≤ 4 * C.length + 3 ∧ C.Nodup ∧ ∀ c, c ∈ C → c ∈ Ls
  · obtain ⟨D, hD, ⟨m, C, c1, c2, c3, c4, c5⟩, hmx⟩ := mx_of 47 ex
    have hm : yAm i Y ≤ m := by
      rcases h.1.2.1 _ c1 with ⟨h1, -⟩ | ⟨-, k', Y', ns', i', h2, h3, h4⟩
      · cases h1
      · have h3 : ns'[i']? = some u := h3
        have h4 : yAm i' Y' ≤ m := h4
        obtain ⟨e, nn⟩ := fm_key fnd h2 hx (List.mem_of_getElem? h3) (List.mem_of_getElem? hi)
        injection e with e1 e2
        injection e2 with e2 e3
        have e2 : Y' = Y := e2
        have e3 : ns' = ns := e3
        have nn : ns'.Nodup := nn
        rw [e3] at h3 nn
        have : i' = i := by
          obtain ⟨hl', -⟩ := List.getElem?_eq_some_iff.mp h3
          exact nd_gt nn h3 hi
        rw [this, e2] at h4
        exact h4
    have kC : ∀ c, c ∈ C → 2 * c ≠ k := fun c hc ek => by
      obtain ⟨y, hy⟩ := h.1.2.2.1 c (c5 c hc)
      have e := tl_key h.2.1 hy hx ek
      injection e with e1 e2
      injection e2 with e2 e3
      rw [← e3] at hi
      cases hi
    have T1 := (tl_rm (s := yLv (tN u)) ⟨_, hx, rfl, n4⟩ c4 (h.lc c5) kC).1
    have K := yKl (Y := tN u) (D := D) (t := 61 - C.length - yLv (tN u)) (fun d q => yRs_mo d q _ (Or.inl n3)) (by omega) (tN u) 0 (by omega) (fun z hz hzt => by
      obtain ⟨id, m', d, C', ⟨u1, u2⟩, u3, ⟨u4, u5, u6⟩, -⟩ := h.2.2.2.2.2 _ hx z (hin z hz)
      by_cases ce : id = (1, u)
      · refine ⟨d, Nat.zero_le _, hmx d (by omega) ⟨m', C', by rw [← ce]; exact u1, u3, u4, u5, fun c hc => (u6 c hc).1⟩, ?_⟩
        rw [u2, ce]
        rfl
      · have := far C c4 c5 z hz id m' d u1 u2 ce
        omega)
    omega
  · obtain ⟨id, m', d, C', ⟨u1, u2⟩, u3, ⟨u4, u5, u6⟩, -⟩ := h.2.2.2.2.2 _ hx (tN u) (hin _ (yIn_me hk))
    by_cases ce : id = (1, u)
    · exact absurd ⟨d, by omega, m', C', by rw [← ce]; exact u1, u3, u4, u5, fun c hc => (u6 c hc).1⟩ ex
    · have := far [] List.nodup_nil (fun c hc => by cases hc) (tN u) (yIn_me hk) id m' d u1 u2 ce
      have : yLv (tN u) + yLv (tN u) + 0 ≤ 61 := this
      omega
/-- **behind the parameters that have NAMES** -/
theorem sx_r (h : tlH ρ tE tN Un Ls W l) (hx : (k, Y, ns) ∈ l) : yAm ns.length Y + ySx (yRs ns.length Y) ≤ 48 := by
  have q4 : ns.length ≤ 4 := (h.1.1 _ hx).1
  have am := yAm_le ns.length Y
  by_cases hk : yK (yRs ns.length Y) = 1
  · have gY : yG Y := h.2.2.2.2.1 _ hx
    have h60 := h.2.2.2.1
    have sl := ySx_lv (yRs ns.length Y)
    obtain ⟨sp1, sp2⟩ := yLv_sp ns.length Y (fun i hi => h.is hx hi)
    have hin : ∀ z, yIn z (yRs ns.length Y) → yIn z Y := fun z hz => yIn_rs ns.length Y (fun j hj => h.is hx hj) hz
    have far : ∀ (C : List Nat), C.Nodup → (∀ c, c ∈ C → c ∈ Ls ∧ (0, k) ≠ ((0, 2 * c) : Nat × Nat)) → ∀ z, yIn z (yRs ns.length Y) → ∀ id m d, (id, m) ∈ Un → z = yRs d (uY tE tN id) → id ≠ (0, k) → yAm ns.length Y + yLv (yRs ns.length Y) + yLv z + C.length ≤ 61 := fun C hC hL z hz id m d hu ez hne => by
      have kC : ∀ c, c ∈ C → 2 * c ≠ k := fun c hc ek => (hL c hc).2 (by rw [ek])
      have T1 := (tl_rm (s := yLv Y) ⟨_, hx, rfl, Nat.le_refl _⟩ hC (h.lc (fun c hc => (hL c hc).1)) kC).1
      have T2 := (tl_rm (s := yAm ns.length Y + yLv (yRs ns.length Y)) ⟨_, hx, rfl, sp1⟩ hC (h.lc (fun c hc => (hL c hc).1)) kC).2
      rcases h.ot hx hu ez with ⟨e1, e2⟩ | ⟨i', u', e1, e2, e3⟩ | ⟨k', c, x, x1, x2, x3⟩
      · exact absurd e1 hne
      · obtain ⟨m1, m2, m3, m4⟩ := h.nm hx e2
        have gm : gMs (yL (yRs i' Y)) = false := by
          cases cm : gMs (yL (yRs i' Y)) with
          | false => rfl
          | true =>
            have := (gMs_lv cm).1
            rw [m2] at this
            have := yLv_2 (yIn_k hz)
            omega
        have := sp2 i' m1 gm
        rw [m2] at this
        omega
      · have := T2 k' (yLv z) c (yLv_pos z) ⟨x, x1, x2, x3⟩
        omega
    have own : ∀ {z : tY} {id : Nat × Nat} {m d : Nat}, yIn z (yRs ns.length Y) → (id, m) ∈ Un → z = yRs d (uY tE tN id) → id = (0, k) → ns.length ≤ d ∧ z = yRs d Y := fun {z id m d} hz hu ez e => by
      have eY : uY tE tN id = Y := by
        rcases h.ot hx hu ez with ⟨-, e2⟩ | ⟨i', u', e1, -⟩ | ⟨k', c, x, x1, x2, x3⟩
        · exact e2
        · rw [e] at e1; cases e1
        · rcases h.1.2.1 _ hu with ⟨h1, ns', h2⟩ | ⟨h1, -⟩
          · have h2 : (id.2, uY tE tN id, ns') ∈ l := h2
            have e' := tl_key h.2.1 h2 hx (by show id.2 = k; rw [e])
            injection e' with e1 e2
            injection e2 with e2 e3
          · have h1 : id.1 = 1 := h1
            rw [e] at h1
            cases h1
      rw [eY] at ez
      refine ⟨?_, ez⟩
      apply Classical.byContradiction
      intro hc
      have i1 := (ySx_is (h.is hx (show d < ns.length by omega))).2
      have i2 := yRs_mo (d + 1) (ns.length - (d + 1)) Y (Or.inl gY)
      rw [show d + 1 + (ns.length - (d + 1)) = ns.length by omega] at i2
      have i3 : yRs (d + 1) Y = yR (yRs d Y) := by rw [yRs_ad]; rfl
      rw [i3] at i2
      have i4 := yIn_lv hz
      rw [ez] at i4
      have i5 := yLv_pos (yL (yRs d Y))
      omega
    by_cases ex : ∃ q, q ≤ 47 ∧ ns.length ≤ q ∧ ∃ C : List Nat, q ≤ 4 * C.length + 3 ∧ C.Nodup ∧ ∀ c, c ∈ C → c ∈ Ls ∧ (0, k) ≠ ((0, 2 * c) : Nat × Nat)
    · obtain ⟨D, hD, ⟨hq, C, c3, c4, c5⟩, hmx⟩ := mx_of 47 ex
      have kC : ∀ c, c ∈ C → 2 * c ≠ k := fun c hc ek => (c5 c hc).2 (by rw [ek])
      have T1 := (tl_rm (s := yAm ns.length Y + yLv (yRs ns.length Y)) ⟨_, hx, rfl, sp1⟩ c4 (h.lc (fun c hc => (c5 c hc).1)) kC).1
      have K := yKl (Y := Y) (D := D) (t := 61 - C.length - (yAm ns.length Y + yLv (yRs ns.length Y))) (fun d q => yRs_mo d q _ (Or.inl gY)) (by omega) (yRs ns.length Y) ns.length (by omega) (fun z hz hzt => by
        obtain ⟨id, m', d, C', ⟨u1, u2⟩, u3, ⟨u4, u5, u6⟩, -⟩ := h.2.2.2.2.2 _ hx z (hin z hz)
        by_cases ce : id = (0, k)
        · obtain ⟨o1, o2⟩ := own hz u1 u2 ce
          exact ⟨d, o1, hmx d (by omega) ⟨o1, C', u4, u5, fun c hc => ⟨(u6 c hc).1, by rw [← ce]; exact (u6 c hc).2.1⟩⟩, o2⟩
        · have := far C c4 c5 z hz id m' d u1 u2 ce
          omega)
      omega
    · obtain ⟨id, m', d, C', ⟨u1, u2⟩, u3, ⟨u4, u5, u6⟩, -⟩ := h.2.2.2.2.2 _ hx _ (hin _ (yIn_me hk))
      by_cases ce : id = (0, k)
      · obtain ⟨o1, o2⟩ := own (yIn_me hk) u1 u2 ce
        exact absurd ⟨d, by omega, o1, C', u4, u5, fun c hc => ⟨(u6 c hc).1, by rw [← ce]; exact (u6 c hc).2.1⟩⟩ ex
      · have := far [] List.nodup_nil (fun c hc => by cases hc) _ (yIn_me hk) id m' d u1 u2 ce
        have : yAm ns.length Y + yLv (yRs ns.length Y) + yLv (yRs ns.length Y) + 0 ≤ 61 := this
        omega
  · rw [ySx_0 hk]
    omega
/-- **a TEMPLATE's type** -/
theorem sx_48 (h : tlH ρ tE tN Un Ls W l) (hx : (k, Y, ns) ∈ l) : ySx Y ≤ 48 := by
  have q4 : ns.length ≤ 4 := (h.1.1 _ hx).1
  refine ySx_sp ns.length Y 48 (fun i hi => h.is hx hi) (fun i hi => ?_) (sx_r h hx)
  have e : ns[i]? = some ns[i] := List.getElem?_eq_getElem hi
  obtain ⟨n1, n2, n3, n4⟩ := h.nm hx e
  rw [n2]
  by_cases hk : yK (tN ns[i]) = 1
  · exact sx_p h hx e hk
  · rw [ySx_0 hk]
    have := yAm_le i Y
    omega
/-- a unit's type -/
theorem sx_u (h : tlH ρ tE tN Un Ls W l) {id : Nat × Nat} {m : Nat} (hu : (id, m) ∈ Un) : yG (uY tE tN id) ∧ ySx (uY tE tN id) ≤ 48 := by
  rcases h.1.2.1 _ hu with ⟨h1, ns', h2⟩ | ⟨h1, k', Y', ns', i', h2, h3, -⟩
  · exact ⟨h.2.2.2.2.1 _ h2, sx_48 h h2⟩
  · have h1 : id.1 = 1 := h1
    have h3 : ns'[i']? = some id.2 := h3
    have e0 : id = (1, id.2) := Prod.ext h1 rfl
    have eu : uY tE tN id = tN id.2 := by rw [e0]; rfl
    obtain ⟨n1, n2, n3, n4⟩ := h.nm h2 h3
    rw [eu]
    refine ⟨n3, ?_⟩
    by_cases hk : yK (tN id.2) = 1
    · have := sx_p h h2 h3 hk
      omega
    · rw [ySx_0 hk]
      omega
end SXP
