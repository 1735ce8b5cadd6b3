/-! ROOM: arrows of all TEMPLATES, counted by places along units -/
/-- h 0 + .. + h (n - 1) -/
def sNx (h : Nat → Nat) : Nat → Nat
  | 0 => 0
  | n + 1 => sNx h n + h n
theorem sNx_le {h h' : Nat → Nat} : ∀ n : Nat, (∀ i, i < n → h i ≤ h' i) → sNx h n ≤ sNx h' n
  | 0, _ => Nat.le_refl _
  | n + 1, H => Nat.add_le_add (sNx_le n (fun i hi => H i (by omega))) (H n (by omega))
theorem sNx_ad (h h' : Nat → Nat) : ∀ n : Nat, sNx (fun i => h i + h' i) n = sNx h n + sNx h' n
  | 0 => rfl
  | n + 1 => by
    have I := sNx_ad h h' n
    show sNx (fun i => h i + h' i) n + (h n + h' n) = sNx h n + h n + (sNx h' n + h' n)
    omega
theorem sNx_sh (h : Nat → Nat) : ∀ n : Nat, sNx h (n + 1) = h 0 + sNx (fun i => h (i + 1)) n
  | 0 => by
    show 0 + h 0 = h 0 + 0
    omega
  | n + 1 => by
    have I := sNx_sh h n
    show sNx h (n + 1) + h (n + 1) = h 0 + (sNx (fun i => h (i + 1)) n + h (n + 1))
    omega
theorem sNx_up {h : Nat → Nat} (n : Nat) : ∀ d : Nat, sNx h n ≤ sNx h (n + d)
  | 0 => Nat.le_refl _
  | d + 1 => Nat.le_trans (sNx_up n d) (Nat.le_add_right _ _)
theorem sNx_mo {h : Nat → Nat} {n m : Nat} (H : n ≤ m) : sNx h n ≤ sNx h m := by
  have := sNx_up (h := h) n (m - n)
  rw [show n + (m - n) = m by omega] at this
  exact this
theorem sNx_0 {h : Nat → Nat} : ∀ n : Nat, (∀ i, i < n → h i = 0) → sNx h n = 0
  | 0, _ => rfl
  | n + 1, H => by
    show sNx h n + h n = 0
    rw [sNx_0 n (fun i hi => H i (by omega)), H n (by omega)]
/-- a block of places -/
theorem sNx_bk (h : Nat → Nat) (a : Nat) : ∀ m : Nat, sNx (fun i => h (a + i)) m ≤ sNx (fun i => if a ≤ i ∧ i < a + m then h i else 0) (a + m)
  | 0 => Nat.zero_le _
  | m + 1 => by
    have I := sNx_bk h a m
    have L : sNx (fun i => if a ≤ i ∧ i < a + m then h i else 0) (a + m) ≤ sNx (fun i => if a ≤ i ∧ i < a + (m + 1) then h i else 0) (a + m) := sNx_le _ (fun i _ => by
      by_cases c : a ≤ i ∧ i < a + m
      · rw [if_pos c, if_pos ⟨c.1, by omega⟩]; exact Nat.le_refl _
      · rw [if_neg c]; exact Nat.zero_le _)
    have e : (fun i => if a ≤ i ∧ i < a + (m + 1) then h i else 0) (a + m) = h (a + m) := if_pos ⟨by omega, by omega⟩
    show sNx (fun i => h (a + i)) m + h (a + m) ≤ sNx (fun i => if a ≤ i ∧ i < a + (m + 1) then h i else 0) (a + m) + (fun i => if a ≤ i ∧ i < a + (m + 1) then h i else 0) (a + m)
    rw [e]
    omega
/-- arrows in what is taken at a place -/
def yLa (y : tY) (i : Nat) : Nat := yAr (yL (yRs i y))
theorem yL_lf : yL (.leaf : tY) = .leaf := rfl
theorem yLa_lf (i : Nat) : yLa (.leaf : tY) i = 0 := by
  unfold yLa
  rw [yRs_lq]
  rfl
/-- **a type's arrows: its row, and what it takes** -/
theorem yAr_e : ∀ (y : tY), (yG y ∨ y = .leaf) → ∀ M, ySp y ≤ M → yAr y = ySp y + sNx (yLa y) M
  | .leaf, _, M, _ => by
    rw [sNx_0 M (fun i _ => yLa_lf i)]
    rfl
  | .inner k u v a b, h, M, hM => by
    rcases h with h | h
    · unfold yG at h
      by_cases c : k = 0
      · subst c
        rw [if_pos rfl] at h
        have e1 : ySp (.inner 0 u v a b) = ySp b + 1 := rfl
        rw [e1] at hM ⊢
        obtain ⟨M, rfl⟩ : ∃ m, M = m + 1 := ⟨M - 1, by omega⟩
        have I := yAr_e b (Or.inl h.2) M (by omega)
        rw [yAr_0, sNx_sh]
        have e2 : yLa (.inner 0 u v a b) 0 = yAr a := rfl
        have e3 : (fun i => yLa (.inner 0 u v a b) (i + 1)) = yLa b := rfl
        rw [e2, e3]
        omega
      · rw [if_neg c] at h
        obtain ⟨rfl, rfl⟩ := h
        have e1 : ySp (.inner k u v .leaf .leaf) = 0 := if_neg c
        obtain ⟨-, e2, -⟩ := yCo_n (y := .inner k u v .leaf .leaf) (fun z => c (by have z : k + 1 = 1 := z; omega))
        rw [e1, e2, sNx_0 M (fun i _ => ?_)]
        cases i with
        | zero => rfl
        | succ i => exact yLa_lf i
    · cases h
/-- how often a unit stands in a list of places -/
def cPq (B : List ((Nat × Nat) × Nat)) (id : Nat × Nat) : Nat := (B.filter (fun b => decide (b.1 = id))).length
theorem cPq_cn (b : (Nat × Nat) × Nat) (B : List ((Nat × Nat) × Nat)) (id : Nat × Nat) : cPq (b :: B) id = (if b.1 = id then 1 else 0) + cPq B id := by
  unfold cPq
  rw [List.filter_cons]
  by_cases c : b.1 = id
  · rw [if_pos (by exact decide_eq_true c), if_pos c, List.length_cons]; omega
  · rw [if_neg (by simp [c]), if_neg c]; omega
/-- a unit's places are different -/
theorem cPq_le {B : List ((Nat × Nat) × Nat)} (hn : B.Nodup) {id : Nat × Nat} {s t : Nat} (h : ∀ d, (id, d) ∈ B → t ≤ d ∧ d < s) : cPq B id ≤ s - t := by
  have := nd_sb (B.filter (fun b => decide (b.1 = id))) ((List.range' t (s - t)).map (fun d => (id, d))) (hn.filter _) (fun x hx => by
    obtain ⟨h1, h2⟩ := List.mem_filter.mp hx
    obtain ⟨i, d⟩ := x
    have h2 : i = id := of_decide_eq_true h2
    subst h2
    obtain ⟨h3, h4⟩ := h d h1
    exact List.mem_map.mpr ⟨d, List.mem_range'_1.mpr ⟨h3, by omega⟩, rfl⟩)
  rw [List.length_map, List.length_range'] at this
  exact this
/-- what stands at a list's place -/
def nsG (g : Nat → Nat) (ns : List Nat) (i : Nat) : Nat := (ns[i]?.map g).getD 0
theorem nsG_s (g : Nat → Nat) : ∀ ns : List Nat, (ns.map g).sum = sNx (nsG g ns) ns.length
  | [] => rfl
  | u :: ns => by
    have I := nsG_s g ns
    rw [List.map_cons, List.sum_cons, List.length_cons, sNx_sh, I]
    rfl
/-- places on a TEMPLATE and on its parameters -/
def wPl (B : List ((Nat × Nat) × Nat)) (x : Nat × tY × List Nat) : Nat := cPq B (0, x.1) + (x.2.2.map (fun u => cPq B (1, u))).sum
theorem su_ad {α : Type} (f g : α → Nat) : ∀ l : List α, (l.map (fun x => f x + g x)).sum = (l.map f).sum + (l.map g).sum
  | [] => rfl
  | x :: l => by
    have I := su_ad f g l
    rw [List.map_cons, List.map_cons, List.map_cons, List.sum_cons, List.sum_cons, List.sum_cons]
    omega
theorem su_le {α : Type} (f g : α → Nat) : ∀ l : List α, (∀ x, x ∈ l → f x ≤ g x) → (l.map f).sum ≤ (l.map g).sum
  | [], _ => Nat.le_refl _
  | x :: l, h => by
    have I := su_le f g l (fun y hy => h y (List.mem_cons_of_mem _ hy))
    have := h x (List.mem_cons_self ..)
    rw [List.map_cons, List.map_cons, List.sum_cons, List.sum_cons]
    omega
theorem wPl_cn (b : (Nat × Nat) × Nat) (B : List ((Nat × Nat) × Nat)) (x : Nat × tY × List Nat) : wPl (b :: B) x = wPl [b] x + wPl B x := by
  have h : ∀ id, cPq (b :: B) id = cPq [b] id + cPq B id := fun id => by
    rw [cPq_cn, cPq_cn b [] id]
    have : cPq [] id = 0 := rfl
    omega
  unfold wPl
  rw [h]
  have e : (fun u => cPq (b :: B) (1, u)) = (fun u => cPq [b] (1, u) + cPq B (1, u)) := funext (fun u => h (1, u))
  rw [e, su_ad (fun u => cPq [b] (1, u)) (fun u => cPq B (1, u))]
  omega
/-- each place is on a TEMPLATE or on a parameter of one -/
theorem wPl_len (l : List (Nat × tY × List Nat)) : ∀ B : List ((Nat × Nat) × Nat), (∀ b, b ∈ B → ∃ x, x ∈ l ∧ (b.1 = (0, x.1) ∨ ∃ u, u ∈ x.2.2 ∧ b.1 = (1, u))) → B.length ≤ (l.map (wPl B)).sum
  | [], _ => Nat.zero_le _
  | b :: B, h => by
    have I := wPl_len l B (fun c hc => h c (List.mem_cons_of_mem _ hc))
    have e : wPl (b :: B) = fun x => wPl [b] x + wPl B x := funext (fun x => wPl_cn b B x)
    rw [e, su_ad (wPl [b]) (wPl B), List.length_cons]
    obtain ⟨x, hx, hb⟩ := h b (List.mem_cons_self ..)
    have h1 := su_me (wPl [b]) l x hx
    have h2 : 1 ≤ wPl [b] x := by
      unfold wPl
      rcases hb with hb | ⟨u, hu, hb⟩
      · have : cPq [b] (0, x.1) = 1 := by
          rw [cPq_cn, if_pos hb]
          rfl
        omega
      · have h3 : cPq [b] (1, u) = 1 := by
          rw [cPq_cn, if_pos hb]
          rfl
        have h4 := su_me (fun u => cPq [b] (1, u)) x.2.2 u hu
        have h4 : cPq [b] (1, u) ≤ _ := h4
        omega
    omega
section STR
variable {ρ : Nat → Nat × Nat} {tE tN : Nat → tY} {Un : List ((Nat × Nat) × Nat)} {Ls W : List Nat} {l : List (Nat × tY × List Nat)}
/-- where a unit lies -/
theorem tlH.wh (h : tlH ρ tE tN Un Ls W l) {id : Nat × Nat} {m : Nat} (hu : (id, m) ∈ Un) : ∃ x, x ∈ l ∧ ((id = (0, x.1) ∧ uY tE tN id = x.2.1) ∨ ∃ (i u : Nat), x.2.2[i]? = some u ∧ id = (1, u)) := by
  obtain ⟨⟨-, h2, -⟩, -⟩ := h
  rcases h2 _ hu with ⟨z1, ns, z2⟩ | ⟨z1, k, Y, ns, i, z2, z3, -⟩
  · refine ⟨_, z2, Or.inl ⟨?_, rfl⟩⟩
    obtain ⟨i1, i2⟩ := id
    have z1 : i1 = 0 := z1
    rw [z1]
  · refine ⟨_, z2, Or.inr ⟨i, id.2, z3, ?_⟩⟩
    obtain ⟨i1, i2⟩ := id
    have z1 : i1 = 1 := z1
    rw [z1]
set_option maxHeartbeats 1000000 in
/-- **arrows: those of ARGS' types where a call asks for them, the unit's row up to one of these, and different places on units of other types** -/
theorem tl_st (h : tlH ρ tE tN Un Ls W l) {id0 : Nat × Nat} {m0 : Nat} (hu : (id0, m0) ∈ Un) {a m pre : Nat} (hpre : pre ≤ ySp (uY tE tN id0)) {B : List ((Nat × Nat) × Nat)} (hn : B.Nodup) (hB : ∀ b, b ∈ B → (∃ m, (b.1, m) ∈ Un) ∧ b.2 < ySp (uY tE tN b.1)) (hG : ∀ b, b ∈ B → ∀ x u i, x ∈ l → id0 = (0, x.1) → i < m → x.2.2[a + i]? = some u → b.1 ≠ (1, u)) (h0 : ∀ d, (id0, d) ∈ B → pre ≤ d) : sNx (fun i => yLa (uY tE tN id0) (a + i)) m + pre + B.length ≤ tlN l := by
  obtain ⟨x0, hx0, hid⟩ := h.wh hu
  have BL := wPl_len l B (fun b hb => by
    obtain ⟨⟨m', hm⟩, -⟩ := hB b hb
    obtain ⟨x, hx, hid⟩ := h.wh hm
    refine ⟨x, hx, ?_⟩
    rcases hid with ⟨e, -⟩ | ⟨i, u, e1, e2⟩
    · exact Or.inl e
    · exact Or.inr ⟨u, List.mem_of_getElem? e1, e2⟩)
  -- a parameter's places
  have PAR : ∀ x, x ∈ l → ∀ i, nsG (fun u => cPq B (1, u)) x.2.2 i ≤ yLa x.2.1 i := fun x hx i => by
    obtain ⟨k, Y, ns⟩ := x
    unfold nsG
    cases e : ns[i]? with
    | none => exact Nat.zero_le _
    | some u =>
      obtain ⟨n1, n2, n3, -⟩ := h.nm hx e
      show cPq B (1, u) ≤ yAr (yL (yRs i Y))
      rw [n2]
      have c := cPq_le hn (id := (1, u)) (s := ySp (tN u)) (t := 0) (fun d hd => ⟨Nat.zero_le _, by
        have := (hB _ hd).2
        rw [uY_p] at this
        exact this⟩)
      have y := yAr_e (tN u) (Or.inl n3) (ySp (tN u)) (Nat.le_refl _)
      omega
  -- a TEMPLATE's own places
  have OWN : ∀ x, x ∈ l → cPq B (0, x.1) ≤ ySp x.2.1 := fun x hx => by
    have c := cPq_le hn (id := (0, x.1)) (s := ySp x.2.1) (t := 0) (fun d hd => ⟨Nat.zero_le _, by
      obtain ⟨⟨m', hm⟩, hs⟩ := hB _ hd
      obtain ⟨y, hy, hid⟩ := h.wh hm
      rcases hid with ⟨e, e2⟩ | ⟨i, u, -, e2⟩
      · have e : x.1 = y.1 := by injection e
        have := tl_key h.2.1 hx hy e
        rw [this, ← e2]
        exact hs
      · injection e2 with e2
        cases e2⟩)
    omega
  -- each TEMPLATE
  have EACH : ∀ x, x ∈ l → wPl B x + (if x.1 = x0.1 then sNx (fun i => yLa (uY tE tN id0) (a + i)) m + pre else 0) ≤ yAr x.2.1 := fun x hx => by
    have gx : yG x.2.1 := h.2.2.2.2.1 x hx
    unfold wPl
    rw [nsG_s]
    by_cases e : x.1 = x0.1
    · have := tl_key h.2.1 hx hx0 e
      subst this
      rw [if_pos rfl]
      rcases hid with ⟨i1, i2⟩ | ⟨j0, u0, i1, i2⟩
      · rw [i2] at hpre ⊢
        obtain ⟨M, hM⟩ : ∃ M, M = ySp x.2.1 + x.2.2.length + (a + m) := ⟨_, rfl⟩
        rw [yAr_e x.2.1 (Or.inl gx) M (by omega)]
        have c1 : cPq B (0, x.1) ≤ ySp x.2.1 - pre := cPq_le hn (fun d hd => by
          rw [← i1] at hd
          have := (hB _ hd).2
          rw [i2] at this
          exact ⟨h0 d hd, this⟩)
        have c2 : sNx (nsG (fun u => cPq B (1, u)) x.2.2) M + sNx (fun i => if a ≤ i ∧ i < a + m then yLa x.2.1 i else 0) M ≤ sNx (yLa x.2.1) M := by
          rw [← sNx_ad]
          refine sNx_le M (fun i _ => ?_)
          by_cases c : a ≤ i ∧ i < a + m
          · rw [if_pos c]
            have : nsG (fun u => cPq B (1, u)) x.2.2 i = 0 := by
              unfold nsG
              cases e : x.2.2[i]? with
              | none => rfl
              | some u =>
                obtain ⟨n1, n2, n3, -⟩ := h.nm (k := x.1) (Y := x.2.1) hx e
                show cPq B (1, u) = 0
                have c0 := cPq_le hn (id := (1, u)) (s := 0) (t := 0) (fun d hd => by
                  exact absurd rfl (hG _ hd x u (i - a) hx i1 (by omega) (by rw [show a + (i - a) = i by omega]; exact e)))
                omega
            omega
          · rw [if_neg c]
            have := PAR x hx i
            omega
        have c3 := sNx_mo (h := nsG (fun u => cPq B (1, u)) x.2.2) (show x.2.2.length ≤ M by omega)
        have c4 := sNx_mo (h := fun i => if a ≤ i ∧ i < a + m then yLa x.2.1 i else 0) (show a + m ≤ M by omega)
        have c5 := sNx_bk (yLa x.2.1) a m
        omega
      · obtain ⟨n1, n2, n3, -⟩ := h.nm (k := x.1) (Y := x.2.1) hx i1
        rw [i2, uY_p] at hpre ⊢
        rw [i2] at h0
        obtain ⟨M, hM⟩ : ∃ M, M = ySp x.2.1 + x.2.2.length := ⟨_, rfl⟩
        rw [yAr_e x.2.1 (Or.inl gx) M (by omega)]
        have n1 : j0 < x.2.2.length := n1
        have c1 := OWN x hx
        have U : sNx (fun i => yLa (tN u0) (a + i)) m + pre + cPq B (1, u0) ≤ yAr (tN u0) := by
          rw [yAr_e (tN u0) (Or.inl n3) (ySp (tN u0) + (a + m)) (by omega)]
          have d1 : cPq B (1, u0) ≤ ySp (tN u0) - pre := cPq_le hn (fun d hd => by
            have := (hB _ hd).2
            rw [uY_p] at this
            exact ⟨h0 d hd, this⟩)
          have d2 := sNx_bk (yLa (tN u0)) a m
          have d3 := sNx_mo (h := fun i => if a ≤ i ∧ i < a + m then yLa (tN u0) i else 0) (show a + m ≤ ySp (tN u0) + (a + m) by omega)
          have d4 : sNx (fun i => if a ≤ i ∧ i < a + m then yLa (tN u0) i else 0) (ySp (tN u0) + (a + m)) ≤ sNx (yLa (tN u0)) (ySp (tN u0) + (a + m)) := sNx_le _ (fun i _ => by
            split
            · exact Nat.le_refl _
            · exact Nat.zero_le _)
          omega
        have c2 : sNx (nsG (fun u => cPq B (1, u)) x.2.2) M + sNx (fun i => if i = j0 then sNx (fun i => yLa (tN u0) (a + i)) m + pre else 0) M ≤ sNx (yLa x.2.1) M := by
          rw [← sNx_ad]
          refine sNx_le M (fun i _ => ?_)
          by_cases c : i = j0
          · rw [if_pos c, c]
            have e1 : nsG (fun u => cPq B (1, u)) x.2.2 j0 = cPq B (1, u0) := by
              unfold nsG
              rw [i1]
              rfl
            have e2 : yLa x.2.1 j0 = yAr (tN u0) := by unfold yLa; rw [n2]
            omega
          · rw [if_neg c]
            have := PAR x hx i
            omega
        have c3 := sNx_mo (h := nsG (fun u => cPq B (1, u)) x.2.2) (show x.2.2.length ≤ M by omega)
        have c4 := sNx_mo (h := fun i => if i = j0 then sNx (fun i => yLa (tN u0) (a + i)) m + pre else 0) (show j0 + 1 ≤ M by omega)
        have c5 : sNx (fun i => yLa (tN u0) (a + i)) m + pre ≤ sNx (fun i => if i = j0 then sNx (fun i => yLa (tN u0) (a + i)) m + pre else 0) (j0 + 1) := by
          show _ ≤ sNx (fun i => if i = j0 then sNx (fun i => yLa (tN u0) (a + i)) m + pre else 0) j0 + (if j0 = j0 then sNx (fun i => yLa (tN u0) (a + i)) m + pre else 0)
          rw [if_pos rfl]
          exact Nat.le_add_left _ _
        omega
    · rw [if_neg e]
      obtain ⟨M, hM⟩ : ∃ M, M = ySp x.2.1 + x.2.2.length := ⟨_, rfl⟩
      rw [yAr_e x.2.1 (Or.inl gx) M (by omega)]
      have c1 := OWN x hx
      have c2 : sNx (nsG (fun u => cPq B (1, u)) x.2.2) M ≤ sNx (yLa x.2.1) M := sNx_le M (fun i _ => PAR x hx i)
      have c3 := sNx_mo (h := nsG (fun u => cPq B (1, u)) x.2.2) (show x.2.2.length ≤ M by omega)
      omega
  have ALL := su_le (fun x => wPl B x + (if x.1 = x0.1 then sNx (fun i => yLa (uY tE tN id0) (a + i)) m + pre else 0)) (fun x => yAr x.2.1) l EACH
  rw [su_ad (wPl B) (fun x => if x.1 = x0.1 then sNx (fun i => yLa (uY tE tN id0) (a + i)) m + pre else 0)] at ALL
  have T0 := su_me (fun x : Nat × tY × List Nat => if x.1 = x0.1 then sNx (fun i => yLa (uY tE tN id0) (a + i)) m + pre else 0) l x0 hx0
  rw [if_pos rfl] at T0
  unfold tlN
  omega
end STR
