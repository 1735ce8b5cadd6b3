/-! run(): one step keeps the types, all of it -/
section XMN
variable {T cnt : Nat} {kk f pp ee : Nat → Int32} {tE tN : Nat → tY} {R : Nat → Int32} {L : List Nat} {y0 : tY} {h h' : xmHp} {env : List Nat} {vs : List xmV} {y : tY} {v : xmV} {t : tT} {ps : List tP} {d : Nat × Nat × Nat × tS × tS} {z : Unit} {a b : tT}
theorem xmEn.ap {l : List Nat} {us : List xmV} (E : xmEn tE tN h env vs) (hl : us.length = l.length) (w : ∀ (k u : Nat) (v : xmV), l[k]? = some u → us[k]? = some v → xmT tE tN h (tN u) v) : xmEn tE tN h (env ++ l) (vs ++ us) := by
  refine ⟨by rw [List.length_append, List.length_append, E.1, hl], fun k u v eu ev => ?_⟩
  by_cases c : k < env.length
  · rw [List.getElem?_append_left c] at eu
    rw [List.getElem?_append_left (by rw [E.1]; exact c)] at ev
    exact E.2 k u v eu ev
  · rw [List.getElem?_append_right (by omega)] at eu
    rw [List.getElem?_append_right (by rw [E.1]; omega), E.1] at ev
    exact w _ u v eu ev
theorem xmEn.sn {u : Nat} (E : xmEn tE tN h env vs) (w : xmT tE tN h (tN u) v) : xmEn tE tN h (env ++ [u]) (vs ++ [v]) := E.ap rfl (fun k u' v' eu ev => by
  cases k with
  | zero => injection eu with eu; injection ev with ev; rw [← eu, ← ev]; exact w
  | succ k => cases eu)
/-- the heap with another array -/
theorem xmTot_ap (h : xmHp) (a : List Int64) : xmTot (h.1, h.2.1 ++ [a], h.2.2) = xmTot h + a.length := by
  unfold xmTot
  show ((h.2.1 ++ [a]).map List.length).sum = _
  rw [List.map_append, List.sum_append]
  rfl
theorem xmH.le0 {h' : xmHp} (H : xmH cnt kk f pp ee tE tN R L h) (e1 : h'.1 = h.1) (le : xmLe h h') (h2 : (∀ a, a ∈ h'.2.1 → a.length ≤ 1000 ∧ ∀ x, x ∈ a → xmB x = true) ∧ xmTot h' ≤ 10000) (h3 : ∀ (i : Nat) (c : Int64 × Int64 × Nat), h'.2.2[i]? = some c → xmB c.1 = true ∧ (c.2.1 = -1 ∨ xmIn i c.2.1) ∧ c.2.2 ≤ i + 1) : xmH cnt kk f pp ee tE tN R L h' := ⟨fun fn hf => (H.1 fn (by rw [← e1]; exact hf)).mo le, h2, h3⟩
theorem sum_set : ∀ (l : List (List Int64)) (i : Nat) (a : List Int64), (l.getD i []).length = a.length → ((l.set i a).map List.length).sum = (l.map List.length).sum
  | [], i, a, h => rfl
  | x :: l, 0, a, h => by
    have h : x.length = a.length := h
    show a.length + (l.map List.length).sum = x.length + (l.map List.length).sum
    rw [h]
  | x :: l, i + 1, a, h => by
    have q := sum_set l i a h
    show x.length + ((l.set i a).map List.length).sum = x.length + (l.map List.length).sum
    rw [q]
theorem xmB0 : xmB 0 = true := decide_eq_true ⟨by decide, by decide⟩
theorem fmod_bd {a b : Int} (hb : b ≠ 0) : (a.fmod b).natAbs < b.natAbs := by
  rcases Int.lt_or_lt_of_ne hb with c | c
  · have e : a.fmod b = -((-a).fmod (-b)) := by rw [Int.neg_fmod_neg, Int.neg_neg]
    have h1 := Int.fmod_nonneg_of_pos (-a) (show 0 < -b by omega)
    have h2 := Int.fmod_lt_of_pos (-a) (show 0 < -b by omega)
    omega
  · have h1 := Int.fmod_nonneg_of_pos a c
    have h2 := Int.fmod_lt_of_pos a c
    omega
theorem fdiv_bd (a b : Int) : (a.fdiv b).natAbs ≤ a.natAbs := Int.natAbs_fdiv_le_natAbs a b
theorem xB64 {x : Int} (h : x.natAbs ≤ 1099511627776) : xmB (Int64.ofInt x) = true := by
  rw [xmB_iff, Int64.toInt_ofInt_of_le (by omega) (by omega)]
  omega
set_option maxHeartbeats 4000000 in
/-- **an E that begins keeps the types** -/
theorem xm_bg {fr : List xmFr} {n N0 : Nat} {m' : xmM} (H : xmH cnt kk f pp ee tE tN R L h) (hd : xmDp fr ≤ 50) (hN0 : N0 ≤ 20000) (hN : xmN N0 (h, fr, n + 1, .inl (t, env, vs))) (E : xmE cnt kk f pp ee tE tN R L t env y) (En : xmEn tE tN h env vs) (hh : tH t + xmSg fr ≤ 31) (hK : xmK cnt kk f pp ee tE tN R L y0 h y fr) (e : xmBg T f pp ee h fr n env vs t = .inr m') : xmI cnt kk f pp ee tE tN R L y0 m' ∧ xmN N0 m' := by
  obtain ⟨q1, q2, q3, q4⟩ := hN
  have q1 : n + 1 ≤ N0 := q1
  have q2 : h.1.length + xmRf fr ≤ N0 - (n + 1) := q2
  have q3 : h.2.1.length ≤ 6 + (N0 - (n + 1)) := q3
  have q4 : h.2.2.length ≤ N0 - (n + 1) := q4
  have hl : h.2.2.length ≤ 30000 := by omega
  have wf := E.2.1.1
  have N1 : ∀ c, xmN N0 (h, fr, n, c) := fun c => ⟨by show n ≤ N0; omega, by show h.1.length + xmRf fr ≤ N0 - n; omega, by show h.2.1.length ≤ 6 + (N0 - n); omega, by show h.2.2.length ≤ N0 - n; omega⟩
  -- a value, the heap as it was
  have VAL : ∀ v, xmT tE tN h y v → xmI cnt kk f pp ee tE tN R L y0 (h, fr, n, .inr v) ∧ xmN N0 (h, fr, n, .inr v) := fun v hv => ⟨⟨H, hd, y, hv, hK⟩, N1 _⟩
  -- another E with the same NAMES
  have GO : ∀ x, xmE cnt kk f pp ee tE tN R L x env y → tH x + 1 ≤ tH t → xmI cnt kk f pp ee tE tN R L y0 (h, fr, n, .inl (x, env, vs)) ∧ xmN N0 (h, fr, n, .inl (x, env, vs)) := fun x hx ht => ⟨⟨H, hd, y, hx, En, by show tH x + xmSg fr ≤ 31; omega, hK⟩, N1 _⟩
  cases t with
  | leaf => cases wf
  | inner g d z a b =>
  rcases id wf with ⟨c, -⟩ | ⟨c, -⟩ | ⟨-, c⟩
  · cases c
  · cases c
  unfold xmBg at e
  rcases c with ⟨c, -⟩ | ⟨c, -⟩ | ⟨c, -⟩ | ⟨c, -⟩ | ⟨c, -⟩ | ⟨c, -⟩ | ⟨c | c, -⟩ | ⟨c | c | c, -⟩ | ⟨c | c | c, -⟩ | ⟨c, -⟩ | ⟨c, -⟩ | ⟨c, -⟩ | ⟨c, -⟩ | ⟨c, -⟩
  · -- let
    subst c
    simp only [reduceIte, Nat.reduceEqDiff] at e
    injection e with e
    subst e
    obtain ⟨E1, E2⟩ := E.k1
    have ht : tH (.inner 1 d z a b) = max (tH a) (tH b) + 1 := rfl
    refine ⟨⟨H, hd, tN (d.1 + 1), E1, En, ?_, rfl, y, E2, En, ?_, hK⟩, by show n ≤ N0; omega, by show h.1.length + xmRf fr ≤ N0 - n; omega, by show h.2.1.length ≤ 6 + (N0 - n); omega, by show h.2.2.length ≤ N0 - n; omega⟩
    · show tH a + (xmSg fr + 1) ≤ 31
      omega
    · show tH b + xmSg fr ≤ 30
      omega
  · -- let rec
    subst c
    simp only [reduceIte, Nat.reduceEqDiff] at e
    injection e with e
    subst e
    have ht : tH (.inner 2 d z a b) = max (tH a) (tH b) + 1 := rfl
    obtain ⟨⟨r, er, E1⟩, E2, p1, p4⟩ := E.k2
    have le := xmLe.nf h (.inner 2 d z a b, env ++ [d.1 + 2], vs ++ [xmFv h], [])
    have tv : xmT tE tN (xmNf h (.inner 2 d z a b, env ++ [d.1 + 2], vs ++ [xmFv h], [])) (tN (d.1 + 2)) (xmFv h) := xmT.fn (fn := (.inner 2 d z a b, env ++ [d.1 + 2], vs ++ [xmFv h], [])) (by
      show yK (tN (d.1 + 2)) = 1
      rw [er]; exact (gFn_k tN r p1).1)
    have En2 := (En.mo le).sn tv
    obtain ⟨F, -⟩ := xmFo.of2 E (by omega) En2
    have ln : (xmNf h (.inner 2 d z a b, env ++ [d.1 + 2], vs ++ [xmFv h], [])).1.length = h.1.length + 1 := by
      show (h.1 ++ [_]).length = _
      rw [List.length_append]; rfl
    refine ⟨⟨⟨fun fn hf => ?_, H.2.1, H.2.2⟩, hd, y, E2, En2, by show tH b + xmSg fr ≤ 31; omega, xmK.mo le fr y hK⟩, by show n ≤ N0; omega, by show (xmNf h _).1.length + xmRf fr ≤ N0 - n; rw [ln]; omega, by show h.2.1.length ≤ 6 + (N0 - n); omega, by show h.2.2.length ≤ N0 - n; omega⟩
    rcases List.mem_append.mp hf with q | q
    · exact (H.1 fn q).mo le
    · rw [List.mem_singleton.mp q]; exact F
  · -- fun
    subst c
    simp only [reduceIte, Nat.reduceEqDiff] at e
    injection e with e
    subst e
    have ht : tH (.inner 3 d z a b) = max (tH a) (tH b) + 1 := rfl
    obtain ⟨F, ft, fk⟩ := xmFo.of3 E (by omega) En
    have le := xmLe.nf h (.inner 3 d z a b, env, vs, [])
    have tv : xmT tE tN (xmNf h (.inner 3 d z a b, env, vs, [])) (xmTn tE tN (.inner 3 d z a b)) (xmFv h) := xmT.fn (fn := (.inner 3 d z a b, env, vs, [])) (by
      show yK (xmTn tE tN (.inner 3 d z a b)) = 1
      rw [ft]; exact fk)
    rw [ft] at tv
    have ln : (xmNf h (.inner 3 d z a b, env, vs, [])).1.length = h.1.length + 1 := by
      show (h.1 ++ [_]).length = _
      rw [List.length_append]; rfl
    exact ⟨⟨H.nf F, hd, y, tv, xmK.mo le fr y hK⟩, by show n ≤ N0; omega, by show (xmNf h _).1.length + xmRf fr ≤ N0 - n; rw [ln]; omega, by show h.2.1.length ≤ 6 + (N0 - n); omega, by show h.2.2.length ≤ N0 - n; omega⟩
  · -- if
    subst c
    simp only [reduceIte, Nat.reduceEqDiff] at e
    obtain ⟨-, d', z', x, x', rfl, E1, E2, -⟩ := E.k4
    have ht : tH (.inner 4 d z a (.inner 31 d' z' x x')) = max (tH x) (tH x') + 1 := rfl
    cases q : xmC T f pp ee h env vs a 0 with
    | none => rw [q] at e; cases e
    | some c =>
      rw [q] at e
      injection e with e
      subst e
      cases c with
      | true => exact GO x E1 (by omega)
      | false => exact GO x' E2 (by omega)
  · -- assert
    subst c
    simp only [reduceIte, Nat.reduceEqDiff] at e
    have ht : tH (.inner 5 d z a b) = tH b + 1 := rfl
    cases q : xmC T f pp ee h env vs a 0 with
    | none => rw [q] at e; cases e
    | some c =>
      rw [q] at e
      cases c with
      | true =>
        injection e with e
        subst e
        exact GO b E.k5.2 (by omega)
      | false => cases e
  · -- set
    subst c
    simp only [reduceIte, Nat.reduceEqDiff] at e
    have ht : tH (.inner 6 d z a b) = max (tH a) (tH b) + 1 := rfl
    obtain ⟨⟨k1, ⟨k2, k3⟩, k4, k5, k6⟩, E1⟩ := E.k6
    split at e
    · split at e
      · split at e
        · rename_i c1 c2 c3
          injection e with e
          subst e
          have le : xmLe h (h.1, h.2.1.set (xmIx (xmGet f pp ee env vs (d.1 + 1)).2) ((h.2.1.getD (xmIx (xmGet f pp ee env vs (d.1 + 1)).2) []).set (xmIx (xmSm T f pp ee h env vs d.2.2.2.1.2)) (xmSm T f pp ee h env vs d.2.2.2.2.2)), h.2.2) := ⟨⟨[], (List.append_nil _).symm⟩, by show _ ≤ (List.set _ _ _).length; rw [List.length_set]; exact Nat.le_refl _, Nat.le_refl _⟩
          refine ⟨⟨H.le0 rfl le ⟨fun l hl' => ?_, ?_⟩ H.2.2, hd, y, E1, En.mo le, by show tH a + xmSg fr ≤ 31; omega, xmK.mo le fr y hK⟩, by show n ≤ N0; omega, by show h.1.length + xmRf fr ≤ N0 - n; omega, by show (h.2.1.set _ _).length ≤ _; rw [List.length_set]; show _ ≤ 6 + (N0 - n); omega, by show h.2.2.length ≤ N0 - n; omega⟩
          · rcases List.mem_or_eq_of_mem_set hl' with w | w
            · exact H.2.1.1 l w
            · subst w
              have base : (h.2.1.getD (xmIx (xmGet f pp ee env vs (d.1 + 1)).2) []).length ≤ 1000 ∧ ∀ x, x ∈ h.2.1.getD (xmIx (xmGet f pp ee env vs (d.1 + 1)).2) [] → xmB x = true := by
                rw [List.getD_eq_getElem?_getD]
                cases w : h.2.1[xmIx (xmGet f pp ee env vs (d.1 + 1)).2]? with
                | none => exact ⟨Nat.zero_le _, fun x hx => by cases hx⟩
                | some l => exact H.2.1.1 l (List.mem_of_getElem? w)
              refine ⟨by rw [List.length_set]; exact base.1, fun x hx => ?_⟩
              rcases List.mem_or_eq_of_mem_set hx with w | w
              · exact base.2 x w
              · rw [w]; exact c3
          · show ((h.2.1.set _ _).map List.length).sum ≤ 10000
            rw [sum_set _ _ _ (by rw [List.length_set])]
            exact H.2.1.2
        · cases e
      · cases e
    · cases e
  · -- new
    subst c
    simp only [reduceIte, Nat.reduceEqDiff] at e
    split at e
    · split at e
      · cases e
      · split at e
        · cases e
        · rename_i c1 c2 c3
          injection e with e
          subst e
          have gy : y = yB 2 := by
            have g := E.1.1
            unfold gOk at g
            simp only [reduceIte, Nat.reduceEqDiff] at g
            exact g.1
          have le : xmLe h (h.1, h.2.1 ++ [List.replicate (xmIx (xmSm T f pp ee h env vs d.2.2.2.1.2)) 0], h.2.2) := ⟨⟨[], (List.append_nil _).symm⟩, by rw [show ((h.1, h.2.1 ++ [List.replicate (xmIx (xmSm T f pp ee h env vs d.2.2.2.1.2)) 0], h.2.2) : xmHp).2.1.length = h.2.1.length + 1 from List.length_append]; omega, Nat.le_refl _⟩
          have ln : (h.2.1 ++ [List.replicate (xmIx (xmSm T f pp ee h env vs d.2.2.2.1.2)) 0]).length = h.2.1.length + 1 := by rw [List.length_append]; rfl
          have i1 : xmIx (xmSm T f pp ee h env vs d.2.2.2.1.2) ≤ 1000 := by
            have z : ¬ (1000 : Int64) < xmSm T f pp ee h env vs d.2.2.2.1.2 := fun w => c3 (Or.inl w)
            rw [Int64.lt_iff_toInt_lt, show (1000 : Int64).toInt = 1000 from rfl] at z
            unfold xmIx
            show (xmSm T f pp ee h env vs d.2.2.2.1.2).toInt.toNat ≤ 1000
            omega
          have i2 : ¬ 10000 < xmTot h + xmIx (xmSm T f pp ee h env vs d.2.2.2.1.2) := fun w => c3 (Or.inr w)
          refine ⟨⟨H.le0 rfl le ⟨fun l hl' => ?_, ?_⟩ H.2.2, hd, y, ?_, xmK.mo le fr y hK⟩, by show n ≤ N0; omega, by show h.1.length + xmRf fr ≤ N0 - n; omega, by rw [show ((h.1, h.2.1 ++ [List.replicate (xmIx (xmSm T f pp ee h env vs d.2.2.2.1.2)) 0], h.2.2) : xmHp).2.1.length = h.2.1.length + 1 from ln]; show _ ≤ 6 + (N0 - n); omega, by show h.2.2.length ≤ N0 - n; omega⟩
          · rcases List.mem_append.mp hl' with w | w
            · exact H.2.1.1 l w
            · rw [List.mem_singleton.mp w]
              exact ⟨by rw [List.length_replicate]; exact i1, fun x hx => by rw [List.eq_of_mem_replicate hx]; exact xmB0⟩
          · rw [xmTot_ap, List.length_replicate]
            omega
          · rw [gy]
            exact Or.inr (Or.inr (Or.inl ⟨rfl, rfl, h.2.1.length, by rw [show ((h.1, h.2.1 ++ [List.replicate (xmIx (xmSm T f pp ee h env vs d.2.2.2.1.2)) 0], h.2.2) : xmHp).2.1.length = h.2.1.length + 1 from ln]; omega, rfl⟩))
    · cases e
  · -- S
    subst c
    simp only [reduceIte, Nat.reduceEqDiff] at e
    have g := E.1.1
    have r := E.1.2
    unfold gOk at g
    unfold rWo at r
    simp only [reduceIte, Nat.reduceEqDiff, or_false, or_self, false_or] at g r
    by_cases c : isN d.2.2.2.1.2 = true
    · rw [if_pos c] at e
      injection e with e
      subst e
      refine VAL _ ?_
      rw [g.1]
      unfold gSk
      rw [if_pos c]
      exact (xmS_ty hl En r.1 c).2
    · rw [if_neg c] at e
      split at e
      · rename_i c1
        injection e with e
        subst e
        refine VAL _ ?_
        rw [g.1]
        unfold gSk
        rw [if_neg c]
        exact Or.inl ⟨rfl, rfl, c1⟩
      · cases e
  · -- true
    subst c
    simp only [reduceIte, Nat.reduceEqDiff] at e
    injection e with e
    subst e
    have g := E.1.1
    unfold gOk at g
    simp only [reduceIte, Nat.reduceEqDiff, true_or] at g
    exact VAL _ (by rw [g]; exact Or.inr (Or.inl ⟨rfl, rfl⟩))
  · -- false
    subst c
    simp only [reduceIte, Nat.reduceEqDiff] at e
    injection e with e
    subst e
    have g := E.1.1
    unfold gOk at g
    simp only [reduceIte, Nat.reduceEqDiff, or_true] at g
    exact VAL _ (by rw [g]; exact Or.inr (Or.inl ⟨rfl, rfl⟩))
  · -- nil
    subst c
    simp only [reduceIte, Nat.reduceEqDiff, or_self] at e
    injection e with e
    subst e
    have g := E.1.1
    unfold gOk at g
    simp only [reduceIte, Nat.reduceEqDiff, or_self] at g
    exact VAL _ (by rw [g]; exact Or.inr (Or.inr (Or.inr (Or.inl ⟨rfl, rfl, Or.inl rfl⟩))))
  · -- *
    subst c
    simp only [reduceIte, Nat.reduceEqDiff, true_or] at e
    have g := E.1.1
    unfold gOk at g
    simp only [reduceIte, Nat.reduceEqDiff, true_or, or_self] at g
    split at e
    · split at e
      · rename_i c1 c2
        injection e with e
        subst e
        refine VAL _ ?_
        rw [g.1]
        refine Or.inl ⟨rfl, rfl, ?_⟩
        rw [xmB_iff]
        show _ ≤ (xmSm T f pp ee h env vs d.2.2.2.1.2 * xmSm T f pp ee h env vs d.2.2.2.2.2).toInt ∧ _
        rw [j_mul (by omega) (by omega)]
        omega
      · cases e
    · cases e
  · -- /
    subst c
    simp only [reduceIte, Nat.reduceEqDiff, true_or, or_true] at e
    have g := E.1.1
    unfold gOk at g
    simp only [reduceIte, Nat.reduceEqDiff, true_or, or_true, or_self] at g
    split at e
    · split at e
      · cases e
      · rename_i c1 c2
        injection e with e
        subst e
        refine VAL _ ?_
        rw [g.1]
        refine Or.inl ⟨rfl, rfl, xB64 ?_⟩
        have q := xmB_iff.mp c1.1
        have := fdiv_bd (xmSm T f pp ee h env vs d.2.2.2.1.2).toInt (xmSm T f pp ee h env vs d.2.2.2.2.2).toInt
        omega
    · cases e
  · -- %
    subst c
    simp only [reduceIte, Nat.reduceEqDiff, true_or, or_true] at e
    have g := E.1.1
    unfold gOk at g
    simp only [reduceIte, Nat.reduceEqDiff, true_or, or_true, or_self] at g
    split at e
    · split at e
      · cases e
      · rename_i c1 c2
        injection e with e
        subst e
        refine VAL _ ?_
        rw [g.1]
        refine Or.inl ⟨rfl, rfl, xB64 ?_⟩
        have q := xmB_iff.mp c1.2
        have nz : (xmSm T f pp ee h env vs d.2.2.2.2.2).toInt ≠ 0 := fun w => c2 (Int64.toInt_inj.mp w)
        have := fmod_bd (a := (xmSm T f pp ee h env vs d.2.2.2.1.2).toInt) nz
        omega
    · cases e
  · -- get
    subst c
    simp only [reduceIte, Nat.reduceEqDiff, or_self] at e
    have g := E.1.1
    unfold gOk at g
    simp only [reduceIte, Nat.reduceEqDiff, or_self] at g
    split at e
    · split at e
      · rename_i c1 c2
        injection e with e
        subst e
        refine VAL _ ?_
        rw [g.1]
        refine Or.inl ⟨rfl, rfl, ?_⟩
        show xmB ((h.2.1.getD (xmIx (xmGet f pp ee env vs d.1).2) []).getD (xmIx (xmSm T f pp ee h env vs d.2.2.2.1.2)) 0) = true
        rw [List.getD_eq_getElem?_getD, List.getD_eq_getElem?_getD]
        cases w : h.2.1[xmIx (xmGet f pp ee env vs d.1).2]? with
        | none => exact xmB0
        | some l =>
          show xmB (l[xmIx (xmSm T f pp ee h env vs d.2.2.2.1.2)]?.getD 0) = true
          cases w2 : l[xmIx (xmSm T f pp ee h env vs d.2.2.2.1.2)]? with
          | none => exact xmB0
          | some x => exact (H.2.1.1 l (List.mem_of_getElem? w)).2 x (List.mem_of_getElem? w2)
      · cases e
    · cases e
  · -- a call
    subst c
    simp only [reduceIte, Nat.reduceEqDiff, or_self] at e
    obtain ⟨⟨k1, k2, k3⟩, EA⟩ := E.k15
    have ht : tH (.inner 15 d z a b) = max (tH a) (tH b) + 1 := rfl
    cases q : xmAg T f pp ee env vs a h n with
    | inl c => rw [q] at e; cases e
    | inr r =>
      rw [q] at e
      have e : xmAp r.1 fr r.2.1 (xmGet f pp ee env vs d.1) r.2.2 = .inr m' := e
      obtain ⟨i1, i2, i3, i4, ⟨i5, i5'⟩, i6⟩ := xm_ag a h n _ r EA (by omega) H hl En q
      have hv := ((En.get k2).2.2).mo i2
      have hne : r.2.2 ≠ [] := fun w => by
        rw [w] at i4
        cases a with
        | leaf => exact k3 rfl
        | inner g' d' z' a' b' =>
          have i4 : 0 = tQn b' + 1 := i4
          omega
      have l1 : r.1.1.length ≤ N0 := by omega
      obtain ⟨I, le⟩ := xm_ap i1 hd (by omega) hv i3 hne (by rw [i4, ← k1]; exact xmK.mo i2 fr y hK) e
      refine ⟨I, ?_⟩
      have i61 : r.1.2.1 = h.2.1 := by rw [i6]
      have i62 : r.1.2.2 = h.2.2 := by rw [i6]
      unfold xmAp at e
      simp only at e
      split at e
      · injection e with e
        subst e
        have ln : ∀ fn, (xmNf r.1 fn).1.length = r.1.1.length + 1 := fun fn => by
          show (r.1.1 ++ [_]).length = _
          rw [List.length_append]; rfl
        exact ⟨by show r.2.1 ≤ N0; omega, by show (xmNf r.1 _).1.length + xmRf fr ≤ N0 - r.2.1; rw [ln]; omega, by show r.1.2.1.length ≤ 6 + (N0 - r.2.1); rw [i61]; omega, by show r.1.2.2.length ≤ N0 - r.2.1; rw [i62]; omega⟩
      · split at e
        · cases e
        · injection e with e
          subst e
          refine ⟨by show r.2.1 ≤ N0; omega, ?_, by show r.1.2.1.length ≤ 6 + (N0 - r.2.1); rw [i61]; omega, by show r.1.2.2.length ≤ N0 - r.2.1; rw [i62]; omega⟩
          show r.1.1.length + ((if _ = [] then 0 else 1) + xmRf fr) ≤ N0 - r.2.1
          split <;> omega
  · -- ( E )
    subst c
    simp only [reduceIte, Nat.reduceEqDiff, or_self] at e
    have ht : tH (.inner 16 d z a b) = max (tH a) (tH b) + 1 := rfl
    injection e with e
    subst e
    exact GO a E.k16 (by omega)
  · -- cons
    subst c
    simp only [reduceIte, Nat.reduceEqDiff, or_self] at e
    have g := E.1.1
    have rr := E.1.2
    unfold gOk at g
    unfold rWo at rr
    simp only [reduceIte, Nat.reduceEqDiff, or_self] at g rr
    split at e
    · rename_i c1
      injection e with e
      subst e
      have ln : (h.2.2 ++ [(xmSm T f pp ee h env vs d.2.2.2.1.2, (xmGet f pp ee env vs d.2.1).2, xmSz h (xmGet f pp ee env vs d.2.1).2 + 1)]).length = h.2.2.length + 1 := by rw [List.length_append]; rfl
      have le : xmLe h (h.1, h.2.1, h.2.2 ++ [(xmSm T f pp ee h env vs d.2.2.2.1.2, (xmGet f pp ee env vs d.2.1).2, xmSz h (xmGet f pp ee env vs d.2.1).2 + 1)]) := ⟨⟨[], (List.append_nil _).symm⟩, Nat.le_refl _, by rw [show ((h.1, h.2.1, h.2.2 ++ [(xmSm T f pp ee h env vs d.2.2.2.1.2, (xmGet f pp ee env vs d.2.1).2, xmSz h (xmGet f pp ee env vs d.2.1).2 + 1)]) : xmHp).2.2.length = h.2.2.length + 1 from ln]; omega⟩
      refine ⟨⟨H.le0 rfl le H.2.1 (fun i c ec => ?_), hd, y, ?_, xmK.mo le fr y hK⟩, by show n ≤ N0; omega, by show h.1.length + xmRf fr ≤ N0 - n; omega, by show h.2.1.length ≤ 6 + (N0 - n); omega, by rw [show ((h.1, h.2.1, h.2.2 ++ [(xmSm T f pp ee h env vs d.2.2.2.1.2, (xmGet f pp ee env vs d.2.1).2, xmSz h (xmGet f pp ee env vs d.2.1).2 + 1)]) : xmHp).2.2.length = h.2.2.length + 1 from ln]; show _ ≤ N0 - n; omega⟩
      · have ec : (h.2.2 ++ [(xmSm T f pp ee h env vs d.2.2.2.1.2, (xmGet f pp ee env vs d.2.1).2, xmSz h (xmGet f pp ee env vs d.2.1).2 + 1)])[i]? = some c := ec
        have hi := xget_lt ec
        rw [ln] at hi
        by_cases ci : i = h.2.2.length
        · subst ci
          rw [List.getElem?_append_right (Nat.le_refl _), Nat.sub_self] at ec
          injection ec with ec
          subst ec
          refine ⟨c1, ?_, by show xmSz h _ + 1 ≤ _; have := H.sz (xmGet f pp ee env vs d.2.1).2; omega⟩
          have tv := (En.get rr.2).2.2
          rw [g.2.1] at tv
          rcases tv with ⟨w, -⟩ | ⟨w, -⟩ | ⟨w, -⟩ | ⟨-, -, w⟩ | ⟨w, -⟩
          · exact absurd w (by decide)
          · exact absurd w (by decide)
          · exact absurd w (by decide)
          · exact w
          · exact absurd w (by decide)
        · rw [List.getElem?_append_left (by omega)] at ec
          exact H.2.2 i c ec
      · rw [g.1]
        exact Or.inr (Or.inr (Or.inr (Or.inl ⟨rfl, rfl, Or.inr ⟨h.2.2.length, by rw [show ((h.1, h.2.1, h.2.2 ++ [(xmSm T f pp ee h env vs d.2.2.2.1.2, (xmGet f pp ee env vs d.2.1).2, xmSz h (xmGet f pp ee env vs d.2.1).2 + 1)]) : xmHp).2.2.length = h.2.2.length + 1 from ln]; omega, rfl⟩⟩)))
    · cases e
  · -- match
    subst c
    simp only [reduceIte, Nat.reduceEqDiff, or_self] at e
    have ht : tH (.inner 19 d z a b) = max (tH a) (tH b) + 1 := rfl
    obtain ⟨⟨k1, ⟨k2, k3⟩, k4⟩, E1, E2⟩ := E.k19
    split at e
    · injection e with e
      subst e
      exact GO a E1 (by omega)
    · rename_i c1
      injection e with e
      subst e
      have tv := (En.get k4).2.2
      rw [k1] at tv
      have hin : xmIn h.2.2.length (xmGet f pp ee env vs (d.1 + 1)).2 := by
        rcases tv with ⟨w, -⟩ | ⟨w, -⟩ | ⟨w, -⟩ | ⟨-, -, w⟩ | ⟨w, -⟩
        · exact absurd w (by decide)
        · exact absurd w (by decide)
        · exact absurd w (by decide)
        · rcases w with w | w
          · exact absurd (by rw [w]; decide) c1
          · exact w
        · exact absurd w (by decide)
      obtain ⟨i, hi, ei⟩ := hin
      obtain ⟨c, ec⟩ : ∃ c, h.2.2[i]? = some c := ⟨_, List.getElem?_eq_getElem hi⟩
      have eg : h.2.2.getD (xmIx (xmGet f pp ee env vs (d.1 + 1)).2) (0, 0, 0) = c := by
        rw [ei, xmNi_ix (by omega), List.getD_eq_getElem?_getD, ec]
        rfl
      rw [eg]
      obtain ⟨j1, j2, j3⟩ := H.2.2 i c ec
      refine ⟨⟨H, hd, y, E2, En.ap rfl (fun k u v eu ev => ?_), by show tH b + xmSg fr ≤ 31; omega, hK⟩, N1 _⟩
      match k, eu, ev with
      | 0, eu, ev =>
        injection eu with eu; injection ev with ev
        rw [← eu, ← ev, k2]
        exact Or.inl ⟨rfl, rfl, j1⟩
      | 1, eu, ev =>
        injection eu with eu; injection ev with ev
        rw [← eu, ← ev, k3]
        exact Or.inr (Or.inr (Or.inr (Or.inl ⟨rfl, rfl, j2.imp id (fun w => w.mo (by omega))⟩)))
      | k + 2, eu, ev => cases eu
/-- **one step keeps the types** -/
theorem xm_st {N0 : Nat} {m m' : xmM} (hN0 : N0 ≤ 20000) (I : xmI cnt kk f pp ee tE tN R L y0 m) (hN : xmN N0 m) (e : xmSt T f pp ee m = .inr m') : xmI cnt kk f pp ee tE tN R L y0 m' ∧ xmN N0 m' := by
  obtain ⟨h, fr, n, c⟩ := m
  obtain ⟨H, hd, I⟩ := I
  cases c with
  | inl x =>
    obtain ⟨t, env, vs⟩ := x
    obtain ⟨y, E, En, hh, hK⟩ := I
    cases n with
    | zero => unfold xmSt at e; cases e
    | succ n => exact xm_bg H hd hN0 hN E En hh hK e
  | inr v =>
    obtain ⟨y, hv, hK⟩ := I
    obtain ⟨q1, q2, q3, q4⟩ := hN
    cases fr with
    | nil => cases n <;> (unfold xmSt at e; cases e)
    | cons F fr =>
      cases F with
      | inl x =>
        obtain ⟨u, b, env, vs⟩ := x
        have e : (.inr (h, fr, n, .inl (b, env ++ [u], vs ++ [v])) : (Nat × Nat) ⊕ xmM) = .inr m' := by
          cases n <;> exact e
        injection e with e
        subst e
        obtain ⟨k1, yb, E, En, k2, k3⟩ := hK
        have k1 : tN u = y := k1
        have k2 : tH b + xmSg fr ≤ 30 := k2
        exact ⟨⟨H, hd, yb, E, En.sn (by rw [k1]; exact hv), by show tH b + xmSg fr ≤ 31; omega, k3⟩, q1, q2, q3, q4⟩
      | inr rest =>
        have hd' : xmDp fr ≤ 50 := by
          have w : xmDp (.inr rest :: fr) = xmDp fr + 1 := rfl
          have hd : xmDp (.inr rest :: fr) ≤ 50 := hd
          omega
        cases rest with
        | nil =>
          have e : (.inr (h, fr, n, .inr v) : (Nat × Nat) ⊕ xmM) = .inr m' := by
            cases n <;> exact e
          injection e with e
          subst e
          have q2 : h.1.length + (0 + xmRf fr) ≤ N0 - n := q2
          exact ⟨⟨H, hd', y, hv, hK.2⟩, q1, by show h.1.length + xmRf fr ≤ N0 - n; omega, q3, q4⟩
        | cons x rest =>
          have e : xmAp h fr n v (x :: rest) = .inr m' := by
            cases n <;> exact e
          have q2 : h.1.length + (1 + xmRf fr) ≤ N0 - n := q2
          obtain ⟨I, le⟩ := xm_ap H hd' (by omega) hv hK.1 (fun w => by cases w) hK.2 e
          refine ⟨I, ?_⟩
          unfold xmAp at e
          simp only at e
          split at e
          · injection e with e
            subst e
            have ln : ∀ fn, (xmNf h fn).1.length = h.1.length + 1 := fun fn => by
              show (h.1 ++ [_]).length = _
              rw [List.length_append]; rfl
            exact ⟨q1, by show (xmNf h _).1.length + xmRf fr ≤ N0 - n; rw [ln]; omega, q3, q4⟩
          · split at e
            · cases e
            · injection e with e
              subst e
              refine ⟨q1, ?_, q3, q4⟩
              show h.1.length + ((if _ = [] then 0 else 1) + xmRf fr) ≤ N0 - n
              split <;> omega
end XMN
