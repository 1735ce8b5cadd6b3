/-! run(): ARGS and calls keep the types -/
theorem yRs_add : ∀ (a b : Nat) (y : tY), yRs a (yRs b y) = yRs (b + a) y
  | a, 0, y => by rw [Nat.zero_add]; rfl
  | a, b + 1, y => by
    show yRs a (yRs b (yR y)) = yRs (b + 1 + a) y
    rw [yRs_add a b (yR y), show b + 1 + a = (b + a) + 1 by omega]
    rfl
theorem gFn_rs (tN : Nat → tY) (r : tY) : ∀ (k q w : Nat), k ≤ q → yRs k (gFn tN q w r) = gFn tN (q - k) (w + k) r
  | 0, q, w, _ => rfl
  | k + 1, 0, w, h => by omega
  | k + 1, q + 1, w, h => by
    show yRs k (gFn tN q (w + 1) r) = _
    rw [gFn_rs tN r k q (w + 1) (by omega), show q + 1 - (k + 1) = q - k by omega, show w + 1 + k = w + (k + 1) by omega]
theorem gFn_k (tN : Nat → tY) (r : tY) {q w : Nat} (h : 0 < q) : yK (gFn tN q w r) = 1 ∧ yL (gFn tN q w r) = tN w := by
  obtain ⟨q, rfl⟩ : ∃ m, q = m + 1 := ⟨q - 1, by omega⟩
  exact ⟨rfl, rfl⟩
section XMJ
variable {T cnt : Nat} {kk f pp ee : Nat → Int32} {tE tN : Nat → tY} {R : Nat → Int32} {L : List Nat} {y0 : tY} {h h' : xmHp} {env : List Nat} {vs : List xmV} {y : tY} {v : xmV} {t : tT} {ps : List tP} {d : Nat × Nat × Nat × tS × tS} {z : Unit} {a b : tT}
theorem xmAr.nth : ∀ (l : List xmV) (y : tY), xmAr tE tN h y l → ∀ (k : Nat) (v : xmV), l[k]? = some v → xmT tE tN h (yL (yRs k y)) v
  | [], _, _, _, _, e => by cases e
  | x :: l, y, w, 0, v, e => by
    injection e with e
    rw [← e]; exact w.2.1
  | x :: l, y, w, k + 1, v, e => xmAr.nth l (yR y) w.2.2 k v e
theorem xmAr.drop : ∀ (k : Nat) (l : List xmV) (y : tY), xmAr tE tN h y l → k ≤ l.length → xmAr tE tN h (yRs k y) (l.drop k)
  | 0, l, y, w, _ => w
  | k + 1, [], y, w, hk => by simp at hk
  | k + 1, x :: l, y, w, hk => xmAr.drop k l (yR y) w.2.2 (by simpa using hk)
/-- what heap a new function leaves -/
theorem xmH.nf {fn : xmFn} (H : xmH cnt kk f pp ee tE tN R L h) (w : xmFo cnt kk f pp ee tE tN R L h fn) : xmH cnt kk f pp ee tE tN R L (xmNf h fn) := by
  refine ⟨fun g hg => ?_, H.2.1, H.2.2⟩
  rcases List.mem_append.mp hg with q | q
  · exact (H.1 g q).mo (xmLe.nf h fn)
  · rw [List.mem_singleton.mp q]; exact w.mo (xmLe.nf h fn)
theorem xmNf_at (h : xmHp) (fn : xmFn) : (xmNf h fn).1[h.1.length]? = some fn := by
  show (h.1 ++ [fn])[h.1.length]? = some fn
  rw [List.getElem?_append_right (Nat.le_refl _), Nat.sub_self]
  rfl
/-- a function's value -/
theorem xmT.fn {fn : xmFn} (hk : yK (yRs fn.2.2.2.length (xmTn tE tN fn.1)) = 1) : xmT tE tN (xmNf h fn) (yRs fn.2.2.2.length (xmTn tE tN fn.1)) (xmFv h) := Or.inr (Or.inr (Or.inr (Or.inr ⟨hk, rfl, h.1.length, fn, rfl, xmNf_at h fn, rfl⟩)))
/-- what a value of function type is -/
theorem xmT.un (H : xmH cnt kk f pp ee tE tN R L h) (w : xmT tE tN h y v) (hy : yIs y) (hl : h.1.length < 2 ^ 31) : ∃ fn i, v.2 = xmNi i ∧ h.1[i]? = some fn ∧ h.1.getD (xmIx v.2) (.leaf, [], [], []) = fn ∧ xmFo cnt kk f pp ee tE tN R L h fn ∧ y = yRs fn.2.2.2.length (xmTn tE tN fn.1) ∧ v.1 = 3 := by
  have k1 : yK y = 1 := by rw [hy]; rfl
  rcases w with ⟨q, -⟩ | ⟨q, -⟩ | ⟨q, -⟩ | ⟨q, -⟩ | ⟨-, v3, i, fn, e1, e2, e3⟩
  · omega
  · omega
  · omega
  · omega
  · refine ⟨fn, i, e1, e2, ?_, H.1 fn (List.mem_of_getElem? e2), e3, v3⟩
    have := xget_lt e2
    rw [e1, xmNi_ix (by omega), List.getD_eq_getElem?_getD, e2]
    rfl
/-- **a call keeps the types** -/
theorem xm_ap {fr : List xmFr} {n : Nat} {rest : List xmV} {m' : xmM} (H : xmH cnt kk f pp ee tE tN R L h) (hd : xmDp fr ≤ 50) (hl : h.1.length < 2 ^ 31) (hv : xmT tE tN h y v) (hr : xmAr tE tN h y rest) (hne : rest ≠ []) (hK : xmK cnt kk f pp ee tE tN R L y0 h (yRs rest.length y) fr) (e : xmAp h fr n v rest = .inr m') : xmI cnt kk f pp ee tE tN R L y0 m' ∧ xmLe h m'.1 := by
  have hy : yIs y := by
    cases rest with
    | nil => exact absurd rfl hne
    | cons x l => exact hr.1
  obtain ⟨fn, i, -, hi, eg, F, ey, -⟩ := xmT.un H hv hy hl
  obtain ⟨⟨g, d, z, a, b, e1, hg, r, E, et, hH⟩, ⟨w1, w2, w3⟩, En, Hd⟩ := id F
  unfold xmAp at e
  rw [eg] at e
  have ty : ∀ k, k ≤ xmWa fn.1 - fn.2.2.2.length → yRs k y = gFn tN (xmWa fn.1 - (fn.2.2.2.length + k)) (xmPw fn.1 + (fn.2.2.2.length + k)) r := fun k hk => by
    rw [ey, yRs_add, et, gFn_rs tN r _ _ _ (by omega)]
  have tr : ∀ k v, k < xmWa fn.1 - fn.2.2.2.length → rest[k]? = some v → xmT tE tN h (tN (xmPw fn.1 + (fn.2.2.2.length + k))) v := fun k v hk ev => by
    have q := xmAr.nth rest y hr k v ev
    rw [ty k (by omega), (gFn_k tN r (by omega)).2] at q
    exact q
  have th : ∀ (l : List xmV), (∀ k v, l[k]? = some v → rest[k]? = some v ∧ k < xmWa fn.1 - fn.2.2.2.length) → ∀ (k : Nat) (v : xmV), (fn.2.2.2 ++ l)[k]? = some v → xmT tE tN h (tN (xmPw fn.1 + k)) v := fun l hl k v ev => by
    by_cases c : k < fn.2.2.2.length
    · rw [List.getElem?_append_left c] at ev
      exact Hd k v ev
    · rw [List.getElem?_append_right (by omega)] at ev
      obtain ⟨q1, q2⟩ := hl _ v ev
      have q := tr _ v q2 q1
      rw [show fn.2.2.2.length + (k - fn.2.2.2.length) = k by omega] at q
      exact q
  simp only at e
  split at e
  · rename_i c
    injection e with e
    subst e
    have F' : xmFo cnt kk f pp ee tE tN R L h (fn.1, fn.2.1, fn.2.2.1, fn.2.2.2 ++ rest) := ⟨⟨g, d, z, a, b, e1, hg, r, E, et, hH⟩, ⟨w1, w2, by show (fn.2.2.2 ++ rest).length < _; rw [List.length_append]; exact c⟩, En, th rest (fun k v ev => ⟨ev, by have := xget_lt ev; omega⟩)⟩
    have le := xmLe.nf h (fn.1, fn.2.1, fn.2.2.1, fn.2.2.2 ++ rest)
    have e2 : yRs (fn.2.2.2 ++ rest).length (xmTn tE tN fn.1) = yRs rest.length y := by rw [ey, yRs_add, List.length_append]
    refine ⟨⟨H.nf F', hd, yRs rest.length y, ?_, xmK.mo le fr _ hK⟩, le⟩
    have q := xmT.fn (h := h) (tE := tE) (tN := tN) (fn := (fn.1, fn.2.1, fn.2.2.1, fn.2.2.2 ++ rest)) (by
      show yK (yRs (fn.2.2.2 ++ rest).length (xmTn tE tN fn.1)) = 1
      rw [e2, ty rest.length (by omega)]
      exact (gFn_k tN r (by omega)).1)
    have q : xmT tE tN (xmNf h (fn.1, fn.2.1, fn.2.2.1, fn.2.2.2 ++ rest)) (yRs (fn.2.2.2 ++ rest).length (xmTn tE tN fn.1)) (xmFv h) := q
    rw [e2] at q
    exact q
  · rename_i c
    split at e
    · cases e
    · rename_i c50
      injection e with e
      subst e
      have k1 : xmWa fn.1 - fn.2.2.2.length ≤ rest.length := by omega
      have e3 : yRs (xmWa fn.1 - fn.2.2.2.length) y = r := by
        rw [ty _ (Nat.le_refl _), show xmWa fn.1 - (fn.2.2.2.length + (xmWa fn.1 - fn.2.2.2.length)) = 0 by omega]
        rfl
      have dp : xmDp (.inr (rest.drop (xmWa fn.1 - fn.2.2.2.length)) :: fr) = xmDp fr + 1 := rfl
      refine ⟨⟨H, by show xmDp (.inr _ :: fr) ≤ 50; rw [dp]; omega, r, ?_, ?_, ?_, ?_, ?_⟩, xmLe.rf h⟩
      · show xmE cnt kk f pp ee tE tN R L (xmBo fn.1) (fn.2.1 ++ xmPa fn.1) r
        rw [xmPa_r]
        have eb : xmBo fn.1 = a := by rw [e1]; rfl
        rw [eb]
        exact E
      · show xmEn tE tN h (fn.2.1 ++ xmPa fn.1) (fn.2.2.1 ++ (fn.2.2.2 ++ rest.take (xmWa fn.1 - fn.2.2.2.length)))
        rw [xmPa_r]
        refine ⟨?_, fun k u v eu ev => ?_⟩
        · simp only [List.length_append, List.length_range', List.length_take]
          rw [En.1]
          omega
        · by_cases ck : k < fn.2.1.length
          · rw [List.getElem?_append_left ck] at eu
            rw [List.getElem?_append_left (by rw [En.1]; exact ck)] at ev
            exact En.2 k u v eu ev
          · rw [List.getElem?_append_right (by omega)] at eu
            rw [List.getElem?_append_right (by rw [En.1]; omega), En.1] at ev
            have q := th (rest.take (xmWa fn.1 - fn.2.2.2.length)) (fun k v ev => by
              rw [List.getElem?_take] at ev
              split at ev
              · exact ⟨ev, by assumption⟩
              · cases ev) _ v ev
            have hk := xget_lt eu
            rw [List.length_range'] at hk
            rw [List.getElem?_range' hk] at eu
            injection eu with eu
            rw [← eu, Nat.one_mul]
            exact q
      · show tH (xmBo fn.1) + 0 ≤ 31
        have eb : xmBo fn.1 = a := by rw [e1]; rfl
        rw [eb]
        exact hH
      · show xmAr tE tN h r (rest.drop _)
        rw [← e3]
        exact xmAr.drop _ rest y hr k1
      · show xmK cnt kk f pp ee tE tN R L y0 h (yRs (rest.drop (xmWa fn.1 - fn.2.2.2.length)).length r) fr
        rw [← e3, yRs_add, List.length_drop, show xmWa fn.1 - fn.2.2.2.length + (rest.length - (xmWa fn.1 - fn.2.2.2.length)) = rest.length by omega]
        exact hK
/-- a function of the text -/
theorem xmFo.of3 (w : xmE cnt kk f pp ee tE tN R L (.inner 3 d z a b) env y) (hh : tH a ≤ 31) (En : xmEn tE tN h env vs) : xmFo cnt kk f pp ee tE tN R L h (.inner 3 d z a b, env, vs, []) ∧ xmTn tE tN (.inner 3 d z a b) = y ∧ yK y = 1 := by
  obtain ⟨e, r', er, E⟩ := w.k3
  refine ⟨⟨⟨3, d, z, a, b, rfl, ⟨Or.inr rfl, w.2.1.1⟩, r', E, ?_, hh⟩, ⟨Nat.le_refl 1, (by show 1 ≤ 4; omega), (by show 0 < 1; omega)⟩, En, fun k v ev => (by cases ev)⟩, e, by rw [er]; rfl⟩
  show tE d.1 = yA (tN (d.1 + 1)) r'
  rw [e, er]
theorem xmFo.of2 (w : xmE cnt kk f pp ee tE tN R L (.inner 2 d z a b) env y) (hh : tH a ≤ 31) {h' : xmHp} (En : xmEn tE tN h' (env ++ [d.1 + 2]) vs) : xmFo cnt kk f pp ee tE tN R L h' (.inner 2 d z a b, env ++ [d.1 + 2], vs, []) ∧ yK (tN (d.1 + 2)) = 1 := by
  obtain ⟨⟨r, er, E⟩, -, p1, p4⟩ := w.k2
  refine ⟨⟨⟨2, d, z, a, b, rfl, ⟨Or.inl rfl, w.2.1.1⟩, r, E, er, hh⟩, ⟨p1, p4, p1⟩, En, fun k v ev => (by cases ev)⟩, ?_⟩
  rw [er]
  exact (gFn_k tN r p1).1
end XMJ
