/-! run(), the reference: INPUTS, and all of it -/
/-- an array that is given -/
def xiA (gv ge : Nat → Int64) (i : Nat) : List Int64 := (List.range (xmIx (gv i))).map (fun k => ge (1000 * i + k))
/-- INPUTS as values, and their arrays -/
def xiS (gv ge : Nat → Int64) : List (Nat × Nat) → Nat → List (List Int64) → List xmV → List (List Int64) × List xmV
  | [], _, A, vs => (A, vs)
  | y :: l, i, A, vs => if y.2 = 2 then xiS gv ge l (i + 1) (A ++ [xiA gv ge i]) (vs ++ [(2, xmNi A.length)]) else xiS gv ge l (i + 1) A (vs ++ [(y.2, gv i)])
/-- a run begins -/
def xm0 (gv ge : Nat → Int64) (is : List (Nat × Nat)) (e : tT) (n : Nat) : xmM := (([], (xiS gv ge is 0 [] []).1, []), [], n, .inl (e, is.map Prod.fst, (xiS gv ge is 0 [] []).2))
/-- what value() tells of it -/
def xmOut (h : xmHp) (v : xmV) : Int64 := if v.1 = 3 then 0 else if v.1 = 2 then xmNi (xmLn h v.2) else if v.1 = 4 then xmNi (xmSz h v.2) else v.2
section XRQ
variable {pp kk ee f : Nat → Int32} {tE tN : Nat → tY} {L : List Nat} {V τ : zSt} {N S P A c n cnt len : Nat} {h : xmHp} {fr : List xmFr} {ks : Nat → Nat} {qs : List Nat} {T h0 m : Nat}
/-- one array more -/
theorem rXa.ar {τ' : zSt} {a : List Int64} (I : rXa pp V N S P A τ c n h fr) (F : xFm V τ') (h180 : τ'.1 180 = nI (h.2.1.length + 1)) (h181 : τ'.1 181 = nI (xmTot h + a.length)) (hf : ∀ j, j ∈ [171, 176, 188, 189, 190, 191, 164] → τ'.1 j = τ.1 j) (hr : ∀ k, (105 ≤ k ∧ k ≤ 112) ∨ (116 ≤ k ∧ k ≤ 118) → τ'.2.2.1 k = τ.2.2.1 k) (h8 : τ'.2.2.2 108 = τ.2.2.2 108) (r113 : τ'.2.2.1 113 = upd (τ.2.2.1 113) h.2.1.length (nI (xmTot h))) (r114 : τ'.2.2.1 114 = upd (τ.2.2.1 114) h.2.1.length (nI a.length)) (g2 : ∀ k, k < xmTot h → τ'.2.2.2 115 k = τ.2.2.2 115 k) (g3 : ∀ (k : Nat) (x : Int64), a[k]? = some x → τ'.2.2.2 115 (xmTot h + k) = x) (hl : τ'.2.2.2 119 = τ.2.2.2 119 ∧ τ'.2.2.1 120 = τ.2.2.1 120 ∧ τ'.2.2.1 121 = τ.2.2.1 121) : rXa pp V N S P A τ' c n (h.1, h.2.1 ++ [a], h.2.2) fr := by
  have ln : (h.2.1 ++ [a]).length = h.2.1.length + 1 := by rw [List.length_append]; rfl
  refine I.y F rfl ⟨?_, ?_, ?_⟩ (fun j hj => hf j ?_) hr h8 ⟨fun i' b' hb' => ?_, fun i' b' hb' => ?_⟩
  · rw [h180]; exact congrArg nI ln.symm
  · rw [h181]; exact congrArg nI (xmTot_ap h a).symm
  · rw [hf 188 (by decide)]; exact I.2.1.2.2.2.2
  · simp only [List.mem_cons, List.not_mem_nil, or_false] at hj ⊢
    omega
  · have hb' : (h.2.1 ++ [a])[i']? = some b' := hb'
    rw [r113, r114]
    show ((_ = nI (xmOf (h.2.1 ++ [a]) i')) ∧ _) ∧ ∀ (k' : Nat) (x' : Int64), b'[k']? = some x' → τ'.2.2.2 115 (xmOf (h.2.1 ++ [a]) i' + k') = x'
    by_cases ci' : i' < h.2.1.length
    · rw [List.getElem?_append_left ci'] at hb'
      obtain ⟨⟨y1, y2⟩, y3⟩ := I.2.2.2.1.1 i' b' hb'
      have eo : xmOf (h.2.1 ++ [a]) i' = xmOf h.2.1 i' := by
        unfold xmOf
        rw [List.take_append_of_le_length (by omega)]
      have hob := xmOf_bd hb'
      rw [eo]
      have ni' : ¬ i' = h.2.1.length := by omega
      refine ⟨⟨by simp only [upd, if_neg ni']; exact y1, by simp only [upd, if_neg ni']; exact y2⟩, fun k' x' ex => ?_⟩
      have hk' := xget_lt ex
      rw [g2 _ (by omega)]
      exact y3 k' x' ex
    · have hi' := xget_lt hb'
      rw [ln] at hi'
      have ei' : i' = h.2.1.length := by omega
      subst ei'
      rw [List.getElem?_append_right (Nat.le_refl _), Nat.sub_self] at hb'
      injection hb' with hb'
      subst hb'
      have eo : xmOf (h.2.1 ++ [a]) h.2.1.length = xmTot h := by
        rw [← xmOf_all]
        unfold xmOf
        rw [List.take_append_of_le_length (Nat.le_refl _)]
      rw [eo]
      exact ⟨⟨by simp only [upd, if_true], by simp only [upd, if_true]⟩, g3⟩
  · obtain ⟨l1, l2, l3⟩ := hl
    rw [l1, l2, l3]
    exact I.2.2.2.1.2 i' b' hb'
/-- an array that is given -/
theorem r_ru131 {call : zCl} {k69 : Int32 → Int32 → Int32 → zSt → zRs} {x1 x2 x4 : Int32} {i z q : Nat} (hi : i < 6) (hz : z ≤ 1000) (hq : q ≤ 9000) : ∀ (r j t : Nat) (τ : zSt), r + j = z → r < t → τ.1 181 = nI q → (τ.2.2.2 103 i).toInt = (z : Int) → ∃ g, l_run_131 T call h0 qs ks k69 t x1 x2 (nI i) x4 (nI j) τ = (zci (call 121 [.ref h0, .int x2, .int (nI i), .int 2, .long x4.toInt64] (zI (zG τ 115 g) 181 (nI (q + z)))) fun r8 s6 => j_run_224 T call h0 qs ks k69 x1 r8 (nI i) s6) ∧ (∀ k, k < q + j ∨ q + z ≤ k → g k = τ.2.2.2 115 k) ∧ ∀ k, q + j ≤ k → k < q + z → g k = τ.2.2.2 104 (1000 * i + (k - q))
  | 0, j, t, τ, e, ht, h181, hx => by
    obtain ⟨t, rfl⟩ : ∃ s, t = s + 1 := ⟨t - 1, by omega⟩
    have ej : j = z := by omega
    subst ej
    have zi : zin (nI i) 6 = true := zin_n (by omega) (by decide)
    have ci : (nI i).toNatClampNeg = i := nI_clamp (by omega)
    have e1 : (0 ≤ lg_cmp ((nI j).toInt64) (τ.2.2.2 103 i)) := (l_ge _ _).mpr (by rw [hx, Int32.toInt_toInt64, nI_toInt (by omega)]; exact Int.le_refl _)
    have e2 : (τ.2.2.2 103 i).toInt32 = nI j := (x_i32 hx (by omega)).1
    rw [l_run_131, zgd_at zi, ci, if_pos e1, zgd_at zi, e2, h181, nI_add, zlet]
    refine ⟨τ.2.2.2 115, ?_, fun k _ => rfl, fun k h1 h2 => by omega⟩
    rw [zG_id τ 115]
  | r + 1, j, t, τ, e, ht, h181, hx => by
    obtain ⟨t, rfl⟩ : ∃ s, t = s + 1 := ⟨t - 1, by omega⟩
    have zi : zin (nI i) 6 = true := zin_n (by omega) (by decide)
    have ci : (nI i).toNatClampNeg = i := nI_clamp (by omega)
    have e1 : ¬ (0 ≤ lg_cmp ((nI j).toInt64) (τ.2.2.2 103 i)) := fun w => by
      have := (l_ge _ _).mp w
      rw [hx, Int32.toInt_toInt64, nI_toInt (by omega)] at this
      omega
    have em : (1000 : Int32) * nI i = nI (1000 * i) := by
      rw [show (1000 : Int32) = nI 1000 from rfl, nI_mul]
    rw [l_run_131, zgd_at zi, ci, if_neg e1, em, nI_add, zgd_at (zin_n (by omega) (by decide)), h181, nI_add, zgd_at (zin_n (by omega) (by decide)), nI_clamp (by omega), nI_clamp (by omega), zlet, nI_p1]
    obtain ⟨g, g1, g2, g3⟩ := r_ru131 (k69 := k69) (x1 := x1) (x2 := x2) (x4 := x4) (call := call) hi hz hq r (j + 1) t (zG τ 115 (vp_updL (τ.2.2.2 115) (q + j) (τ.2.2.2 104 (1000 * i + j)))) (by omega) (by omega) h181 hx
    refine ⟨g, ?_, fun k hk => ?_, fun k h1 h2 => ?_⟩
    · rw [g1, zG_zG]
    · rw [g2 k (by omega), zG_at, vp_L, if_neg (by omega)]
    · by_cases c : k = q + j
      · rw [g2 k (by omega), zG_at, vp_L, if_pos c, c]
        rw [show q + j - q = j by omega]
      · exact g3 k (by omega) h2
/-- **INPUTS are told** -/
theorem r_ru69 {n0 : Nat} {x1 : Int32} (X : rXs T len cnt S P kk pp ee f L V) {is : List (Nat × Nat)} (hT : 1010 ≤ T) (h6 : is.length ≤ 6) (h42 : V.1 42 = nI is.length) (h28 : ∀ i y, is[i]? = some y → V.2.2.1 28 i = nI y.2 ∧ y.2 ≤ 2) (hg : ∀ i y, is[i]? = some y → y.2 = 2 → 0 ≤ (V.2.2.2 103 i).toInt ∧ (V.2.2.2 103 i).toInt ≤ 1000) (hto : ∀ u, u ∈ is.map Prod.fst → rTo (V.2.2.1 32) L u) (hix : ∀ i y, is[i]? = some y → V.2.2.1 32 y.1 = nI i) (hnd : (is.map Prod.fst).Nodup) : ∀ (l : List (Nat × Nat)) (i t : Nat) (τ : zSt) (x2 : Int32) (AA : List (List Int64)) (vs : List xmV), is.drop i = l → i ≤ is.length → l.length < t → rXa pp V N S P A τ i n0 ([], AA, []) [] → rEc (V.2.2.1 32) τ i ((is.map Prod.fst).take i) vs x2 → vs.length = i → AA.length ≤ i ∧ xmTot ([], AA, []) ≤ 1000 * i → ∃ τ' x2', l_run_69 T (zF h0 qs ks T (m + 1)) h0 qs ks t x1 x2 (nI i) τ = l_run_238 T (zF h0 qs ks T (m + 1)) h0 qs ks T x1 x2' (V.1 43) 1 τ' ∧ rXa pp V N S P A τ' is.length n0 ([], (xiS (V.2.2.2 103) (V.2.2.2 104) l i AA vs).1, []) [] ∧ rEc (V.2.2.1 32) τ' is.length (is.map Prod.fst) (xiS (V.2.2.2 103) (V.2.2.2 104) l i AA vs).2 x2'
  | [], i, t, τ, x2, AA, vs, hl, hi, ht, I, E, hv, hA => by
    obtain ⟨t, rfl⟩ : ∃ s, t = s + 1 := ⟨t - 1, by omega⟩
    have ei : i = is.length := by
      have := congrArg List.length hl
      rw [List.length_drop] at this
      have : is.length - i = 0 := this
      omega
    have e42 : τ.1 42 = nI is.length := (I.1.2.1 42 (by decide)).trans h42
    have e43 : τ.1 43 = V.1 43 := I.1.2.1 43 (by decide)
    rw [l_run_69, if_pos (by rw [e42, ei]; exact Int32.le_refl _), e43]
    refine ⟨τ, x2, rfl, by rw [← ei]; exact I, ?_⟩
    have E' := E
    rw [List.take_of_length_le (by rw [List.length_map]; omega)] at E'
    rw [← ei]
    exact E'
  | y :: l, i, t, τ, x2, AA, vs, hl, hi, ht, I, E, hv, hA => by
    obtain ⟨t, rfl⟩ : ∃ s, t = s + 1 := ⟨t - 1, by omega⟩
    rw [List.length_cons] at ht
    have hlt : i < is.length := by
      have := congrArg List.length hl
      rw [List.length_drop, List.length_cons] at this
      omega
    have hy : is[i]? = some y := by
      have := congrArg (fun l => l[0]?) hl
      simp only [List.getElem?_drop, Nat.add_zero, List.getElem?_cons_zero] at this
      exact this
    have hl' : is.drop (i + 1) = l := by
      rw [← List.drop_drop, hl]
      rfl
    have hu : (is.map Prod.fst)[i]? = some y.1 := by rw [List.getElem?_map, hy]; rfl
    have htk : (is.map Prod.fst).take (i + 1) = (is.map Prod.fst).take i ++ [y.1] := by rw [List.take_add_one, hu]; rfl
    have hni : y.1 ∉ (is.map Prod.fst).take i := fun q => by
      have n2 := hnd
      rw [← List.take_append_drop i (is.map Prod.fst)] at n2
      refine (List.nodup_append.mp n2).2.2 y.1 q y.1 ?_ rfl
      rw [List.mem_iff_getElem?]
      exact ⟨0, by rw [List.getElem?_drop]; exact hu⟩
    have hum : y.1 ∈ is.map Prod.fst := List.mem_of_getElem? hu
    have e42 : τ.1 42 = nI is.length := (I.1.2.1 42 (by decide)).trans h42
    obtain ⟨k1, k2⟩ := h28 i y hy
    have e28 : τ.2.2.1 28 i = nI y.2 := by rw [I.1.1 28 (by decide)]; exact k1
    have zi : zin (nI i) 6 = true := zin_n (by omega) (by decide)
    have ci : (nI i).toNatClampNeg = i := nI_clamp (by omega)
    have e103 : ∀ k, τ.2.2.2 103 k = V.2.2.2 103 k := fun k => by rw [I.1.2.2.2 103 (by decide)]
    have e104 : ∀ k, τ.2.2.2 104 k = V.2.2.2 104 k := fun k => by rw [I.1.2.2.2 104 (by decide)]
    have hlen : ((is.map Prod.fst).take i).length = i := by rw [List.length_take, List.length_map]; omega
    have hto' : ∀ w, w ∈ (is.map Prod.fst).take i → rTo (V.2.2.1 32) L w := fun w hw => hto w (List.mem_of_mem_take hw)
    rw [l_run_69, if_neg (by rw [e42, Int32.le_iff_toInt_le, nI_toInt (by omega), nI_toInt (by omega)]; omega), zgd_at zi, ci, e28]
    by_cases c : y.2 = 2
    · have hx : xiS (V.2.2.2 103) (V.2.2.2 104) (y :: l) i AA vs = xiS (V.2.2.2 103) (V.2.2.2 104) l (i + 1) (AA ++ [xiA (V.2.2.2 103) (V.2.2.2 104) i]) (vs ++ [(2, xmNi AA.length)]) := by
        rw [xiS, if_pos c]
      rw [hx, if_pos (by rw [c]; rfl)]
      obtain ⟨g1, g2⟩ := hg i y hy c
      obtain ⟨z, ez⟩ : ∃ z : Nat, (V.2.2.2 103 i).toInt = (z : Int) := ⟨(V.2.2.2 103 i).toInt.toNat, by omega⟩
      obtain ⟨x32, xix⟩ := x_i32 ez (by omega)
      have h180 : τ.1 180 = nI AA.length := I.2.1.2.2.1
      have h181 : τ.1 181 = nI (xmTot ([], AA, [])) := I.2.1.2.2.2.1
      have z8 : zin (nI AA.length) 21000 = true := zin_n (by omega) (by decide)
      have c8 : (nI AA.length).toNatClampNeg = AA.length := nI_clamp (by omega)
      have ha : (xiA (V.2.2.2 103) (V.2.2.2 104) i).length = z := by unfold xiA; rw [List.length_map, List.length_range, xix]
      have e5 : (zI τ 180 (nI (AA.length + 1))).1 181 = nI (xmTot ([], AA, [])) := (zI_ne (by decide)).trans h181
      rw [zlet, h180, nI_p1, zgd_at z8, c8, e5, zlet, zgd_at zi, zgd_at z8]
      have e6 : ((zA (zI τ 180 (nI (AA.length + 1))) 113 (upd ((zI τ 180 (nI (AA.length + 1))).2.2.1 113) AA.length (nI (xmTot ([], AA, []))))).2.2.2 103 i).toInt32 = nI z := by
        show (τ.2.2.2 103 i).toInt32 = _
        rw [e103]; exact x32
      rw [e6, zlet]
      generalize eτ : zA (zA (zI τ 180 (nI (AA.length + 1))) 113 (upd ((zI τ 180 (nI (AA.length + 1))).2.2.1 113) AA.length (nI (xmTot ([], AA, []))))) 114 (upd ((zA (zI τ 180 (nI (AA.length + 1))) 113 (upd ((zI τ 180 (nI (AA.length + 1))).2.2.1 113) AA.length (nI (xmTot ([], AA, []))))).2.2.1 114) AA.length (nI z)) = τ1
      have f1 : τ1.1 = (zI τ 180 (nI (AA.length + 1))).1 := by rw [← eτ]; rfl
      have f2 : τ1.2.1 = τ.2.1 := by rw [← eτ]; rfl
      have f3 : τ1.2.2.2 = τ.2.2.2 := by rw [← eτ]; rfl
      have f4 : ∀ k, k ≠ 113 → k ≠ 114 → τ1.2.2.1 k = τ.2.2.1 k := fun k q1 q2 => by
        rw [← eτ]
        show (if k = 114 then _ else if k = 113 then _ else τ.2.2.1 k) = _
        rw [if_neg q2, if_neg q1]
      have f5 : τ1.2.2.1 113 = upd (τ.2.2.1 113) AA.length (nI (xmTot ([], AA, []))) := by rw [← eτ]; rfl
      have f6 : τ1.2.2.1 114 = upd (τ.2.2.1 114) AA.length (nI z) := by rw [← eτ]; rfl
      obtain ⟨gg, q1, q2, q3⟩ := r_ru131 (h0 := h0) (qs := qs) (ks := ks) (T := T) (k69 := l_run_69 T (zF h0 qs ks T (m + 1)) h0 qs ks t) (call := zF h0 qs ks T (m + 1)) (x1 := x1) (x2 := x2) (x4 := nI AA.length) (i := i) (z := z) (q := xmTot ([], AA, [])) (by omega) (by omega) (by omega) z 0 T τ1 (by omega) (by omega) (by rw [f1]; exact e5) (by rw [f3, e103]; exact ez)
      rw [show (0 : Int32) = nI 0 from rfl, q1]
      have I2 : rXa pp V N S P A (zI (zG τ1 115 gg) 181 (nI (xmTot ([], AA, []) + z))) i n0 ([], AA ++ [xiA (V.2.2.2 103) (V.2.2.2 104) i], []) [] := by
        refine I.ar ⟨fun k hk => ?_, fun k hk => ?_, fun k k1 k2 => ?_, fun k hk => ?_⟩ ?_ ?_ (fun j hj => ?_) (fun k hk => ?_) ?_ f5 (by rw [ha]; exact f6) (fun k hk => ?_) (fun k x ex => ?_) ⟨?_, f4 120 (by decide) (by decide), f4 121 (by decide) (by decide)⟩
        · show τ1.2.2.1 k = _
          rw [f4 k (by omega) (by omega)]; exact I.1.1 k hk
        · rw [zI_ne (fun w => hk (by rw [w]; decide))]
          show τ1.1 k = _
          rw [f1, zI_ne (fun w => hk (by rw [w]; decide))]
          exact I.1.2.1 k hk
        · show τ1.2.1 k = _
          rw [f2]; exact I.1.2.2.1 k k1 k2
        · show (if k = 115 then _ else τ1.2.2.2 k) = _
          rw [if_neg (by omega), f3]; exact I.1.2.2.2 k hk
        · rw [zI_ne (by decide)]
          show τ1.1 180 = _
          rw [f1, zI_eq]
        · rw [zI_eq, ha]
        · have n1 : j ≠ 180 := fun w => by rw [w] at hj; exact absurd hj (by decide)
          have n2 : j ≠ 181 := fun w => by rw [w] at hj; exact absurd hj (by decide)
          rw [zI_ne n2]
          show τ1.1 j = _
          rw [f1, zI_ne n1]
        · show τ1.2.2.1 k = _
          exact f4 k (by omega) (by omega)
        · show τ1.2.2.2 108 = _
          rw [f3]
        · show (zG τ1 115 gg).2.2.2 115 k = _
          rw [zG_at, q2 k (Or.inl (by omega)), f3]
        · show (zG τ1 115 gg).2.2.2 115 _ = _
          have hk := xget_lt ex
          rw [ha] at hk
          rw [zG_at, q3 _ (by omega) (by omega), f3, e104]
          unfold xiA at ex
          rw [List.getElem?_map, List.getElem?_range (by rw [xix]; exact hk)] at ex
          injection ex with ex
          rw [← ex]
          show _ = V.2.2.2 104 (1000 * i + k)
          rw [show xmTot ([], AA, []) + k - xmTot ([], AA, []) = k by omega]
        · show τ1.2.2.2 119 = _
          rw [f3]
      have E2 : rEc (V.2.2.1 32) (zI (zG τ1 115 gg) 181 (nI (xmTot ([], AA, []) + z))) i ((is.map Prod.fst).take i) vs x2 := E.kp (show rSk τ (zI (zG τ1 115 gg) 181 (nI (xmTot ([], AA, []) + z))) i from fun j _ => ⟨by show τ1.2.2.1 105 j = _; rw [f4 105 (by decide) (by decide)], by show τ1.2.2.1 106 j = _; rw [f4 106 (by decide) (by decide)], by show τ1.2.2.1 107 j = _; rw [f4 107 (by decide) (by decide)], by show τ1.2.2.2 108 j = _; rw [f3]⟩) (Nat.le_refl _)
      rw [r_slot I2.2.1.1 (by omega), zci_at]
      unfold j_run_224
      rw [nI_p1]
      have E3 := E2.sn (v := (2, xmNi AA.length)) X.2.2.1.1 hto' (hto _ hum) hni (by rw [hlen, hv])
      rw [hix i y hy] at E3
      refine r_ru69 X hT h6 h42 h28 hg hto hix hnd l (i + 1) t _ _ _ _ hl' (by omega) (by omega) (I2.sl) ?_ (by rw [List.length_append, hv]; rfl) ⟨by rw [List.length_append]; show AA.length + 1 ≤ _; omega, ?_⟩
      · rw [htk]
        exact E3
      · have := xmTot_ap ([], AA, []) (xiA (V.2.2.2 103) (V.2.2.2 104) i)
        rw [ha] at this
        have h3 : xmTot ([], AA ++ [xiA (V.2.2.2 103) (V.2.2.2 104) i], []) = xmTot ([], AA, []) + z := this
        omega
    · have hx : xiS (V.2.2.2 103) (V.2.2.2 104) (y :: l) i AA vs = xiS (V.2.2.2 103) (V.2.2.2 104) l (i + 1) AA (vs ++ [(y.2, V.2.2.2 103 i)]) := by
        rw [xiS, if_neg c]
      have n2 : ¬ nI y.2 = (2 : Int32) := fun w => c (nI_inj' (b := 2) (by omega) (by omega) w)
      rw [hx, if_neg n2, zgd_at zi, zgd_at zi, e103, r_slot I.2.1.1 (by omega), zci_at]
      unfold j_run_224
      rw [nI_p1]
      have E3 := E.sn (v := (y.2, V.2.2.2 103 i)) X.2.2.1.1 hto' (hto _ hum) hni (by rw [hlen, hv])
      rw [hix i y hy] at E3
      refine r_ru69 X hT h6 h42 h28 hg hto hix hnd l (i + 1) t _ _ _ _ hl' (by omega) (by omega) (I.sl) ?_ (by rw [List.length_append, hv]; rfl) ⟨by omega, by omega⟩
      rw [htk]
      exact E3
end XRQ
