/-! run(), the reference: all of it -/
section XRV
variable {pp kk ee f : Nat → Int32} {tE tN : Nat → tY} {L : List Nat} {V τ : zSt} {N S P A c n cnt len : Nat} {ks : Nat → Nat} {qs : List Nat} {T h0 m : Nat} {y0 : tY}
/-- INPUTS have their types -/
theorem xi_ty {gv ge : Nat → Int64} {is : List (Nat × Nat)} (h6 : is.length ≤ 6) (hk : ∀ (i : Nat) (y : Nat × Nat), is[i]? = some y → y.2 ≤ 2 ∧ yK (tN y.1) = y.2 + 2) (hg : ∀ i y, is[i]? = some y → y.2 = 2 → (0 ≤ (gv i).toInt ∧ (gv i).toInt ≤ 1000) ∧ ∀ k : Nat, (k : Int) < (gv i).toInt → xmB (ge (1000 * i + k)) = true) (hb : ∀ i y, is[i]? = some y → y.2 = 0 → xmB (gv i) = true) : ∀ (l : List (Nat × Nat)) (i : Nat) (AA : List (List Int64)) (vs : List xmV), is.drop i = l → i ≤ is.length → (vs.length = i ∧ AA.length ≤ i) → ((∀ a, a ∈ AA → a.length ≤ 1000 ∧ ∀ x, x ∈ a → xmB x = true) ∧ xmTot ([], AA, []) ≤ 1000 * i) → (∀ (k : Nat) (y : Nat × Nat) (v : xmV), is[k]? = some y → vs[k]? = some v → xmT tE tN ([], AA, []) (tN y.1) v) → ((xiS gv ge l i AA vs).2.length = is.length ∧ (xiS gv ge l i AA vs).1.length ≤ 6) ∧ ((∀ a, a ∈ (xiS gv ge l i AA vs).1 → a.length ≤ 1000 ∧ ∀ x, x ∈ a → xmB x = true) ∧ xmTot ([], (xiS gv ge l i AA vs).1, []) ≤ 6000) ∧ ∀ (k : Nat) (y : Nat × Nat) (v : xmV), is[k]? = some y → (xiS gv ge l i AA vs).2[k]? = some v → xmT tE tN ([], (xiS gv ge l i AA vs).1, []) (tN y.1) v
  | [], i, AA, vs, hl, hi, hv, hA, hT => by
    have ei : i = is.length := by
      have := congrArg List.length hl
      rw [List.length_drop] at this
      have : is.length - i = 0 := this
      omega
    exact ⟨⟨hv.1.trans ei, by show AA.length ≤ 6; omega⟩, ⟨hA.1, by have := hA.2; show xmTot ([], AA, []) ≤ 6000; omega⟩, hT⟩
  | y :: l, i, AA, vs, hl, hi, hv, hA, hT => by
    have hlt : i < is.length := by
      have := congrArg List.length hl
      rw [List.length_drop, List.length_cons] at this
      omega
    have hy : is[i]? = some y := by
      have := congrArg (fun l => l[0]?) hl
      simp only [List.getElem?_drop, Nat.add_zero, List.getElem?_cons_zero] at this
      exact this
    have hl' : is.drop (i + 1) = l := by
      rw [← List.drop_drop, hl]
      rfl
    obtain ⟨k1, k2⟩ := hk i y hy
    obtain ⟨hv, hal⟩ := hv
    have IH := xi_ty h6 hk hg hb l (i + 1)
    have ADD : ∀ (A2 : List (List Int64)) (w : xmV), (∀ (k : Nat) (y : Nat × Nat) (v : xmV), is[k]? = some y → vs[k]? = some v → xmT tE tN ([], A2, []) (tN y.1) v) → xmT tE tN ([], A2, []) (tN y.1) w → ∀ (k : Nat) (y : Nat × Nat) (v : xmV), is[k]? = some y → (vs ++ [w])[k]? = some v → xmT tE tN ([], A2, []) (tN y.1) v := fun A2 w q1 q2 k y' v e1 e2 => by
      by_cases c : k < vs.length
      · rw [List.getElem?_append_left c] at e2
        exact q1 k y' v e1 e2
      · rw [List.getElem?_append_right (by omega)] at e2
        have hk0 := xget_lt e2
        have hk0 : k - vs.length < 1 := hk0
        have ek : k = i := by omega
        subst ek
        rw [show k - vs.length = 0 by omega] at e2
        injection e2 with e2
        subst e2
        rw [hy] at e1
        injection e1 with e1
        subst e1
        exact q2
    rw [xiS]
    by_cases c : y.2 = 2
    · rw [if_pos c]
      obtain ⟨⟨g1, g2⟩, g3⟩ := hg i y hy c
      obtain ⟨z, ez⟩ : ∃ z : Nat, (gv i).toInt = (z : Int) := ⟨(gv i).toInt.toNat, by omega⟩
      obtain ⟨-, xix⟩ := x_i32 ez (by omega)
      have ha : (xiA gv ge i).length = z := by unfold xiA; rw [List.length_map, List.length_range, xix]
      refine IH _ _ hl' (by omega) ⟨by rw [List.length_append, hv]; rfl, by rw [List.length_append]; show AA.length + 1 ≤ _; omega⟩ ⟨fun a ha' => ?_, ?_⟩ ?_
      · rcases List.mem_append.mp ha' with q | q
        · exact hA.1 a q
        · rw [List.mem_singleton] at q
          subst q
          refine ⟨by omega, fun x hx => ?_⟩
          unfold xiA at hx
          obtain ⟨k, hk', ek⟩ := List.mem_map.mp hx
          rw [List.mem_range, xix] at hk'
          rw [← ek]
          exact g3 k (by omega)
      · have := xmTot_ap ([], AA, []) (xiA gv ge i)
        have h3 : xmTot ([], AA ++ [xiA gv ge i], []) = xmTot ([], AA, []) + (xiA gv ge i).length := this
        have := hA.2
        omega
      · have le : xmLe ([], AA, []) ([], AA ++ [xiA gv ge i], []) := ⟨⟨[], rfl⟩, by show AA.length ≤ (AA ++ [_]).length; rw [List.length_append]; omega, Nat.le_refl _⟩
        refine ADD _ _ (fun k y' v e1 e2 => (hT k y' v e1 e2).mo le) (Or.inr (Or.inr (Or.inl ⟨by omega, rfl, AA.length, ?_, rfl⟩)))
        show AA.length < (AA ++ [_]).length
        rw [List.length_append]
        show AA.length < AA.length + 1
        omega
    · rw [if_neg c]
      refine IH _ _ hl' (by omega) ⟨by rw [List.length_append, hv]; rfl, by omega⟩ ⟨hA.1, by have := hA.2; omega⟩ (ADD _ _ hT ?_)
      rcases (show y.2 = 0 ∨ y.2 = 1 by omega) with q | q
      · exact Or.inl ⟨by omega, q, hb i y hy q⟩
      · exact Or.inr (Or.inl ⟨by omega, q⟩)
/-- **run(), the reference** -/
theorem r_run (X : rXs T len cnt S P kk pp ee f L V) (hN : N ≤ 2000) (hA : A ≤ 2000) {n0 nd : Nat} (hn0 : n0 ≤ 20000) (hT : 240010 ≤ T) {is : List (Nat × Nat)} {e : tT} (h66 : V.1 66 = 1) (h6 : is.length ≤ 6) (h42 : V.1 42 = nI is.length) (h28 : ∀ i y, is[i]? = some y → V.2.2.1 28 i = nI y.2 ∧ y.2 ≤ 2) (hk : ∀ (i : Nat) (y : Nat × Nat), is[i]? = some y → y.2 ≤ 2 ∧ yK (tN y.1) = y.2 + 2) (hg : ∀ i y, is[i]? = some y → y.2 = 2 → (0 ≤ (V.2.2.2 103 i).toInt ∧ (V.2.2.2 103 i).toInt ≤ 1000) ∧ ∀ k : Nat, (k : Int) < (V.2.2.2 103 i).toInt → xmB (V.2.2.2 104 (1000 * i + k)) = true) (hb : ∀ i y, is[i]? = some y → y.2 = 0 → xmB (V.2.2.2 103 i) = true) (hix : ∀ i y, is[i]? = some y → V.2.2.1 32 y.1 = nI i) (w : xmE cnt kk f pp ee tE tN (V.2.2.1 32) L e (is.map Prod.fst) y0) (hh : tH e ≤ 31) (h43 : V.1 43 = nI nd) (hnd : nd < N) (tr : rTr pp V 0 N S P A e 0 0 nd) : ∃ τ', (∀ r, xmGo T f pp ee 80001 (xm0 (V.2.2.2 103) (V.2.2.2 104) is e n0) = .inl r → zF h0 qs ks T (m + 1311) 138 [.ref h0, .int (nI n0)] V = some (some (.int (nI r.1)), τ') ∧ xFm V τ' ∧ τ'.1 165 = nI n0 - nI r.2 ∧ τ'.1 163 = 0 ∧ 1 ≤ r.1 ∧ r.1 ≤ 6) ∧ ∀ r, xmGo T f pp ee 80001 (xm0 (V.2.2.2 103) (V.2.2.2 104) is e n0) = .inr r → zF h0 qs ks T (m + 1311) 138 [.ref h0, .int (nI n0)] V = some (some (.int 0), τ') ∧ xFm V τ' ∧ τ'.1 165 = nI n0 - nI r.2.1 ∧ τ'.1 163 = 1 ∧ τ'.2.1 166 = xmOut r.1 r.2.2 := by
  have hnd' := w.2.2.1.1
  have hto := w.2.2.2.1
  rw [zE_run]
  unfold b_run
  rw [if_neg (by rw [h66]; decide), if_neg (by rw [Int32.lt_iff_toInt_lt, nI_toInt (by omega)]; show ¬ ((n0 : Int) < 0); omega), if_pos (by rw [Int32.le_iff_toInt_le, nI_toInt (by omega)]; show (n0 : Int) ≤ 20000; omega)]
  simp only [zlet]
  generalize eτ : zI (zI (zI (zI (zI (zI (zI (zI (zI V 171 0) 176 0) 180 0) 181 0) 188 0) 189 0) 190 0) 191 0) 164 (nI n0) = τ0
  have F0 : xFm V τ0 := by
    rw [← eτ]
    exact (xFm.i V (k := 171) _ (by decide)).tr ((xFm.i _ (k := 176) _ (by decide)).tr ((xFm.i _ (k := 180) _ (by decide)).tr ((xFm.i _ (k := 181) _ (by decide)).tr ((xFm.i _ (k := 188) _ (by decide)).tr ((xFm.i _ (k := 189) _ (by decide)).tr ((xFm.i _ (k := 190) _ (by decide)).tr ((xFm.i _ (k := 191) _ (by decide)).tr (xFm.i _ (k := 164) _ (by decide)))))))))
  have I0 : rXa pp V N S P A τ0 0 n0 ([], [], []) [] := by
    refine ⟨F0, ⟨?_, ?_, ?_, ?_, ?_⟩, fun i fn ei => (by cases ei), ⟨fun i a ei => (by cases ei), fun i a ei => (by cases ei)⟩, ⟨0, ?_, rfl⟩, ?_, ?_, ?_⟩ <;> (rw [← eτ]; rfl)
  obtain ⟨τ1, x2, a1, a2, a3⟩ := r_ru69 (h0 := h0) (qs := qs) (ks := ks) (m := m + 1309) (x1 := nI n0) X (by omega) h6 h42 h28 (fun i y h1 h2 => (hg i y h1 h2).1) hto hix hnd' is 0 T τ0 (-1) [] [] rfl (Nat.zero_le _) (by omega) I0 ⟨[], rfl, rfl, fun j u v h1 _ => (by cases h1)⟩ rfl ⟨Nat.le_refl _, Nat.le_refl _⟩
  rw [show nI 0 = (0 : Int32) from rfl] at a1
  rw [a1, h43]
  obtain ⟨⟨t1, t2⟩, ⟨t3, t4⟩, t5⟩ := xi_ty (tE := tE) h6 hk hg hb is 0 [] [] rfl (Nat.zero_le _) ⟨rfl, Nat.le_refl _⟩ ⟨fun a ha => (by cases ha), Nat.le_refl _⟩ (fun k y v _ h2 => by cases h2)
  have Iv : xmI cnt kk f pp ee tE tN (V.2.2.1 32) L y0 (xm0 (V.2.2.2 103) (V.2.2.2 104) is e n0) := by
    refine ⟨⟨fun fn hf => (by cases hf), ⟨t3, Nat.le_trans t4 (by decide)⟩, fun i c hc => (by cases hc)⟩, Nat.zero_le _, y0, w, ⟨by rw [List.length_map]; exact t1, fun k u v h1 h2 => ?_⟩, hh, rfl⟩
    have h1 : (is.map Prod.fst)[k]? = some u := h1
    rw [List.getElem?_map] at h1
    cases q : is[k]? with
    | none => rw [q] at h1; cases h1
    | some y =>
      rw [q] at h1
      injection h1 with h1
      subst h1
      exact t5 k y v q h2
  have hn : xmN n0 (xm0 (V.2.2.2 103) (V.2.2.2 104) is e n0) := ⟨Nat.le_refl _, by show 0 + 0 ≤ _; omega, by show (xiS (V.2.2.2 103) (V.2.2.2 104) is 0 [] []).1.length ≤ _; omega, by show 0 ≤ _; omega⟩
  have R : rRl pp V N S P A n0 τ1 x2 (nI nd) 1 (xm0 (V.2.2.2 103) (V.2.2.2 104) is e n0) := ⟨is.length, a2, by show is.length + 0 ≤ 10 + _; omega, rfl, nd, rfl, hnd, tr, a3⟩
  obtain ⟨B1, B2⟩ := r_lp (h0 := h0) (qs := qs) (ks := ks) (m := m) (x1 := nI n0) X hN hA hn0 80001 (xm0 (V.2.2.2 103) (V.2.2.2 104) is e n0) x2 (nI nd) 1 τ1 T (by show 4 * n0 + 2 * 0 + 0 < _; omega) (by omega) R Iv hn
  have i3 : ∀ (τ : zSt) (v : Int32), (zI τ 165 v).1 191 = τ.1 191 := fun τ v => zI_ne (by decide)
  have i4 : ∀ (τ : zSt) (v : Int32), (zI τ 163 v).1 191 = τ.1 191 := fun τ v => zI_ne (by decide)
  have i5 : ∀ (τ : zSt) (v w : Int32), (zI (zI τ 165 v) 163 w).1 165 = v := fun τ v w => by rw [zI_ne (by decide), zI_eq]
  cases q : xmGo T f pp ee 80001 (xm0 (V.2.2.2 103) (V.2.2.2 104) is e n0) with
  | inl r =>
    obtain ⟨τ2, b1, b2, b3, b4, b5, b6⟩ := B1 r q
    rw [b1]
    unfold j_run_332
    rw [zlet, b4, i3, b3]
    have c : ¬ nI r.1 = 0 := fun w => by have := nI_inj' (b := 0) (by omega) (by omega) w; omega
    · rw [if_neg c]
      unfold j_run_355
      rw [zlet, i4, i3, b3, if_neg c]
      unfold j_run_428
      rw [i4, i3, b3]
      refine ⟨zI (zI τ2 165 (nI n0 - nI r.2)) 163 0, fun r' hr' => ?_, fun r' hr' => (by cases hr')⟩
      injection hr' with hr'
      subst hr'
      exact ⟨rfl, b2.tr ((xFm.i τ2 (k := 165) _ (by decide)).tr (xFm.i _ (k := 163) _ (by decide))), i5 _ _ _, zI_eq _ _ _, b5, b6⟩
  | inr r =>
    obtain ⟨τ2, c, b1, I, b3, b4, ⟨H, hv⟩, hn2⟩ := B2 r q
    obtain ⟨h, n2, v⟩ := r
    have I : rXa pp V N S P A τ2 c n2 h [] := I
    have H : xmH cnt kk f pp ee tE tN (V.2.2.1 32) L h := H
    have hv : xmT tE tN h y0 v := hv
    have b3 : τ2.1 192 = nI v.1 := b3
    have b4 : τ2.2.1 193 = v.2 := b4
    have n3 : h.2.1.length ≤ 6 + (n0 - n2) := hn2.2.2.1
    have n4 : h.2.2.length ≤ n0 - n2 := hn2.2.2.2
    have h191 := I.2.2.2.2.2.2.1
    have h164 := I.2.2.2.2.2.2.2
    have F1 : xFm V (zI (zI τ2 165 (nI n0 - nI n2)) 163 1) := I.1.tr ((xFm.i τ2 (k := 165) _ (by decide)).tr (xFm.i _ (k := 163) _ (by decide)))
    have F2 : ∀ x, xFm V (zJ (zI (zI τ2 165 (nI n0 - nI n2)) 163 1) 166 x) := fun x => F1.tr ⟨fun _ _ => rfl, fun _ _ => rfl, fun k h1 h2 => if_neg h2, fun _ _ => rfl⟩
    have e192 : (zI (zI τ2 165 (nI n0 - nI n2)) 163 1).1 192 = nI v.1 := by rw [zI_ne (by decide), zI_ne (by decide)]; exact b3
    have e193 : (zI (zI τ2 165 (nI n0 - nI n2)) 163 1).2.1 193 = v.2 := b4
    have K : ∀ x, x = xmOut h v → j_run_425 T (zF h0 qs ks T (m + 1310)) h0 qs ks x (zI (zI τ2 165 (nI n0 - nI n2)) 163 1) = some (some (.int 0), zJ (zI (zI τ2 165 (nI n0 - nI n2)) 163 1) 166 (xmOut h v)) := fun x ex => by
      unfold j_run_425 j_run_428
      rw [zlet, ex]
      have e : (zJ (zI (zI τ2 165 (nI n0 - nI n2)) 163 1) 166 (xmOut h v)).1 191 = 0 := by
        show (zI (zI τ2 165 (nI n0 - nI n2)) 163 1).1 191 = 0
        rw [i4, i3]; exact h191
      rw [e]
    have go : j_run_332 T (zF h0 qs ks T (m + 1310)) h0 qs ks (nI n0) τ2 = some (some (.int 0), zJ (zI (zI τ2 165 (nI n0 - nI n2)) 163 1) 166 (xmOut h v)) := by
      unfold j_run_332
      rw [zlet, h164, i3, if_pos h191]
      unfold j_run_355
      rw [zlet, i4, i3, if_pos h191, e192, e193]
      rcases hv with ⟨-, q, -⟩ | ⟨-, q⟩ | ⟨-, q, i, hi, ei⟩ | ⟨-, q, q2⟩ | ⟨-, q, -⟩
      · rw [q, if_neg (show ¬ nI 0 = (3 : Int32) by decide), if_neg (show ¬ nI 0 = (2 : Int32) by decide), if_neg (show ¬ nI 0 = (4 : Int32) by decide)]
        exact K _ (by unfold xmOut; rw [q]; rfl)
      · rw [q, if_neg (show ¬ nI 1 = (3 : Int32) by decide), if_neg (show ¬ nI 1 = (2 : Int32) by decide), if_neg (show ¬ nI 1 = (4 : Int32) by decide)]
        exact K _ (by unfold xmOut; rw [q]; rfl)
      · have ex : v.2.toInt32 = nI i := by rw [ei]; exact xmNi_32 i
        rw [q, if_neg (show ¬ nI 2 = (3 : Int32) by decide), if_pos (show nI 2 = (2 : Int32) from rfl), ex, zgd_at (zin_n (by omega) (by decide)), nI_clamp (by omega)]
        obtain ⟨a, ea⟩ : ∃ a, h.2.1[i]? = some a := ⟨_, List.getElem?_eq_getElem hi⟩
        have y2 := (I.2.2.2.1.1 i a ea).1.2
        have y2' : (zI (zI τ2 165 (nI n0 - nI n2)) 163 1).2.2.1 114 i = nI a.length := y2
        rw [y2']
        refine K _ ?_
        unfold xmOut xmLn
        rw [q, if_neg (by decide), if_pos rfl, ei, xmNi_ix (by omega), List.getD_eq_getElem?_getD, ea]
        rfl
      · rw [q, if_neg (show ¬ nI 4 = (3 : Int32) by decide), if_neg (show ¬ nI 4 = (2 : Int32) by decide), if_pos (show nI 4 = (4 : Int32) from rfl)]
        have Y : rYl (zI (zI τ2 165 (nI n0 - nI n2)) 163 1) h := I.2.2.2.1.kp ⟨rfl, rfl, rfl, rfl, rfl, rfl⟩
        rw [r_size (v := v) H Y (by omega) q2, zci_at]
        refine K _ ?_
        unfold xmOut
        rw [q, if_neg (by decide), if_neg (by decide), if_pos rfl]
        rfl
      · rw [q, if_pos (show nI 3 = (3 : Int32) from rfl)]
        exact K _ (by unfold xmOut; rw [q, if_pos rfl])
    rw [b1, go]
    refine ⟨zJ (zI (zI τ2 165 (nI n0 - nI n2)) 163 1) 166 (xmOut h v), fun r' hr' => (by cases hr'), fun r' hr' => ?_⟩
    injection hr' with hr'
    subst hr'
    exact ⟨rfl, F2 _, i5 τ2 (nI n0 - nI n2) 1, zI_eq (zI τ2 165 (nI n0 - nI n2)) 163 1, rfl⟩
end XRV
