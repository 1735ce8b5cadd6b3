/-! the class's Judge: choose(), compare() -/
section JCH
variable {κ : oKv} {T n a : Nat} {j o ca pa ph ta th len W b : Nat} {cl : Int32} {f : Nat → Int64} {rd : Int32} {wk : Option Nat} {ps : Int32} {P Tr : List (Nat × Bool)}
/-- the truth is noted -/
theorem c_chE {call : oCl} {t : Nat} {h : Bool} {fs : List Value} {fa : Int32} {σ : oSt} (H : jSt σ j o ca pa ph ta th len W b cl fa f rd wk ps P Tr) (hm : σ.1 a = some (.inr (6, fs))) (hl : Tr.length < 40) : ∃ σ', ol_X1_choose_2 T call κ (t + 1) (some j) (some a) (b01 h) (nI Tr.length) σ = some (none, σ') ∧ jSt σ' j o ca pa ph ta th len W b cl fa f rd wk ps P (Tr ++ [(a, h)]) ∧ jKp pa ph ta th σ σ' ∧ σ'.2 = σ.2 := by
  obtain ⟨⟨n1, n2, n3, n4, n5, n6⟩, ⟨m1, m2, m3, m4, m5⟩, ⟨k1, k2, k3, k4⟩, ⟨l1, l2, l3⟩, ⟨p1, p2⟩, p3⟩ := H.ne
  have H' := H
  obtain ⟨h1, ⟨h2, h3⟩, ⟨gp, hp, h4, h5, h6⟩, ⟨gt, ht, h7, h8, h9⟩, ⟨h10, h10'⟩, h11⟩ := H
  have zi : zin (nI Tr.length) 40 = true := zin_n hl (by decide)
  have cl40 : (nI Tr.length).toNatClampNeg = Tr.length := nI_clamp (by omega)
  have s1 : osr σ (some ta) (nI Tr.length) (some a) = some (oput σ ta (.inl (.object "LiquidTongue$Name", 40, .inr (.inr (.inr (.inr (va_up gt Tr.length (some a)))))))) := by
    simp only [osr, h7, hm, zi, if_true, cl40, show ofits "LiquidTongue$Name" 6 = true from rfl]
  have e1 : (oput σ ta (.inl (.object "LiquidTongue$Name", 40, .inr (.inr (.inr (.inr (va_up gt Tr.length (some a)))))))).1 j = _ := (oput_ne n5).trans h1
  have e2 : (oput σ ta (.inl (.object "LiquidTongue$Name", 40, .inr (.inr (.inr (.inr (va_up gt Tr.length (some a)))))))).1 th = _ := (oput_ne (Ne.symm p3)).trans h8
  have s2 : osi (oput σ ta (.inl (.object "LiquidTongue$Name", 40, .inr (.inr (.inr (.inr (va_up gt Tr.length (some a)))))))) (some th) .boolean (nI Tr.length) (vp_nar .boolean (b01 h)) = some (oput (oput σ ta (.inl (.object "LiquidTongue$Name", 40, .inr (.inr (.inr (.inr (va_up gt Tr.length (some a)))))))) th (.inl (.boolean, 40, .inl (upd ht Tr.length (b01 h))))) := by
    simp only [osi, e2, zi, and_self, if_true, cl40, nar01 _ (b01_01 h)]
  have e3 : (oput (oput σ ta (.inl (.object "LiquidTongue$Name", 40, .inr (.inr (.inr (.inr (va_up gt Tr.length (some a)))))))) th (.inl (.boolean, 40, .inl (upd ht Tr.length (b01 h))))).1 j = _ := (oput_ne n6).trans e1
  have el : (Tr ++ [(a, h)]).length = Tr.length + 1 := List.length_append
  refine ⟨oput (oput (oput σ ta (.inl (.object "LiquidTongue$Name", 40, .inr (.inr (.inr (.inr (va_up gt Tr.length (some a)))))))) th (.inl (.boolean, 40, .inl (upd ht Tr.length (b01 h))))) j (.inr (3, [.ref o, .ref pa, .ref ph, .int (nI P.length), .ref ta, .ref th, .int (nI (Tr.length + 1)), .int rd, va_rf wk, .int ps])), ?_, ⟨by rw [el]; exact oput_eq _ _ _, ⟨?_, ?_⟩, ⟨gp, hp, ?_, ?_, h6⟩, ⟨va_up gt Tr.length (some a), upd ht Tr.length (b01 h), ?_, ?_, fun k x e => ?_⟩, ⟨h10, ?_⟩, h11⟩, jKp.three H' (Or.inr rfl) (Or.inr rfl) rfl, rfl⟩
  · rw [ol_X1_choose_2, show ofd σ (some j) 3 6 = some (.int (nI Tr.length)) from ofd_at h1, ovi_i, obn_at, if_pos (nI_le (by omega) (by omega)), obn_at, if_neg (show ¬ (40 : Int32) ≤ nI Tr.length from nI_ge (b := 40) (by omega) (by decide)), show ofd σ (some j) 3 4 = some (.ref ta) from ofd_at h1, ovr_rf, obn_at, obn_at, s1, obn_at, show ofd (oput σ ta (.inl (.object "LiquidTongue$Name", 40, .inr (.inr (.inr (.inr (va_up gt Tr.length (some a)))))))) (some j) 3 5 = some (.ref th) from ofd_at e1, ovr_rf, obn_at, show ofd (oput σ ta (.inl (.object "LiquidTongue$Name", 40, .inr (.inr (.inr (.inr (va_up gt Tr.length (some a)))))))) (some j) 3 6 = some (.int (nI Tr.length)) from ofd_at e1, ovi_i, obn_at, s2, obn_at, show ofd (oput (oput σ ta (.inl (.object "LiquidTongue$Name", 40, .inr (.inr (.inr (.inr (va_up gt Tr.length (some a)))))))) th (.inl (.boolean, 40, .inl (upd ht Tr.length (b01 h))))) (some j) 3 6 = some (.int (nI Tr.length)) from ofd_at e3, ovi_i, obn_at, nI_p1, opf_at e3 (by simp only [List.length_cons, List.length_nil]; omega), obn_at]
    rfl
  · rw [oput_ne (Ne.symm n1), oput_ne m5, oput_ne m4]; exact h2
  · rw [oput_ne (Ne.symm n2), oput_ne k4, oput_ne k3]; exact h3
  · rw [oput_ne (Ne.symm n3), oput_ne l3, oput_ne l2]; exact h4
  · rw [oput_ne (Ne.symm n4), oput_ne p2, oput_ne p1]; exact h5
  · rw [oput_ne (Ne.symm n5), oput_ne p3, oput_eq]
  · rw [oput_ne (Ne.symm n6), oput_eq]
  · rcases get_ap e with ⟨rfl, rfl⟩ | ⟨z, e⟩
    · exact ⟨by show (if Tr.length = Tr.length then _ else _) = _; rw [if_pos rfl], by show (if Tr.length = Tr.length then _ else _) = _; rw [if_pos rfl]⟩
    · obtain ⟨q1, q2⟩ := h9 k x e
      refine ⟨?_, ?_⟩
      · show (if k = Tr.length then _ else gt k) = _
        rw [if_neg (by omega)]; exact q1
      · show (if k = Tr.length then _ else ht k) = _
        rw [if_neg (by omega)]; exact q2
  · rw [el]; omega
/-- the loop: is it told otherwise already? -/
theorem c_chL {call : oCl} {h : Bool} {fs : List Value} (hl : Tr.length < 40) : ∀ (d k t : Nat) (fa : Int32) (σ : oSt), k + d = Tr.length → d < t → jSt σ j o ca pa ph ta th len W b cl fa f rd wk ps P Tr → σ.1 a = some (.inr (6, fs)) → ∃ σ' fa', ol_X1_choose_2 T call κ t (some j) (some a) (b01 h) (nI k) σ = some (none, σ') ∧ jSt σ' j o ca pa ph ta th len W b cl fa' f rd wk ps P (Tr ++ [(a, h)]) ∧ jKp pa ph ta th σ σ' ∧ σ'.2 = σ.2 ∧ ((fa' = fa ∧ ∀ i b, k ≤ i → Tr[i]? = some (a, b) → b = h) ∨ (fa' = 1 ∧ ∃ b, (a, b) ∈ Tr ∧ b ≠ h))
  | 0, k, t, fa, σ, hk, ht, H, hm => by
    obtain ⟨t, rfl⟩ : ∃ t', t = t' + 1 := ⟨t - 1, by omega⟩
    have : k = Tr.length := by omega
    subst this
    obtain ⟨σ', a1, a2, a3, a4⟩ := c_chE (κ := κ) (T := T) (call := call) (t := t) (h := h) H hm hl
    exact ⟨σ', fa, a1, a2, a3, a4, Or.inl ⟨rfl, fun i b hi e => by have := get_lt e; omega⟩⟩
  | d + 1, k, t, fa, σ, hk, ht, H, hm => by
    obtain ⟨t, rfl⟩ : ∃ t', t = t' + 1 := ⟨t - 1, by omega⟩
    have hkl : k < Tr.length := by omega
    have ek : Tr[k]? = some Tr[k] := List.getElem?_eq_getElem hkl
    have hmem : Tr[k] ∈ Tr := List.getElem_mem hkl
    have H' := H
    obtain ⟨h1, ⟨h2, h3⟩, -, ⟨gt, hth, h7, h8, h9⟩, -⟩ := H
    obtain ⟨q1, q2⟩ := h9 k _ ek
    generalize Tr[k] = y at ek hmem q1 q2
    obtain ⟨y1, y2⟩ := y
    have zi : zin (nI k) 40 = true := zin_n (by omega) (by decide)
    have r1 : oar σ (some ta) (nI k) = some (some y1) := by
      simp only [oar, h7, zi, if_true, nI_clamp (show k < 2 ^ 31 by omega), q1]
    have r2 : oai σ (some th) .boolean (nI k) = some (b01 y2) := by
      simp only [oai, h8, zi, and_self, if_true, nI_clamp (show k < 2 ^ 31 by omega), q2]
    have start : ol_X1_choose_2 T call κ (t + 1) (some j) (some a) (b01 h) (nI k) σ = if some y1 = some a then (if b01 y2 = b01 h then ol_X1_choose_2 T call κ t (some j) (some a) (b01 h) (nI (k + 1)) σ else ol_X1_choose_2 T call κ t (some j) (some a) (b01 h) (nI (k + 1)) (gOc σ o ca len W b cl 1 f)) else ol_X1_choose_2 T call κ t (some j) (some a) (b01 h) (nI (k + 1)) σ := by
      have p4 : opf σ (some o) 8 4 (.int 1) = some (gOc σ o ca len W b cl 1 f) := by
        have := gOc_p4 (σ := σ) (o := o) (ca := ca) (len := len) (W := W) (b := b) (cl := cl) (fa := fa) (f := f) (v := 1)
        rw [H'.oc] at this
        exact this
      rw [ol_X1_choose_2, show ofd σ (some j) 3 6 = some (.int (nI Tr.length)) from ofd_at h1, ovi_i, obn_at, if_neg (nI_ge (by omega) (by omega)), show ofd σ (some j) 3 4 = some (.ref ta) from ofd_at h1, ovr_rf, obn_at, r1, obn_at]
      unfold oj_X1_choose_38
      simp only [show ofd σ (some j) 3 5 = some (.ref th) from ofd_at h1, show ofd σ (some j) 3 0 = some (.ref o) from ofd_at h1, ovr_rf, obn_at, r2, p4, nI_p1]
    rw [start]
    by_cases z : some y1 = some a
    · rw [if_pos z]
      have z' : a = y1 := (Option.some.inj z).symm
      subst z'
      by_cases w : y2 = h
      · rw [if_pos (by rw [w])]
        obtain ⟨σ', fa', a1, a2, a3, a4, a5⟩ := c_chL (call := call) (h := h) hl d (k + 1) t fa σ (by omega) (by omega) H' hm
        refine ⟨σ', fa', a1, a2, a3, a4, ?_⟩
        rcases a5 with ⟨e, a5⟩ | a5
        · refine Or.inl ⟨e, fun i b hi e' => ?_⟩
          by_cases v : i = k
          · rw [v, ek] at e'
            injection e' with e'
            injection e' with _ e'
            rw [← e']; exact w
          · exact a5 i b (by omega) e'
        · exact Or.inr a5
      · rw [if_neg (fun e => w (by cases y2 <;> cases h <;> first | rfl | exact absurd e (by decide)))]
        obtain ⟨p1, p2⟩ := H'.put (fa' := 1) (f' := f)
        obtain ⟨σ', fa', a1, a2, a3, a4, a5⟩ := c_chL (call := call) (h := h) hl d (k + 1) t 1 _ (by omega) (by omega) p1 (p2.1 _ _ hm ⟨by show (6 : Nat) ≠ 3; decide, by show (6 : Nat) ≠ 8; decide⟩)
        refine ⟨σ', fa', a1, a2, p2.tr a3, a4.trans rfl, Or.inr ⟨?_, y2, hmem, w⟩⟩
        rcases a5 with a5 | a5
        · exact a5.1
        · exact a5.1
    · rw [if_neg z]
      obtain ⟨σ', fa', a1, a2, a3, a4, a5⟩ := c_chL (call := call) (h := h) hl d (k + 1) t fa σ (by omega) (by omega) H' hm
      refine ⟨σ', fa', a1, a2, a3, a4, ?_⟩
      rcases a5 with ⟨e, a5⟩ | a5
      · refine Or.inl ⟨e, fun i b hi e' => ?_⟩
        by_cases v : i = k
        · rw [v, ek] at e'
          injection e' with e'
          injection e' with e' _
          exact absurd (congrArg some e') z
        · exact a5 i b (by omega) e'
      · exact Or.inr a5
/-- **choose(name, holds)** -/
theorem c_choose {h : Bool} {fs : List Value} {fa : Int32} {σ : oSt} (hT : 100 ≤ T) (hl : Tr.length < 40) (H : jSt σ j o ca pa ph ta th len W b cl fa f rd wk ps P Tr) (hm : σ.1 a = some (.inr (6, fs))) : ∃ σ' fa', oF κ T (n + 1) 52 [va_rf (some j), va_rf (some a), .int (b01 h)] σ = some (none, σ') ∧ jSt σ' j o ca pa ph ta th len W b cl fa' f rd wk ps P (Tr ++ [(a, h)]) ∧ jKp pa ph ta th σ σ' ∧ σ'.2 = σ.2 ∧ ((fa' = fa ∧ ∀ b, (a, b) ∈ Tr → b = h) ∨ (fa' = 1 ∧ ∃ b, (a, b) ∈ Tr ∧ b ≠ h)) := by
  rw [oE_X1_choose]
  unfold ob_X1_choose
  obtain ⟨σ', fa', a1, a2, a3, a4, a5⟩ := c_chL (κ := κ) (T := T) (call := oF κ T n) (h := h) hl Tr.length 0 T fa σ (Nat.zero_add _) (by omega) H hm
  refine ⟨σ', fa', a1, a2, a3, a4, ?_⟩
  rcases a5 with ⟨e, a5⟩ | a5
  · refine Or.inl ⟨e, fun b hb => ?_⟩
    obtain ⟨i, hi, e'⟩ := List.getElem_of_mem hb
    exact a5 i b (Nat.zero_le _) (by rw [List.getElem?_eq_getElem hi, e'])
  · exact Or.inr a5
end JCH
