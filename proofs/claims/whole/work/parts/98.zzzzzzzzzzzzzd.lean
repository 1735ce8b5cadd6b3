/-! INSTANCES of a CASE: the reference's template() of a leaf -/
/-- of one QUAL -/
def gIq (nq : tQ → Int) (q : tQ) (S : List gN) : List gFc := if q.2.2.2.1 = true then S.map (fun s => (q.2.1, (some (s, if q.2.2.1 = true then -1 else 1), nq q))) else [(q.2.1, (none, nq q))]
theorem gIn_cons (nq : tQ → Int) (q : tQ) (xs : List tQ) (y : tY) (S : List gN) : gIn nq (q :: xs) y S = (if (q.1 = 0 ∧ yK y = 2) ∨ (q.1 = 1 ∧ yK y = 4) ∨ (q.1 = 2 ∧ yK y = 5) then gIq nq q S else []) ++ gIn nq xs y S := by
  unfold gIn gIq
  rw [List.flatMap_cons]
section RTI2
variable {ks : Nat → Nat} {qs : List Nat} {T h0 : Nat} {Γ : uGm}
/-- an INSTANCE's row -/
theorem r_irow {v : Nat → Nat} {τ : zSt} {x1 x2 : Int32} (hV : uVn τ v) (hl : v 99 < 8000) : ∃ τ', τ' = zI (zA (zA (zA τ 63 (upd (τ.2.2.1 63) (v 99) x1)) 64 (upd (τ.2.2.1 64) (v 99) x2)) 65 (upd (τ.2.2.1 65) (v 99) 1)) 99 (nI (v 99 + 1)) ∧ uVn τ' (uUp v 99) ∧ uFr v τ τ' ∧ (τ'.2.2.1 63 (v 99) = x1 ∧ τ'.2.2.1 64 (v 99) = x2 ∧ τ'.2.2.1 65 (v 99) = 1) ∧ uKe τ τ' ∧ ∀ k, k ≠ 63 → k ≠ 64 → k ≠ 65 → τ'.2.2.1 k = τ.2.2.1 k := by
  refine ⟨_, rfl, hV.up (by decide) rfl (by show v 99 + 1 ≤ 8000; omega) (fun k _ hk => if_neg hk), ⟨fun k h1 h2 h3 => if_neg (fun e => h1 (by rw [e]; decide)), fun _ _ => rfl, fun k h1 i h2 => ?_, fun k i h2 => rfl⟩, ⟨if_pos rfl, if_pos rfl, if_pos rfl⟩, ⟨fun k hk => ?_, rfl, rfl, rfl⟩, fun k h1 h2 h3 => ?_⟩
  · have hx : k = 63 ∨ k = 64 ∨ k = 65 → i ≠ v 99 := fun hk => by
      have := h2 99 (by rcases hk with rfl | rfl | rfl <;> decide)
      omega
    show (if k = 65 then _ else if k = 64 then _ else if k = 63 then _ else _ : Nat → Int32) i = _
    by_cases e1 : k = 65
    · subst e1; rw [if_pos rfl]; exact if_neg (hx (by decide))
    by_cases e2 : k = 64
    · subst e2; rw [if_neg (by decide), if_pos rfl]; exact if_neg (hx (by decide))
    by_cases e3 : k = 63
    · subst e3; rw [if_neg (by decide), if_neg (by decide), if_pos rfl]; exact if_neg (hx (by decide))
    rw [if_neg e1, if_neg e2, if_neg e3]
  · show (if k = 65 then _ else if k = 64 then _ else if k = 63 then _ else _ : Nat → Int32) = _
    have : k = 40 ∨ k = 41 ∨ k = 66 ∨ k = 67 ∨ k = 74 ∨ k = 85 ∨ k = 86 := hk
    rw [if_neg (by omega), if_neg (by omega), if_neg (by omega)]
  · show (if k = 65 then _ else if k = 64 then _ else if k = 63 then _ else _ : Nat → Int32) = _
    rw [if_neg h3, if_neg h2, if_neg h1]
/-- counter 99 up by m -/
def uU9 (v : Nat → Nat) (m : Nat) : Nat → Nat := fun k => if k = 99 then v k + m else v k
theorem uU9_le (v : Nat → Nat) (m : Nat) : ∀ k, v k ≤ uU9 v m k := fun k => by unfold uU9; split <;> omega
theorem uU9_1 (v : Nat → Nat) (m : Nat) : uU9 (uUp v 99) m = uU9 v (m + 1) := by
  funext k
  unfold uU9 uUp
  split <;> omega
theorem uU9_0 (v : Nat → Nat) : uU9 v 0 = v := by
  funext k
  unfold uU9
  split <;> omega
theorem uU9_9 (v : Nat → Nat) (a b : Nat) : uU9 (uU9 v a) b = uU9 v (a + b) := by
  funext k
  unfold uU9
  split <;> omega
/-- what the loops keep -/
def uIo (Γ : uGm) (v : Nat → Nat) (τ : zSt) (m : Nat) (F : List gFc) (τ' : zSt) : Prop := uVn τ' (uU9 v m) ∧ uFr v τ τ' ∧ uKe τ τ' ∧ (∀ k, k ≠ 63 → k ≠ 64 → k ≠ 65 → τ'.2.2.1 k = τ.2.2.1 k) ∧ m = F.length ∧ ∀ i x, F[i]? = some x → uIn Γ τ' (v 99 + i) x ∧ τ'.2.2.1 65 (v 99 + i) = 1
theorem uIo.app {v : Nat → Nat} {τ τ1 τ2 : zSt} {a b : Nat} {F G : List gFc} (h : uIo Γ v τ a F τ1) (g : uIo Γ (uU9 v a) τ1 b G τ2) : uIo Γ v τ (a + b) (F ++ G) τ2 := by
  obtain ⟨h1, h2, h3, h4, h5, h6⟩ := h
  obtain ⟨g1, g2, g3, g4, g5, g6⟩ := g
  rw [uU9_9] at g1
  refine ⟨g1, h2.tr g2 (uU9_le v a), h3.tr g3, fun k a b c => (g4 k a b c).trans (h4 k a b c), by rw [List.length_append]; omega, fun i x hx => ?_⟩
  by_cases hi : i < F.length
  · rw [List.getElem?_append_left hi] at hx
    obtain ⟨⟨q, qq, e1, e2, e3⟩, e4⟩ := h6 i x hx
    have lt : v 99 + i < uU9 v a 99 := by show v 99 + i < v 99 + a; omega
    have r : ∀ k, 63 ≤ k → k ≤ 65 → τ2.2.2.1 k (v 99 + i) = τ1.2.2.1 k (v 99 + i) := fun k a b => g2.r (c := 99) (by unfold uCo; rw [if_neg (by omega), if_neg (by omega), if_neg (by omega), if_neg (by omega), if_neg (by omega), if_pos ⟨a, b⟩]) (by unfold uAy; omega) lt
    exact ⟨⟨q, qq, e1, (r 63 (by decide) (by decide)).trans e2, by rw [r 64 (by decide) (by decide)]; exact e3⟩, (r 65 (by decide) (by decide)).trans e4⟩
  · rw [List.getElem?_append_right (by omega)] at hx
    have := g6 _ x hx
    rw [show uU9 v a 99 + (i - F.length) = v 99 + i by show v 99 + a + (i - F.length) = _; omega] at this
    exact this
/-- the stars of one QUAL -/
theorem r_t325 {call : zCl} {k293 : Int32 → Int32 → Int32 → zSt → zRs} {x5 x6 : Int32} {q : Nat} {qq : tQ} {S : List gN} (hq : Γ.2.2.2.1[q]? = some qq) (hq6 : q < 6) (hst : qq.2.2.2.1 = true) : ∀ (d i t : Nat) (v : Nat → Nat) (τ : zSt), i + d = S.length → d < t → uVn τ v → uSr Γ τ S → τ.2.2.1 25 q = 1 → v 99 + d ≤ 8000 → ∃ τ', l_template_325 T call h0 qs ks k293 t x5 x6 (nI q) (nI i) τ = k293 x5 x6 (nI (q + 1)) τ' ∧ uIo Γ v τ d ((S.drop i).map (fun s => (qq.2.1, (some (s, if qq.2.2.1 = true then -1 else 1), Γ.2.2.1 qq)))) τ'
  | 0, i, t, v, τ, hi, ht, hV, hS, h25, hl => by
    obtain ⟨t, rfl⟩ : ∃ t', t = t' + 1 := ⟨t - 1, by omega⟩
    have zq : zin (nI q) 6 = true := zin_n hq6 (by decide)
    have cq : (nI q).toNatClampNeg = q := nI_clamp (by omega)
    have l60 := hS.2.1
    refine ⟨τ, ?_, by rw [uU9_0]; exact hV, uFr.rf v τ, uKe.rf τ, fun _ _ _ _ => rfl, ?_, fun j x hx => ?_⟩
    · rw [l_template_325, zgd_at zq, cq, if_pos h25]
      unfold j_template_346 j_template_417
      rw [hS.1, if_pos (nI_le (by omega) (by omega)), nI_p1]
    · rw [List.drop_of_length_le (by omega)]; rfl
    · rw [List.drop_of_length_le (by omega)] at hx; cases hx
  | d + 1, i, t, v, τ, hi, ht, hV, hS, h25, hl => by
    obtain ⟨t, rfl⟩ : ∃ t', t = t' + 1 := ⟨t - 1, by omega⟩
    have zq : zin (nI q) 6 = true := zin_n hq6 (by decide)
    have cq : (nI q).toNatClampNeg = q := nI_clamp (by omega)
    have l60 := hS.2.1
    have zi : zin (nI i) 60 = true := zin_n (by omega) (by decide)
    have ci : (nI i).toNatClampNeg = i := nI_clamp (by omega)
    obtain ⟨c99, -⟩ := hV 99 (by decide)
    have z99 : zin (τ.1 99) 8000 = true := by rw [c99]; exact zin_n (by omega) (by decide)
    have cl99 : (τ.1 99).toNatClampNeg = v 99 := by rw [c99]; exact nI_clamp (by omega)
    have q1 : τ.1 99 + 1 = nI (v 99 + 1) := by rw [c99, nI_p1]
    have hil : i < S.length := by omega
    have eS : S[i]? = some S[i] := List.getElem?_eq_getElem hil
    have ed : S.drop i = S[i] :: S.drop (i + 1) := List.drop_eq_getElem_cons hil
    generalize S[i] = s at eS ed
    have r85 := hS.2.2 i s eS
    obtain ⟨τ1, e1, e2, e3, ⟨e4, e5, e6⟩, e7, e8⟩ := r_irow (x1 := nI q) (x2 := nI (Γ.1 s)) hV (by omega)
    have S1 : uSr Γ τ1 S := ⟨by rw [e7.2.1]; exact hS.1, hS.2.1, fun j x hx => by rw [e8 85 (by decide) (by decide) (by decide)]; exact hS.2.2 j x hx⟩
    obtain ⟨τ', a1, a2⟩ := r_t325 (call := call) (k293 := k293) (x5 := x5) (x6 := x6) (S := S) hq hq6 hst d (i + 1) t (uUp v 99) τ1 (by omega) (by omega) e2 S1 (by rw [e8 25 (by decide) (by decide) (by decide)]; exact h25) (by rw [uUp_at]; omega)
    have one : uIo Γ v τ 1 [(qq.2.1, (some (s, if qq.2.2.1 = true then -1 else 1), Γ.2.2.1 qq))] τ1 := by
      refine ⟨by rw [show uU9 v 1 = uUp v 99 by rw [← uU9_1, uU9_0]]; exact e2, e3, e7, e8, rfl, fun j x hx => ?_⟩
      cases j with
      | succ j => cases hx
      | zero =>
        have : (qq.2.1, (some (s, if qq.2.2.1 = true then -1 else 1), Γ.2.2.1 qq)) = x := Option.some.inj hx
        exact ⟨⟨q, qq, hq, e4, Or.inl ⟨hst, s, e5, this.symm⟩⟩, e6⟩
    refine ⟨τ', ?_, ?_⟩
    · rw [l_template_325, zgd_at zq, cq, if_pos h25]
      unfold j_template_346 j_template_390
      rw [hS.1, if_neg (nI_ge (by omega) (by omega))]
      simp only [zA, zI] at e1
      simp only [zgd, zlet, zA, zI, z99, cl99, zq, cq, h25, zi, ci, if_true, if_false, q1, r85, show vp_nar .boolean 1 = (1 : Int32) from rfl, show ¬ (25 : Nat) = 63 by decide, show ¬ (85 : Nat) = 63 by decide, show ¬ (64 : Nat) = 63 by decide, show ¬ (65 : Nat) = 63 by decide, show ¬ (65 : Nat) = 64 by decide, nI_p1]
      rw [← e1]
      exact a1
    · rw [ed, List.map_cons]
      have e9 : uUp v 99 = uU9 v 1 := by rw [← uU9_1, uU9_0]
      rw [e9] at a2
      have := one.app a2
      rw [Nat.add_comm] at this
      exact this
/-- one QUAL -/
theorem r_t325q {call : zCl} {k293 : Int32 → Int32 → Int32 → zSt → zRs} {x5 x6 : Int32} {q : Nat} {qq : tQ} {S : List gN} {v : Nat → Nat} {τ : zSt} (hT : 100 ≤ T) (hq : Γ.2.2.2.1[q]? = some qq) (hq6 : q < 6) (h25 : τ.2.2.1 25 q = b01 qq.2.2.2.1) (hV : uVn τ v) (hS : uSr Γ τ S) (hl : v 99 + (gIq Γ.2.2.1 qq S).length ≤ 8000) : ∃ τ', l_template_325 T call h0 qs ks k293 T x5 x6 (nI q) 0 τ = k293 x5 x6 (nI (q + 1)) τ' ∧ uIo Γ v τ (gIq Γ.2.2.1 qq S).length (gIq Γ.2.2.1 qq S) τ' := by
  by_cases hst : qq.2.2.2.1 = true
  · have eI : gIq Γ.2.2.1 qq S = S.map (fun s => (qq.2.1, (some (s, if qq.2.2.1 = true then -1 else 1), Γ.2.2.1 qq))) := if_pos hst
    rw [eI, List.length_map] at hl ⊢
    have l60 := hS.2.1
    obtain ⟨τ', a1, a2⟩ := r_t325 (h0 := h0) (qs := qs) (ks := ks) (T := T) (call := call) (k293 := k293) (x5 := x5) (x6 := x6) (S := S) hq hq6 hst S.length 0 T v τ (Nat.zero_add _) (by omega) hV hS (by rw [h25, hst]; rfl) hl
    rw [List.drop_zero] at a2
    exact ⟨τ', a1, a2⟩
  · have hst' : qq.2.2.2.1 = false := by simpa using hst
    have eI : gIq Γ.2.2.1 qq S = [(qq.2.1, (none, Γ.2.2.1 qq))] := if_neg hst
    rw [eI] at hl ⊢
    obtain ⟨T', hT'⟩ : ∃ t', T = t' + 2 := ⟨T - 2, by omega⟩
    have h25 : τ.2.2.1 25 q = 0 := by rw [h25, hst']; rfl
    have hl : v 99 + 1 ≤ 8000 := hl
    have zq : zin (nI q) 6 = true := zin_n hq6 (by decide)
    have cq : (nI q).toNatClampNeg = q := nI_clamp (by omega)
    obtain ⟨c99, -⟩ := hV 99 (by decide)
    have z99 : zin (τ.1 99) 8000 = true := by rw [c99]; exact zin_n (by omega) (by decide)
    have cl99 : (τ.1 99).toNatClampNeg = v 99 := by rw [c99]; exact nI_clamp (by omega)
    have q1 : τ.1 99 + 1 = nI (v 99 + 1) := by rw [c99, nI_p1]
    obtain ⟨τ1, e1, e2, e3, ⟨e4, e5, e6⟩, e7, e8⟩ := r_irow (x1 := nI q) (x2 := -1) hV (by omega)
    refine ⟨τ1, ?_, by show uVn τ1 (uU9 v 1); rw [show uU9 v 1 = uUp v 99 by rw [← uU9_1, uU9_0]]; exact e2, e3, e7, e8, rfl, fun j x hx => ?_⟩
    · have st : ∀ t, l_template_325 T call h0 qs ks k293 (t + 1) x5 x6 (nI q) 1 τ1 = k293 x5 x6 (nI (q + 1)) τ1 := fun t => by
        have h25' : τ1.2.2.1 25 q = 0 := by rw [e8 25 (by decide) (by decide) (by decide)]; exact h25
        rw [l_template_325, zgd_at zq, cq, h25', if_neg (by decide)]
        unfold j_template_346 j_template_417
        rw [if_pos (by decide), nI_p1]
      have : l_template_325 T call h0 qs ks k293 T x5 x6 (nI q) 0 τ = l_template_325 T call h0 qs ks k293 (T' + 2) x5 x6 (nI q) 0 τ := by rw [← hT']
      rw [this, l_template_325, zgd_at zq, cq, h25, if_neg (by decide)]
      unfold j_template_346 j_template_390
      rw [if_neg (by decide)]
      simp only [zA, zI] at e1
      simp only [zgd, zlet, zA, zI, z99, cl99, zq, cq, h25, if_true, if_false, q1, show vp_nar .boolean 1 = (1 : Int32) from rfl, show ¬ (25 : Nat) = 63 by decide, show ¬ (64 : Nat) = 63 by decide, show ¬ (65 : Nat) = 63 by decide, show ¬ (65 : Nat) = 64 by decide, if_neg (show ¬ (0 : Int32) = 1 by decide), show (0 : Int32) + 1 = 1 by decide]
      rw [← e1]
      exact st T'
    · cases j with
      | succ j => cases hx
      | zero =>
        have : (qq.2.1, (none, Γ.2.2.1 qq)) = x := Option.some.inj hx
        exact ⟨⟨q, qq, hq, e4, Or.inr ⟨hst', e5, this.symm⟩⟩, e6⟩
end RTI2
