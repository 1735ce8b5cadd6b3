/-! type(): NAMES, the reference -/
/-- the reference while it prints -/
def rTp (g : gN → Nat) (Nm : gN → Prop) (τ0 : zSt) (s : tPs) (τ : zSt) : Prop := (τ.1 158 = nI s.1.length ∧ ∀ i c, s.1[i]? = some c → i < 16000 → τ.2.2.1 101 i = tBt c) ∧ (τ.1 160 = nI s.2.length ∧ s.2.length ≤ 4000 ∧ ∀ k, Nm (.inr k) → if tIx (.inr k) s.2 < s.2.length then τ.2.2.1 102 (g (.inr k) - 700) = nI (tIx (.inr k) s.2) else ¬ 0 ≤ τ.2.2.1 102 (g (.inr k) - 700)) ∧ (∀ k, k ≠ 158 → k ≠ 160 → τ.1 k = τ0.1 k) ∧ τ.2.1 = τ0.2.1 ∧ (∀ k, k ≠ 101 → k ≠ 102 → τ.2.2.1 k = τ0.2.2.1 k) ∧ τ.2.2.2 = τ0.2.2.2
/-- numbers of NAMES; the letters of those that are told -/
def rNmo (g : gN → Nat) (Nm : gN → Prop) (wd : Nat → List Int32) (τ0 : zSt) : Prop := (∀ a b, Nm a → Nm b → g a = g b → a = b) ∧ (∀ k, Nm (.inr k) → 700 ≤ g (.inr k) ∧ g (.inr k) < 1500) ∧ ∀ w, Nm (.inl w) → ∃ j p e, g (.inl w) < 700 ∧ τ0.2.2.1 30 (g (.inl w)) = nI j ∧ j < 2010 ∧ τ0.2.2.1 4 j = nI p ∧ τ0.2.2.1 5 j = nI e ∧ p ≤ e ∧ e ≤ 2000 ∧ wd w = tTx (τ0.2.2.1 1) (e - p) p
theorem tIx_ap (a b : gN) (h : b ≠ a) : ∀ l, tIx a (l ++ [b]) = if tIx a l < l.length then tIx a l else l.length + 1
  | [] => by
    show (if b = a then 0 else 0 + 1) = _
    rw [if_neg h]
    rfl
  | x :: r => by
    show (if x = a then 0 else tIx a (r ++ [b]) + 1) = _
    rw [tIx_ap a b h r]
    rw [show tIx a (x :: r) = if x = a then 0 else tIx a r + 1 from rfl]
    by_cases c : x = a
    · rw [if_pos c, if_pos c, if_pos (by rw [List.length_cons]; omega)]
    · rw [if_neg c, if_neg c, List.length_cons]
      by_cases e : tIx a r < r.length
      · rw [if_pos e, if_pos (by omega)]
      · rw [if_neg e, if_neg (by omega)]
theorem tIx_me (a : gN) : ∀ l, tIx a (l ++ [a]) = if tIx a l < l.length then tIx a l else l.length
  | [] => by
    show (if a = a then 0 else _) = _
    rw [if_pos rfl]
    rfl
  | x :: r => by
    show (if x = a then 0 else tIx a (r ++ [a]) + 1) = _
    rw [tIx_me a r]
    rw [show tIx a (x :: r) = if x = a then 0 else tIx a r + 1 from rfl]
    by_cases c : x = a
    · rw [if_pos c, if_pos c, if_pos (by rw [List.length_cons]; omega)]
    · rw [if_neg c, if_neg c, List.length_cons]
      by_cases e : tIx a r < r.length
      · rw [if_pos e, if_pos (by omega)]
      · rw [if_neg e, if_neg (by omega)]
section TRN
variable {g : gN → Nat} {Nm : gN → Prop} {wd : Nat → List Int32} {ks : Nat → Nat} {qs : List Nat} {T n h0 sz : Nat} {κ : oKv} {τ0 τ τ' : zSt} {s : tPs} {L : List Int32} {a : gN}
theorem rTp.sy (h : rTp g Nm τ0 s τ) : rSy τ s.1 τ := ⟨h.1.1, h.1.2, fun _ _ => rfl, rfl, fun _ _ => rfl, rfl⟩
theorem rTp.on (h : rTp g Nm τ0 s τ) (k : rSy τ L τ') : rTp g Nm τ0 (L, s.2) τ' := by
  obtain ⟨-, ⟨h3, h4, h5⟩, h6, h7, h8, h9⟩ := h
  obtain ⟨k1, k2, k3, k4, k5, k6⟩ := k
  refine ⟨⟨k1, k2⟩, ⟨(k3 160 (by decide)).trans h3, h4, fun k hk => by rw [k5 102 (by decide)]; exact h5 k hk⟩, fun k q1 q2 => (k3 k q1).trans (h6 k q1 q2), k4.trans h7, fun k q1 q2 => (k5 k q1).trans (h8 k q1 q2), k6.trans h9⟩
theorem s_put {c : Int32} (h : rTp g Nm τ0 s τ) (hl : s.1.length < 900000000) : ∃ τ', zF h0 qs ks T (n + 1) 112 [.ref h0, .int c] τ = some (none, τ') ∧ rTp g Nm τ0 (s.1 ++ [c], s.2) τ' := by
  obtain ⟨τ', r1, r2⟩ := r_say (h0 := h0) (qs := qs) (ks := ks) (T := T) (n := n) (c := c) h.sy (by omega)
  exact ⟨τ', r1, h.on r2⟩
theorem s_num {v : Int64} (hv : v.toInt.natAbs ≤ 1000000000000000000) (hT : 100 ≤ T) (h : rTp g Nm τ0 s τ) (hl : s.1.length < 870000000) : ∃ τ', zF h0 qs ks T (n + 2) 114 [.ref h0, .long v] τ = some (none, τ') ∧ rTp g Nm τ0 (s.1 ++ tNu v, s.2) τ' := by
  obtain ⟨τ', r1, r2⟩ := r_sayN (h0 := h0) (qs := qs) (ks := ks) (T := T) (n := n) hv hT hl h.sy
  exact ⟨τ', r1, h.on r2⟩
theorem s_wrd {q : Nat × String} (hf : lFacts κ ks sz) (hq : q ∈ zKm) (hn : q.2.toList.length < 1000) (hT : 1000 ≤ T) (h : rTp g Nm τ0 s τ) (hl : s.1.length < 880000000) : ∃ τ', zF h0 qs ks T (n + 2) 113 [.ref h0, .ref (ks q.1)] τ = some (none, τ') ∧ rTp g Nm τ0 (s.1 ++ tTx (zch q.2) q.2.toList.length 0, s.2) τ' := by
  obtain ⟨τ', r1, r2⟩ := r_sayW (h0 := h0) (qs := qs) (T := T) (n := n) hf hq hn hT hl h.sy
  exact ⟨τ', r1, h.on r2⟩
theorem s_nm19 {x j p e : Nat} (hx : x < 700) (e30 : τ0.2.2.1 30 x = nI j) (hj : j < 2010) (e5 : τ0.2.2.1 5 j = nI e) (he : e ≤ 2000) : ∀ (m p F : Nat) (s : tPs) (τ : zSt), p + m = e → m < F → s.1.length + m < 880000000 → rTp g Nm τ0 s τ → ∃ τ', l_sayName_19 T (zF h0 qs ks T (n + 1)) h0 qs ks F (nI x) (nI p) τ = some (none, τ') ∧ rTp g Nm τ0 (s.1 ++ tTx (τ0.2.2.1 1) m p, s.2) τ'
  | 0, p, F, s, τ, hp, hF, hl, h => by
    obtain ⟨F, rfl⟩ : ∃ u, F = u + 1 := ⟨F - 1, by omega⟩
    have a30 : τ.2.2.1 30 x = nI j := by rw [h.2.2.2.2.1 30 (by decide) (by decide)]; exact e30
    have a5 : τ.2.2.1 5 j = nI e := by rw [h.2.2.2.2.1 5 (by decide) (by decide)]; exact e5
    rw [l_sayName_19, zgd_at (zin_n hx (by decide)), nI_clamp (by omega), a30, zgd_at (zin_n hj (by decide)), nI_clamp (by omega), a5, if_pos (nI_le (by omega) (by omega))]
    exact ⟨τ, rfl, by rw [tTx, List.append_nil]; exact h⟩
  | m + 1, p, F, s, τ, hp, hF, hl, h => by
    obtain ⟨F, rfl⟩ : ∃ u, F = u + 1 := ⟨F - 1, by omega⟩
    have a30 : τ.2.2.1 30 x = nI j := by rw [h.2.2.2.2.1 30 (by decide) (by decide)]; exact e30
    have a5 : τ.2.2.1 5 j = nI e := by rw [h.2.2.2.2.1 5 (by decide) (by decide)]; exact e5
    have a1 : τ.2.2.1 1 = τ0.2.2.1 1 := h.2.2.2.2.1 1 (by decide) (by decide)
    obtain ⟨τ1, r1, r2⟩ := s_put (h0 := h0) (qs := qs) (ks := ks) (T := T) (n := n) (c := τ0.2.2.1 1 p) h (by omega)
    obtain ⟨τ2, s1, s2⟩ := s_nm19 (p := p) hx e30 hj e5 he m (p + 1) F (s.1 ++ [τ0.2.2.1 1 p], s.2) τ1 (by omega) (by omega) (by show (s.1 ++ [_]).length + m < _; rw [List.length_append]; show s.1.length + 1 + m < _; omega) r2
    rw [l_sayName_19, zgd_at (zin_n hx (by decide)), nI_clamp (by omega), a30, zgd_at (zin_n hj (by decide)), nI_clamp (by omega), a5, if_neg (nI_ge (by omega) (by omega)), zgd_at (zin_n (by omega) (by decide)), nI_clamp (by omega), a1, r1, zcv_at, nI_p1, s1]
    have s2 : rTp g Nm τ0 ((s.1 ++ [τ0.2.2.1 1 p]) ++ tTx (τ0.2.2.1 1) m (p + 1), s.2) τ2 := s2
    rw [List.append_assoc] at s2
    exact ⟨τ2, rfl, s2⟩
theorem s_nm88 {k : Nat × List Bool} (hT : 100 ≤ T) (hR : rNmo g Nm wd τ0) (hk : Nm (.inr k)) (h : rTp g Nm τ0 s τ) (hi : tIx (.inr k) s.2 < s.2.length) (hl : s.1.length < 860000000) : ∃ τ', j_sayName_88 T (zF h0 qs ks T (n + 2)) h0 qs ks (nI (g (.inr k))) τ = some (none, τ') ∧ rTp g Nm τ0 (s.1 ++ 36 :: tNu (nI (tIx (.inr k) s.2)).toInt64, s.2) τ' := by
  obtain ⟨g1, g2⟩ := hR.2.1 k hk
  have sb : nI (g (.inr k)) - 700 = nI (g (.inr k) - 700) := by
    rw [← Int32.toInt_inj, Int32.toInt_sub, nI_toInt (by omega), nI_toInt (by omega)]
    show Int.bmod (((g (.inr k) : Nat) : Int) - 700) (2 ^ 32) = _
    rw [Int.bmod_eq_of_le (by omega) (by omega)]
    omega
  obtain ⟨τ1, r1, r2⟩ := s_put (h0 := h0) (qs := qs) (ks := ks) (T := T) (n := n + 1) (c := 36) h (by omega)
  have h4 := h.2.1.2.1
  have e := r2.2.1.2.2 k hk
  have e : if tIx (.inr k) s.2 < s.2.length then τ1.2.2.1 102 (g (.inr k) - 700) = nI (tIx (.inr k) s.2) else ¬ 0 ≤ τ1.2.2.1 102 (g (.inr k) - 700) := e
  rw [if_pos hi] at e
  have tj : (nI (tIx (.inr k) s.2)).toInt64.toInt = ((tIx (.inr k) s.2 : Nat) : Int) := by rw [Int32.toInt_toInt64, nI_toInt (by omega)]
  obtain ⟨τ2, s1, s2⟩ := s_num (h0 := h0) (qs := qs) (ks := ks) (T := T) (n := n) (v := (nI (tIx (.inr k) s.2)).toInt64) (by omega) hT r2 (by show (s.1 ++ [36]).length < _; rw [List.length_append]; show s.1.length + 1 < _; omega)
  unfold j_sayName_88
  rw [r1, zcv_at, sb, zgd_at (zin_n (by omega) (by decide)), nI_clamp (by omega), e, s1, zcv_at]
  have s2 : rTp g Nm τ0 ((s.1 ++ [36]) ++ tNu (nI (tIx (.inr k) s.2)).toInt64, s.2) τ2 := s2
  rw [List.append_assoc] at s2
  exact ⟨τ2, rfl, s2⟩
/-- **sayName() (115)** -/
theorem s_nm (hT : 2100 ≤ T) (hR : rNmo g Nm wd τ0) (ha : Nm a) (h : rTp g Nm τ0 s τ) (hl : s.1.length < 850000000) (hl2 : s.2.length < 4000) : ∃ τ', zF h0 qs ks T (n + 3) 115 [.ref h0, .int (nI (g a))] τ = some (none, τ') ∧ rTp g Nm τ0 (tNm wd a s) τ' := by
  rw [zE_sayName]
  unfold b_sayName
  match a, ha with
  | .inl w, ha =>
    obtain ⟨j, p, e, h1, h2, h3, h4, h5, h6, h7, h8⟩ := hR.2.2 w ha
    have a30 : τ.2.2.1 30 (g (.inl w)) = nI j := by rw [h.2.2.2.2.1 30 (by decide) (by decide)]; exact h2
    have a4 : τ.2.2.1 4 j = nI p := by rw [h.2.2.2.2.1 4 (by decide) (by decide)]; exact h4
    obtain ⟨τ', r1, r2⟩ := s_nm19 (h0 := h0) (qs := qs) (ks := ks) (T := T) (n := n + 1) (p := p) h1 h2 h3 h5 h7 (e - p) p T s τ (by omega) (by omega) (by omega) h
    rw [if_neg (show ¬ (700 : Int32) ≤ nI (g (.inl w)) from nI_ge (b := 700) h1 (by omega)), zgd_at (zin_n h1 (by decide)), nI_clamp (by omega), a30, zgd_at (zin_n h3 (by decide)), nI_clamp (by omega), a4, r1]
    refine ⟨τ', rfl, ?_⟩
    show rTp g Nm τ0 (s.1 ++ wd w, s.2) τ'
    rw [h8]
    exact r2
  | .inr k, ha =>
    obtain ⟨g1, g2⟩ := hR.2.1 k ha
    have sb : nI (g (.inr k)) - 700 = nI (g (.inr k) - 700) := by
      rw [← Int32.toInt_inj, Int32.toInt_sub, nI_toInt (by omega), nI_toInt (by omega)]
      show Int.bmod (((g (.inr k) : Nat) : Int) - 700) (2 ^ 32) = _
      rw [Int.bmod_eq_of_le (by omega) (by omega)]
      omega
    obtain ⟨b1, ⟨b2, b3, b4⟩, b5, b6, b7, b8⟩ := id h
    have e := b4 k ha
    have le := tIx_le (.inr k) s.2
    show ∃ τ', _ ∧ rTp g Nm τ0 (_, if tIx (.inr k) s.2 < s.2.length then s.2 else s.2 ++ [.inr k]) τ'
    rw [if_pos (show (700 : Int32) ≤ nI (g (.inr k)) from nI_le (a := 700) g1 (by omega)), sb, zgd_at (zin_n (by omega) (by decide)), nI_clamp (by omega)]
    by_cases c : tIx (.inr k) s.2 < s.2.length
    · rw [if_pos c] at e
      rw [if_pos c, e, if_pos (show (0 : Int32) ≤ nI (tIx (.inr k) s.2) from nI_le (a := 0) (b := tIx (.inr k) s.2) (by omega) (by omega))]
      exact s_nm88 (by omega) hR ha h c (by omega)
    · rw [if_neg c] at e
      rw [if_neg c, if_neg e, zgd_at (zin_n (by omega) (by decide)), zlet, zlet]
      have ej : tIx (.inr k) s.2 = s.2.length := by omega
      have ej2 : tIx (.inr k) (s.2 ++ [(Sum.inr k : gN)]) = s.2.length := by rw [tIx_me, if_neg c]
      have ln : (s.2 ++ [(Sum.inr k : gN)]).length = s.2.length + 1 := by rw [List.length_append]; rfl
      generalize hτ1 : zI (zA τ 102 (upd (τ.2.2.1 102) (g (.inr k) - 700) (τ.1 160))) 160 ((zA τ 102 (upd (τ.2.2.1 102) (g (.inr k) - 700) (τ.1 160))).1 160 + 1) = τ1
      have H1 : rTp g Nm τ0 (s.1, s.2 ++ [(Sum.inr k : gN)]) τ1 := by
        rw [← hτ1]
        refine ⟨⟨b1.1, b1.2⟩, ⟨?_, by show (s.2 ++ [(Sum.inr k : gN)]).length ≤ 4000; omega, fun k' hk' => ?_⟩, fun q q1 q2 => (zI_ne q2).trans (b5 q q1 q2), b6, fun q q1 q2 => ?_, b8⟩
        · rw [zI_eq]
          show τ.1 160 + 1 = nI (s.2 ++ [(Sum.inr k : gN)]).length
          rw [b2, nI_p1, ln]
        · have row : (zI (zA τ 102 (upd (τ.2.2.1 102) (g (.inr k) - 700) (τ.1 160))) 160 ((zA τ 102 (upd (τ.2.2.1 102) (g (.inr k) - 700) (τ.1 160))).1 160 + 1)).2.2.1 102 = upd (τ.2.2.1 102) (g (.inr k) - 700) (τ.1 160) := by simp [zI, zA]
          rw [row]
          dsimp only
          unfold upd
          by_cases ck : k' = k
          · subst ck
            rw [ej2, ln, if_pos (by omega), if_pos rfl, b2]
          · have ne : (Sum.inr k : gN) ≠ .inr k' := fun z => by injection z with z; exact ck z.symm
            obtain ⟨g3, g4⟩ := hR.2.1 k' hk'
            have gn : ¬ g (.inr k') - 700 = g (.inr k) - 700 := fun z => by
              have := hR.1 (.inr k') (.inr k) hk' ha (by omega)
              injection this with this
              exact ck this
            have e' := b4 k' hk'
            rw [tIx_ap _ _ ne, ln, if_neg gn]
            by_cases c' : tIx (.inr k') s.2 < s.2.length
            · rw [if_pos c'] at e' ⊢
              rw [if_pos (by omega)]
              exact e'
            · rw [if_neg c'] at e' ⊢
              rw [if_neg (by omega)]
              exact e'
        · show (if q = 102 then _ else τ.2.2.1 q) = _
          rw [if_neg q2]
          exact b7 q q1 q2
      obtain ⟨τ2, r1, r2⟩ := s_nm88 (h0 := h0) (qs := qs) (ks := ks) (T := T) (n := n) (by omega) hR ha H1 (by show tIx (.inr k) (s.2 ++ [(Sum.inr k : gN)]) < (s.2 ++ [(Sum.inr k : gN)]).length; omega) (by show s.1.length < _; omega)
      rw [r1]
      refine ⟨τ2, rfl, ?_⟩
      have r2 : rTp g Nm τ0 (s.1 ++ 36 :: tNu (nI (tIx (.inr k) (s.2 ++ [(Sum.inr k : gN)]))).toInt64, s.2 ++ [(Sum.inr k : gN)]) τ2 := r2
      rw [ej2] at r2
      rw [ej]
      exact r2
end TRN
