/-! run(), the reference: applies() -/
/-- ARGS that wait -/
def xmW : List xmFr → Nat
  | [] => 0
  | .inl _ :: fr => xmW fr
  | .inr l :: fr => l.length + xmW fr
/-- how a step of the reference ends -/
def rOt (pp : Nat → Int32) (V : zSt) (N S P A : Nat) (r : zRs) (C : Nat) (res : (Nat × Nat) ⊕ xmM) : Prop := match res with
  | .inl e => ∃ x τ', r = some (some (.int x), τ') ∧ (x = 0 ∨ x = 1) ∧ xFm V τ' ∧ τ'.1 191 = nI e.1 ∧ τ'.1 164 = nI e.2
  | .inr m => ∃ x τ' c', r = some (some (.int x), τ') ∧ rXa pp V N S P A τ' c' m.2.2.1 m.1 m.2.1 ∧ (match m.2.2.2 with
    | .inr v => c' + xmW m.2.1 ≤ C ∧ x = 0 ∧ τ'.1 192 = nI v.1 ∧ τ'.2.1 193 = v.2
    | .inl y => c' + xmW m.2.1 ≤ C + 4 ∧ x = 1 ∧ ∃ nd, τ'.1 194 = nI nd ∧ nd < N ∧ rTr pp V 0 N S P A y.1 0 0 nd ∧ rEc (V.2.2.1 32) τ' c' y.2.1 y.2.2 (τ'.1 195))
theorem rEc.rv {R : Nat → Int32} {τ : zSt} {c : Nat} {env ps : List Nat} {vs us : List xmV} {k : Int32} (hl : vs.length = env.length) (hu : us.length = ps.length) (h : rEc R τ c (env ++ ps.reverse) (vs ++ us.reverse) k) : rEc R τ c (env ++ ps) (vs ++ us) k := by
  obtain ⟨l, a, b, d⟩ := h
  refine ⟨l, a, by rw [b, List.length_append, List.length_append, List.length_reverse], fun j u v eu ev => ?_⟩
  by_cases cj : j < env.length
  · refine d j u v ?_ ?_
    · rw [List.getElem?_append_left cj] at eu ⊢; exact eu
    · rw [List.getElem?_append_left (by omega)] at ev ⊢; exact ev
  · rw [List.getElem?_append_right (by omega)] at eu
    rw [List.getElem?_append_right (by omega), hl] at ev
    have hj := xget_lt eu
    refine d (env.length + (ps.length - 1 - (j - env.length))) u v ?_ ?_
    · rw [List.getElem?_append_right (by omega), Nat.add_sub_cancel_left, List.getElem?_reverse (by omega), show ps.length - 1 - (ps.length - 1 - (j - env.length)) = j - env.length by omega]
      exact eu
    · rw [List.getElem?_append_right (by omega), hl, Nat.add_sub_cancel_left, List.getElem?_reverse (by omega), hu, show ps.length - 1 - (ps.length - 1 - (j - env.length)) = j - env.length by omega]
      exact ev
theorem xnI_nn {i : Nat} (h : i < 2 ^ 31) : ¬ nI i < 0 := by
  rw [Int32.lt_iff_toInt_lt, nI_toInt h]
  show ¬ (i : Int) < 0
  omega
section XRP
variable {pp kk ee f : Nat → Int32} {tE tN : Nat → tY} {L : List Nat} {V τ : zSt} {N S P A c n cnt len : Nat} {h : xmHp} {fr : List xmFr} {ks : Nat → Nat} {qs : List Nat} {T h0 m : Nat}
/-- ARGS are taken -/
theorem r_ap53 {x2 x3 : Int32} {w : Nat} (hw : w ≤ 4) : ∀ (rest had : List xmV) (τ : zSt) (c t : Nat) (x5 x6 : Int32), rXa pp V N S P A τ c n h fr → c + rest.length ≤ 260000 → rCh τ c (xmAc rest) x5 → rCh τ c (xmAc had).reverse x6 → had.length ≤ w → rest.length < t → ∃ τ' x5' x6' k, k = min rest.length (w - had.length) ∧ l_applies_53 T (zF h0 qs ks T (m + 1)) h0 qs ks t x2 x3 (nI w) x5 x6 (nI had.length) τ = j_applies_107 T (zF h0 qs ks T (m + 1)) h0 qs ks x2 x3 (nI w) x5' x6' (nI (had.length + k)) τ' ∧ rXa pp V N S P A τ' (c + k) n h fr ∧ rCh τ' (c + k) (xmAc (rest.drop k)) x5' ∧ rCh τ' (c + k) (xmAc (had ++ rest.take k)).reverse x6' ∧ (∀ nf nd, xKp c nf nd τ τ')
  | [], had, τ, c, t, x5, x6, I, hc, h5, h6, hh, ht => by
    obtain ⟨t, rfl⟩ : ∃ s, t = s + 1 := ⟨t - 1, by rw [List.length_nil] at ht; omega⟩
    have e5 : x5 = -1 := h5
    refine ⟨τ, x5, x6, 0, by simp, ?_, I, h5, ?_, fun nf nd => xKp.rf _ _ _ _⟩
    · rw [l_applies_53, if_pos (by rw [e5]; decide)]
      rfl
    · rw [List.take_nil, List.append_nil]; exact h6
  | v :: rest, had, τ, c, t, x5, x6, I, hc, h5, h6, hh, ht => by
    rw [List.length_cons] at hc ht
    obtain ⟨t, rfl⟩ : ∃ s, t = s + 1 := ⟨t - 1, by omega⟩
    obtain ⟨i, e5, hi, ⟨a1, a2, a3⟩, a4⟩ := id h5
    have hi' : i < 260000 := by omega
    have zi : zin x5 260000 = true := by rw [e5]; exact zin_n hi' (by decide)
    have ci : x5.toNatClampNeg = i := by rw [e5]; exact nI_clamp (by omega)
    rw [l_applies_53, if_neg (by rw [e5]; exact xnI_nn (by omega))]
    by_cases cw : w ≤ had.length
    · refine ⟨τ, x5, x6, 0, by omega, ?_, I, h5, ?_, fun nf nd => xKp.rf _ _ _ _⟩
      · rw [if_pos (by rw [Int32.le_iff_toInt_le, nI_toInt (by omega), nI_toInt (by omega)]; omega)]
        rfl
      · rw [List.take_zero, List.append_nil]; exact h6
    · rw [if_neg (by rw [Int32.le_iff_toInt_le, nI_toInt (by omega), nI_toInt (by omega)]; omega), zgd_at zi, zgd_at zi, zgd_at zi, ci, r_slot I.2.1.1 (by omega), zci_at, a2, a3]
      have I1 := I.sl (x1 := x6) (x2 := -1) (x3 := nI v.1) (x4 := v.2)
      have sk := slS_sk τ c x6 (-1) (nI v.1) v.2
      have h6' : rCh (slS τ c x6 (-1) (nI v.1) v.2) (c + 1) (xmAc (had ++ [v])).reverse (nI c) := by
        have e : (xmAc (had ++ [v])).reverse = ((-1 : Int32), v) :: (xmAc had).reverse := by
          unfold xmAc
          rw [List.map_append, List.reverse_append]
          rfl
        rw [e]
        exact rCh.sl h6
      obtain ⟨τ', x5', x6', k, ek, q1, q2, q3, q4, q5⟩ := r_ap53 hw rest (had ++ [v]) (slS τ c x6 (-1) (nI v.1) v.2) (c + 1) t _ _ I1 (by omega) (rCh.kp sk (by omega) _ _ a4) h6' (by rw [List.length_append]; show had.length + 1 ≤ w; omega) (by omega)
      have lh : (had ++ [v]).length = had.length + 1 := by rw [List.length_append]; rfl
      rw [lh] at ek q1
      refine ⟨τ', x5', x6', k + 1, by rw [List.length_cons]; omega, ?_, ?_, ?_, ?_, fun nf nd => ?_⟩
      · rw [nI_p1, show had.length + (k + 1) = had.length + 1 + k by omega]
        exact q1
      · rw [show c + (k + 1) = c + 1 + k by omega]; exact q2
      · rw [show c + (k + 1) = c + 1 + k by omega]; exact q3
      · rw [show c + (k + 1) = c + 1 + k by omega, List.take_succ_cons]
        rw [List.append_assoc] at q4
        exact q4
      · have g1 := slS_kp τ c nf nd x6 (-1) (nI v.1) v.2
        have g2 := q5 nf nd
        exact ⟨rSk.tr g1.1 g2.1 (by omega), fun k i a b d => (g2.2.1 k i a b d).trans (g1.2.1 k i a b d), fun k i a b d => (g2.2.2 k i a b d).trans (g1.2.2 k i a b d)⟩
/-- parameters get their values, the last one first -/
theorem r_ap219 {g : Nat} {d : Nat × Nat × Nat × tS × tS} {z : Unit} {a b : tT} {nd xb : Nat} (hg : g = 2 ∨ g = 3) (hL : L.length < 2 ^ 31) (hN : N ≤ 2000) (hnd : nd < N) (e0 : nV V nd 0 = nI g) (e3 : g = 3 → nV V nd 3 = nI (d.1 + 1)) (e4 : g = 2 → nV V nd 4 = nI (d.1 + 3)) (e5 : nV V nd 5 = nI xb) (hw : xmPw (.inner g d z a b) + 4 ≤ 2010) : ∀ (us : List xmV) (ps : List Nat) (env : List Nat) (vs : List xmV) (τ : zSt) (c t : Nat) (x8 x9 x10 : Int32), us.length = ps.length → (∀ j, j < ps.length → ps[j]? = some (xmPw (.inner g d z a b) + (us.length - 1 - j))) → (g = 3 → us.length ≤ 1) → us.length ≤ 4 → rXa pp V N S P A τ c n h fr → c + us.length ≤ 260000 → rCh τ c (xmAc us) x10 → rEc (V.2.2.1 32) τ c env vs x8 → vs.length = env.length → (env ++ ps).Nodup → (∀ u, u ∈ env ++ ps → rTo (V.2.2.1 32) L u) → (us ≠ [] → x9 = nI (us.length - 1)) → us.length < t → ∃ τ', l_applies_219 T (zF h0 qs ks T (m + 1)) h0 qs ks t (nI nd) x8 x9 x10 τ = some (some (.int 1), τ') ∧ rXa pp V N S P A τ' (c + us.length) n h fr ∧ τ'.1 194 = nI xb ∧ rEc (V.2.2.1 32) τ' (c + us.length) (env ++ ps) (vs ++ us) (τ'.1 195)
  | [], ps, env, vs, τ, c, t, x8, x9, x10, hu, hp, h3, h4, I, hc, h10, E, hl, hn, hto, h9, ht => by
    obtain ⟨t, rfl⟩ : ∃ s, t = s + 1 := ⟨t - 1, by rw [List.length_nil] at ht; omega⟩
    have e10 : x10 = -1 := h10
    have ep : ps = [] := by cases ps with | nil => rfl | cons _ _ => cases hu
    subst ep
    obtain ⟨-, -, -, r11, -⟩ := I.1.r6 nd
    rw [l_applies_219, if_pos (by rw [e10]; decide), zgd_at (zin_n (by omega) (by decide)), nI_clamp (by omega), r11, e5, r_then, zci_at]
    refine ⟨zI (zI τ 194 (nI xb)) 195 x8, rfl, (I.i (by omega)).i (by omega), rfl, ?_⟩
    rw [List.append_nil, List.append_nil]
    exact E.kp (show rSk τ (zI (zI τ 194 (nI xb)) 195 x8) c from fun _ _ => ⟨rfl, rfl, rfl, rfl⟩) (Nat.le_refl _)
  | v :: us, [], env, vs, τ, c, t, x8, x9, x10, hu, _, _, _, _, _, _, _, _, _, _, _, _ => by cases hu
  | v :: us, p :: ps, env, vs, τ, c, t, x8, x9, x10, hu, hp, h3, h4, I, hc, h10, E, hl, hn, hto, h9, ht => by
    rw [List.length_cons] at hc ht h4
    obtain ⟨t, rfl⟩ : ∃ s, t = s + 1 := ⟨t - 1, by omega⟩
    obtain ⟨i, e10, hi, ⟨a1, a2, a3⟩, a4⟩ := id h10
    have zi : zin x10 260000 = true := by rw [e10]; exact zin_n (by omega) (by decide)
    have ci : x10.toNatClampNeg = i := by rw [e10]; exact nI_clamp (by omega)
    have zn : zin (nI nd) 2100 = true := zin_n (by omega) (by decide)
    have cn : (nI nd).toNatClampNeg = nd := nI_clamp (by omega)
    obtain ⟨r6, r9, r10, r11, -⟩ := I.1.r6 nd
    have e9 : x9 = nI us.length := h9 (fun z => by cases z)
    have hp0 : p = xmPw (.inner g d z a b) + us.length := by
      have q := hp 0 (by rw [List.length_cons]; omega)
      injection q with q
    have hus : us.length = ps.length := by simpa using hu
    -- the NAME of it
    have J : l_applies_219 T (zF h0 qs ks T (m + 1)) h0 qs ks (t + 1) (nI nd) x8 x9 x10 τ = j_applies_262 T (zF h0 qs ks T (m + 1)) h0 qs ks (l_applies_219 T (zF h0 qs ks T (m + 1)) h0 qs ks t) (nI nd) x8 x9 x10 (V.2.2.1 32 p) τ := by
      rw [l_applies_219, if_neg (by rw [e10]; exact xnI_nn (by omega)), zgd_at zn, cn, r6, e0]
      rcases hg with hg | hg
      · subst hg
        have ew : xmPw (.inner 2 d z a b) = d.1 + 3 := rfl
        rw [ew] at hp0 hw
        rw [if_neg (show ¬ nI 2 = (3 : Int32) by decide), zgd_at zn, r10, e4 rfl, e9, show nI (d.1 + 3) + nI us.length = nI (d.1 + 3 + us.length) from nI_add _ _, zgd_at (zin_n (by omega) (by decide)), nI_clamp (by omega), I.1.1 32 (by decide), ← hp0]
      · subst hg
        have ew : xmPw (.inner 3 d z a b) = d.1 + 1 := rfl
        have h3 := h3 rfl
        rw [List.length_cons] at h3
        rw [ew] at hp0 hw
        rw [if_pos (show nI 3 = (3 : Int32) from rfl), zgd_at zn, r9, e3 rfl, zgd_at (zin_n (by omega) (by decide)), nI_clamp (by omega), I.1.1 32 (by decide), hp0, show d.1 + 1 + us.length = d.1 + 1 by omega]
    rw [J]
    unfold j_applies_262
    rw [zgd_at zi, zgd_at zi, ci, r_slot I.2.1.1 (by omega), zci_at, a2, a3, zgd_at zi]
    have sk := slS_sk τ c x8 (V.2.2.1 32 p) (nI v.1) v.2
    have hpm : p ∈ env ++ p :: ps := List.mem_append_right _ (List.mem_cons_self ..)
    have hnp : p ∉ env := fun q => (List.nodup_append.mp hn).2.2 p q p (List.mem_cons_self ..) rfl
    have E1 := E.sn (L := L) (u := p) (v := v) hL (fun w q => hto w (List.mem_append_left _ q)) (hto p hpm) hnp hl
    have ea : env ++ p :: ps = (env ++ [p]) ++ ps := by rw [List.append_assoc]; rfl
    have ev : vs ++ v :: us = (vs ++ [v]) ++ us := by rw [List.append_assoc]; rfl
    have e107 : (slS τ c x8 (V.2.2.1 32 p) (nI v.1) v.2).2.2.1 107 i = τ.2.2.1 107 i := (sk i hi).2.2.1
    rw [e107]
    obtain ⟨τ', q1, q2, q3, q4⟩ := r_ap219 hg hL hN hnd e0 e3 e4 e5 hw us ps (env ++ [p]) (vs ++ [v]) (slS τ c x8 (V.2.2.1 32 p) (nI v.1) v.2) (c + 1) t (nI c) (x9 + -1) (τ.2.2.1 107 i) hus (fun j hj => by
      have q := hp (j + 1) (by rw [List.length_cons]; omega)
      rw [List.getElem?_cons_succ, List.length_cons] at q
      rw [q]
      congr 2
      omega) (fun q => by have := h3 q; rw [List.length_cons] at this; omega) (by omega) I.sl (by omega) (rCh.kp sk (by omega) _ _ a4) E1 (by rw [List.length_append, List.length_append, hl]; rfl) (by rw [← ea]; exact hn) (by rw [← ea]; exact hto) (fun hne => by
      rw [e9]
      have : 0 < us.length := by
        cases us with
        | nil => exact absurd rfl hne
        | cons _ _ => rw [List.length_cons]; omega
      obtain ⟨j, ej⟩ : ∃ j, us.length = j + 1 := ⟨us.length - 1, by omega⟩
      rw [ej]
      show nI (j + 1) + -1 = nI (j + 1 - 1)
      rw [← nI_p1, ← Int32.sub_eq_add_neg, nI_pm]
      rfl) (by omega)
    refine ⟨τ', q1, ?_, q3, ?_⟩
    · rw [List.length_cons, show c + (us.length + 1) = c + 1 + us.length by omega]; exact q2
    · rw [List.length_cons, show c + (us.length + 1) = c + 1 + us.length by omega, ea, ev]; exact q4
end XRP
