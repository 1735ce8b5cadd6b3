/-! the reference: decide() tells the INPUTS -/
/-- INPUTS: scope and types -/
def gIs : List (Nat × Nat) → List gEn → gSt → List gEn × gSt
  | [], sc, s => (sc, s)
  | y :: r, sc, s => gIs r (gNm (.inl y.1) (gPl (yB y.2)) sc) (gTn y.1 (gPl (yB y.2)) s)
section DCI
variable {ks : Nat → Nat} {qs : List Nat} {T n h0 S P : Nat} {V : zSt} {Γ : uGm} {CD : tT → Nat → Prop} {pp : Nat → Int32} {tN : Nat → tY} {L : List Nat} {is : List (Nat × Nat)}
theorem r_plT {b : Nat} {v : Nat → Nat} {τ : zSt} (hb : b ≤ 2) (hV : uVn τ v) (h75 : v 75 < 40000) (h79 : v 79 < 24000) : ∃ τ3 s, zF h0 qs ks T (n + 2) 72 [.ref h0, .int (nI (b + 1))] τ = some (some (.int (nI (v 75))), τ3) ∧ s ≤ 1 ∧ uVn τ3 (uAd v 1 s 0 0) ∧ uFr v τ τ3 ∧ uKe τ τ3 ∧ uTy Γ (uAd v 1 s 0 0) τ3 (yB b) (v 75) (gPl (yB b)) := by
  rcases (by omega : b = 0 ∨ b = 1 ∨ b = 2) with rfl | rfl | rfl
  · obtain ⟨τ3, a1, a2⟩ := r_pl3 (h0 := h0) (qs := qs) (ks := ks) (T := T) (n := n) (Γ := Γ) (l := .leaf) (r := .leaf) hV h75 h79
    exact ⟨τ3, 1, a1, Nat.le_refl _, a2⟩
  · obtain ⟨τ3, a1, a2⟩ := r_pl2 (h0 := h0) (qs := qs) (ks := ks) (T := T) (n := n) (Γ := Γ) (l := .leaf) (r := .leaf) hV h75
    exact ⟨τ3, 0, a1, Nat.zero_le _, a2⟩
  · obtain ⟨τ2, τ3, a1, a2, a3⟩ := r_pl1 (h0 := h0) (qs := qs) (ks := ks) (T := T) (n := n) (Γ := Γ) (k := 3) (l := .leaf) (r := .leaf) (Or.inr (Or.inl rfl)) hV h75 h79
    refine ⟨τ3, 1, ?_, Nat.le_refl _, a3⟩
    rw [zE_plainType]
    unfold b_plainType j_plainType_20
    have a2 : zF h0 qs ks T (n + 1) 67 [.ref h0, .int (nI 3), .int (nI (v 79)), .int (-1), .int (-1), .int (-1)] τ2 = _ := a2
    rw [r_isSaid, zci_at, if_neg (by decide), a1, zci_at, a2, zci_at]
set_option maxHeartbeats 1000000 in
/-- **INPUTS are told** -/
theorem r_dc108 (hΓ : uNs Γ V L tN) (hil : is.length ≤ 6) (h42 : V.1 42 = nI is.length) (hi : ∀ b y, is[b]? = some y → V.2.2.1 28 b = nI y.2 ∧ y.2 ≤ 2 ∧ y.1 ∈ L ∧ tN y.1 = yB y.2 ∧ Γ.1 (.inl y.1) = b) : ∀ (r : List (Nat × Nat)) (b t N : Nat) (e : Int32) (env : List Nat) (sc : List gEn) (s : gSt) (v : Nat → Nat) (τ : zSt), b + r.length = is.length → (∀ k, is[b + k]? = r[k]?) → r.length < t → N ≤ b → (∀ w, w ∈ env → w ∈ L) → uAl CD pp V S P Γ tN env v τ s → uSc N CD Γ v τ sc e (-1) → uIq Γ τ sc → iI τ → v 75 ≤ b → v 79 ≤ b → v 109 ≤ b → ∃ τ' v' e', l_decide_108 T (zF h0 qs ks T (n + 2)) h0 qs ks t e (nI b) τ = (zci (zF h0 qs ks T (n + 2) 83 [.ref h0, .int (τ'.1 43), .int e', .int (-1)] τ') fun r4 s2 => l_decide_186 T (zF h0 qs ks T (n + 2)) h0 qs ks T 1 s2) ∧ uAl CD pp V S P Γ tN (env ++ r.map Prod.fst) v' τ' (gIs r sc s).2 ∧ uSc is.length CD Γ v' τ' (gIs r sc s).1 e' (-1) ∧ uIq Γ τ' (gIs r sc s).1 ∧ iI τ' ∧ (v' 75 ≤ 6 ∧ v' 79 ≤ 6 ∧ v' 109 ≤ 6 ∧ ∀ k, k ≠ 75 → k ≠ 79 → k ≠ 109 → v' k = v k) ∧ uFr v τ τ' ∧ uIk Γ τ τ'
  | [], b, t, N, e, env, sc, s, v, τ, hb, hr, ht, hN, hE, al, hs, hq, hI, v1, v2, v3 => by
    obtain ⟨t, rfl⟩ : ∃ t', t = t' + 1 := ⟨t - 1, by omega⟩
    have hb : b = is.length := hb
    have e42 : τ.1 42 = nI is.length := (al.2.1.1 42 (by decide) (by decide) (by decide)).trans h42
    rw [l_decide_108, e42, if_pos (nI_le (by omega) (by omega))]
    refine ⟨τ, v, e, rfl, by rw [List.map_nil, List.append_nil]; exact al, ?_, hq, hI, ⟨by omega, by omega, by omega, fun _ _ _ _ => rfl⟩, uFr.rf v τ, rfl, fun _ _ w => w⟩
    obtain ⟨⟨ch, c1, c2, c3⟩, c4⟩ := hs
    exact ⟨⟨ch, c1, by omega, c3⟩, c4⟩
  | y :: r, b, t, N, e, env, sc, s, v, τ, hb, hr, ht, hN, hE, al, hs, hq, hI, v1, v2, v3 => by
    obtain ⟨t, rfl⟩ : ∃ t', t = t' + 1 := ⟨t - 1, by omega⟩
    have hb : b + (r.length + 1) = is.length := hb
    have ey : is[b]? = some y := by have := hr 0; rw [Nat.add_zero] at this; exact this
    obtain ⟨i1, i2, i3, i4, i5⟩ := hi b y ey
    have e42 : τ.1 42 = nI is.length := (al.2.1.1 42 (by decide) (by decide) (by decide)).trans h42
    have e28 : τ.2.2.1 28 b = nI y.2 := by rw [al.2.1.2.2 28 (by decide)]; exact i1
    rw [l_decide_108, e42, if_neg (nI_ge (by omega) (by omega)), zgd_at (zin_n (by omega) (by decide)), nI_clamp (show b < 2 ^ 31 by omega), e28]
    obtain ⟨τ1, q, a1, a2, a3, a4, a5, a6⟩ := r_plT (h0 := h0) (qs := qs) (ks := ks) (T := T) (n := n) (Γ := Γ) (b := y.2) i2 al.1 (by omega) (by omega)
    have I1 : iI τ1 := cQi.c72 (cQi_zF T (n + 2)) _ _ hI _ a1
    have go : j_decide_150 T (zF h0 qs ks T (n + 2)) h0 qs ks (l_decide_108 T (zF h0 qs ks T (n + 2)) h0 qs ks t) e (nI b) (nI b) (nI (y.2 + 1)) τ = (zci (zF h0 qs ks T (n + 2) 73 [.ref h0, .int e, .int (nI b), .int (nI (v 75))] (zA τ1 74 (upd (τ1.2.2.1 74) b (nI (v 75))))) fun r10 s8 => l_decide_108 T (zF h0 qs ks T (n + 2)) h0 qs ks t r10 (nI (b + 1)) s8) := by
      unfold j_decide_150
      rw [a1, zci_at, zgd_at (zin_n (by omega) (by decide)), nI_clamp (show b < 2 ^ 31 by omega)]
      simp only [zlet]
      rw [zgd_at (zin_n (by omega) (by decide)), nI_p1]
      have : (zA τ1 74 (upd (τ1.2.2.1 74) b (nI (v 75)))).2.2.1 74 b = nI (v 75) := by
        show (if b = b then nI (v 75) else τ1.2.2.1 74 b) = _
        rw [if_pos rfl]
      rw [this]
    have al1 : uAl CD pp V S P Γ tN env (uAd v 1 q 0 0) τ1 s := al.up (uAd_le v 1 q 0 0) rfl rfl a3 a4 a5.kr
    have hs1 : uSc N CD Γ (uAd v 1 q 0 0) τ1 sc e (-1) := hs.up (uAd_le v 1 q 0 0) a4
    have w75 : uAd v 1 q 0 0 75 = v 75 + 1 := rfl
    have w79 : uAd v 1 q 0 0 79 = v 79 + q := rfl
    have w109 : uAd v 1 q 0 0 109 = v 109 := rfl
    obtain ⟨τ2, b1, b2, b3, b4, b5, b6⟩ := r_tel (h0 := h0) (qs := qs) (ks := ks) (T := T) (n := n + 1) (u := y.1) (t := v 75) hΓ hE i3 al1 (by rw [i4]; exact a6) hs1 (hq.ik a5.ik) (by omega)
    rw [i5] at b1
    have b1 : zF h0 qs ks T (n + 2) 73 [.ref h0, .int e, .int (nI b), .int (nI (v 75))] (zA τ1 74 (upd (τ1.2.2.1 74) b (nI (v 75)))) = some (some (.int (nI (uAd v 1 q 0 0 109))), τ2) := b1
    have I2 : iI τ2 := cQi.c73 (cQi_zF T (n + 2)) _ _ _ _ (iI_zA (by decide) (by decide) (by decide) I1) _ b1
    rw [b1, zci_at] at go
    obtain ⟨τ', v', e', c1, c2, c3, c4, c5, ⟨c6, c7, c8, c9⟩, c10, c11⟩ := r_dc108 hΓ hil h42 hi r (b + 1) t (N + 1) (nI (uAd v 1 q 0 0 109)) (env ++ [y.1]) _ _ (uUp (uAd v 1 q 0 0) 109) τ2 (by omega) (fun k => by have := hr (k + 1); rw [show b + 1 + k = b + (k + 1) by omega]; exact this) (by have : r.length + 1 < t + 1 := ht; omega) (by omega) (fun w hw => by
      rcases List.mem_append.mp hw with hw | hw
      · exact hE w hw
      · rw [List.mem_singleton.mp hw]; exact i3) b2 b3 b4 I2 (by rw [uUp_ne _ (by decide)]; omega) (by rw [uUp_ne _ (by decide)]; omega) (by rw [uUp_at]; omega)
    refine ⟨τ', v', e', ?_, by rw [List.append_assoc] at c2; exact c2, c3, c4, c5, ⟨c6, c7, c8, fun k k1 k2 k3 => ?_⟩, (a4.tr (b5.tr c10 (uUp_le _ 109)) (uAd_le v 1 q 0 0)), (a5.ik.tr b6).tr c11⟩
    · rcases (by omega : y.2 = 0 ∨ y.2 = 1 ∨ y.2 = 2) with z | z | z
      · rw [z] at go ⊢
        rw [if_pos (show nI 0 = 0 from rfl), ← c1]
        exact go
      · rw [z] at go ⊢
        rw [if_neg (show ¬ nI 1 = 0 by decide), zgd_at (zin_n (by omega) (by decide)), if_pos (show nI 1 = 1 from rfl), ← c1]
        exact go
      · rw [z] at go ⊢
        rw [if_neg (show ¬ nI 2 = 0 by decide), zgd_at (zin_n (by omega) (by decide)), if_neg (show ¬ nI 2 = 1 by decide), ← c1]
        exact go
    · rw [c9 k k1 k2 k3, uUp_ne _ k3]
      unfold uAd
      rw [if_neg k1, if_neg k2]
      split
      · omega
      · split <;> omega
end DCI
