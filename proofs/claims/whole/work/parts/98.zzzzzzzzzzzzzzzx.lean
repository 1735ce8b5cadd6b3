/-! the reference: columns of NAMES, relates() -/
/-- the NAMES (numbers) that have columns, in their order -/
def rCo (τ : zSt) (ns : List Nat) : Prop := τ.1 131 = nI ns.length ∧ ns.length ≤ 100 ∧ ns.Nodup ∧ (∀ (k x : Nat), ns[k]? = some x → x < 1501 ∧ τ.2.2.1 90 k = nI x ∧ τ.2.2.1 89 x = nI k) ∧ ∀ x, x < 1501 → x ∉ ns → τ.2.2.1 89 x = -1
section RCO
variable {ks : Nat → Nat} {qs : List Nat} {T n h0 : Nat} {τ : zSt} {ns : List Nat}
theorem rCo.cg {τ' : zSt} (h : rCo τ ns) (h1 : τ'.1 131 = τ.1 131) (h2 : τ'.2.2.1 89 = τ.2.2.1 89) (h3 : τ'.2.2.1 90 = τ.2.2.1 90) : rCo τ' ns := by
  unfold rCo
  rw [h1, h2, h3]
  exact h
theorem m1_lt : ¬ (0 : Int32) ≤ -1 ∧ (-1 : Int32) < 0 := by decide
/-- columnOf() of one that has a column -/
theorem r_clA {k x : Nat} (h : rCo τ ns) (hk : ns[k]? = some x) : zF h0 qs ks T (n + 1) 85 [.ref h0, .int (nI x)] τ = some (some (.int (nI k)), τ) := by
  obtain ⟨-, h1, -, h2, -⟩ := h
  obtain ⟨a1, a2, a3⟩ := h2 k x hk
  have := get_lt hk
  exact r_col a1 (by omega) a3
/-- columnOf() of a new one -/
theorem r_clN {x : Nat} (h : rCo τ ns) (hx : x < 1501) (hn : x ∉ ns) (hl : ns.length < 100) : ∃ τ', zF h0 qs ks T (n + 1) 85 [.ref h0, .int (nI x)] τ = some (some (.int (nI ns.length)), τ') ∧ rCo τ' (ns ++ [x]) ∧ (∀ k, k ≠ 131 → τ'.1 k = τ.1 k) ∧ τ'.2.1 = τ.2.1 ∧ (∀ k, k ≠ 89 → k ≠ 90 → τ'.2.2.1 k = τ.2.2.1 k) ∧ τ'.2.2.2 = τ.2.2.2 := by
  obtain ⟨h0', h1, hd, h2, h3⟩ := h
  rw [zE_columnOf]
  unfold b_columnOf
  rw [zgd_at (zin_n hx (by decide)), nI_clamp (by omega), h3 x hx hn, if_pos m1_lt.2, zgd_at (zin_n hx (by decide))]
  simp only [zlet]
  rw [show (zA τ 89 (upd (τ.2.2.1 89) x (τ.1 131))).1 131 = nI ns.length from h0', zgd_at (zin_n (by omega) (by decide)), nI_clamp (by omega)]
  refine ⟨zI (zA (zA τ 89 (upd (τ.2.2.1 89) x (τ.1 131))) 90 (upd (τ.2.2.1 90) ns.length (nI x))) 131 (τ.1 131 + 1), ?_, ⟨?_, by rw [List.length_append]; exact hl, ?_, ?_, ?_⟩, ?_, rfl, ?_, rfl⟩
  · show some (some (Value.int (τ.1 131 + 1 - 1)), _) = _
    rw [show τ.1 131 + 1 - 1 = nI ns.length by rw [h0', nI_pm]]
    rfl
  · show τ.1 131 + 1 = _
    rw [h0', nI_p1, List.length_append]
    rfl
  · exact List.nodup_append.mpr ⟨hd, by simp, fun a ha b hb e => by
      rw [List.mem_singleton.mp hb] at e
      exact hn (e ▸ ha)⟩
  · intro k y hk
    show y < 1501 ∧ upd (τ.2.2.1 90) ns.length (nI x) k = nI y ∧ upd (τ.2.2.1 89) x (τ.1 131) y = nI k
    rcases get_ap hk with ⟨rfl, rfl⟩ | ⟨hl', hk⟩
    · refine ⟨hx, if_pos rfl, ?_⟩
      rw [h0']
      exact if_pos rfl
    · obtain ⟨a1, a2, a3⟩ := h2 k y hk
      refine ⟨a1, ?_, ?_⟩
      · rw [← a2]
        exact if_neg (by omega)
      · rw [← a3]
        exact if_neg (fun e : y = x => hn (e ▸ List.mem_of_getElem? hk))
  · intro y hy hm
    show upd (τ.2.2.1 89) x (τ.1 131) y = -1
    rw [← h3 y hy (fun z => hm (List.mem_append_left _ z))]
    exact if_neg (fun e => hm (by rw [e]; simp))
  · intro k hk
    exact if_neg hk
  · intro k k1 k2
    show (zA (zA τ 89 _) 90 _).2.2.1 k = _
    exact (if_neg k2).trans (if_neg k1)
theorem r_bgL (h1 : ns.length ≤ 100) (h2 : ∀ (k x : Nat), ns[k]? = some x → x < 1501) : ∀ (d j t : Nat) (τ : zSt), j + d = ns.length → d < t → τ.1 131 = nI ns.length → (∀ (k x : Nat), ns[k]? = some x → τ.2.2.1 90 k = nI x) → (∀ x, x < 1501 → x ∉ ns.drop j → τ.2.2.1 89 x = -1) → ∃ τ', l_beginBounds_2 T (zF h0 qs ks T n) h0 qs ks t (nI j) τ = some (none, τ') ∧ rCo τ' [] ∧ (∀ k, k ≠ 131 → τ'.1 k = τ.1 k) ∧ τ'.2.1 = τ.2.1 ∧ (∀ k, k ≠ 89 → τ'.2.2.1 k = τ.2.2.1 k) ∧ τ'.2.2.2 = τ.2.2.2
  | 0, j, t, τ, hj, ht, e0, _, e3 => by
    obtain ⟨t, rfl⟩ : ∃ t', t = t' + 1 := ⟨t - 1, by omega⟩
    rw [l_beginBounds_2, e0, if_pos (nI_le (by omega) (by omega))]
    refine ⟨_, rfl, ⟨rfl, Nat.zero_le _, List.nodup_nil, fun k x z => (by cases z), fun x hx _ => ?_⟩, fun k hk => if_neg hk, rfl, fun _ _ => rfl, rfl⟩
    exact e3 x hx (by rw [List.drop_of_length_le (by omega)]; exact List.not_mem_nil)
  | d + 1, j, t, τ, hj, ht, e0, e2, e3 => by
    obtain ⟨t, rfl⟩ : ∃ t', t = t' + 1 := ⟨t - 1, by omega⟩
    have hjl : j < ns.length := by omega
    have ej := List.getElem?_eq_getElem hjl
    have hx := h2 _ _ ej
    rw [l_beginBounds_2, e0, if_neg (nI_ge (by omega) (by omega)), zgd_at (zin_n (by omega) (by decide)), nI_clamp (by omega), e2 j _ ej, zgd_at (zin_n hx (by decide)), nI_clamp (by omega)]
    simp only [zlet]
    rw [nI_p1]
    obtain ⟨τ', a1, a2, a3, a4, a5, a6⟩ := r_bgL h1 h2 d (j + 1) t (zA τ 89 (upd (τ.2.2.1 89) ns[j] (-1))) (by omega) (by omega) e0 (fun k x z => e2 k x z) (fun x hx hm => by
      show upd (τ.2.2.1 89) ns[j] (-1) x = -1
      by_cases c : x = ns[j]
      · exact if_pos c
      · rw [← e3 x hx (fun z => ?_)]
        · exact if_neg c
        · rw [List.drop_eq_getElem_cons hjl] at z
          rcases List.mem_cons.mp z with z | z
          · exact c z
          · exact hm z)
    exact ⟨τ', a1, a2, a3, a4, fun k hk => (a5 k hk).trans (if_neg hk), a6⟩
/-- beginBounds() -/
theorem r_bgn (hT : 110 ≤ T) (h : rCo τ ns) : ∃ τ', zF h0 qs ks T (n + 1) 84 [.ref h0] τ = some (none, τ') ∧ rCo τ' [] ∧ (∀ k, k ≠ 131 → τ'.1 k = τ.1 k) ∧ τ'.2.1 = τ.2.1 ∧ (∀ k, k ≠ 89 → τ'.2.2.1 k = τ.2.2.1 k) ∧ τ'.2.2.2 = τ.2.2.2 := by
  rw [zE_beginBounds]
  unfold b_beginBounds
  exact r_bgL h.2.1 (fun k x z => (h.2.2.2.1 k x z).1) ns.length 0 T τ (by omega) (by have := h.2.1; omega) h.1 (fun k x z => (h.2.2.2.1 k x z).2.1) (fun x hx hm => h.2.2.2.2 x hx hm)
end RCO
/-- what stands in u, as a term over columns -/
def uKm (b : Nat) (t : Int32) (nu : Int64) : kTe := (if t = 0 then none else some (b, t.toInt), nu.toInt)
theorem fcl_aM {a b : Nat} {t : Int32} {nu : Int64} {sg le : Int} (ht : t.toInt = 0 ∨ t.toInt = 1 ∨ t.toInt = -1) (hs : sg = 1 ∨ sg = -1) : fcl a sg le (uKm b t nu) = aM a sg b (-sg * t.toInt) (sg * nu.toInt - le) := by
  have h0 : t = 0 ↔ t.toInt = 0 := ⟨fun e => by rw [e]; rfl, fun e => Classical.byContradiction fun z => i32_ne0.mp z e⟩
  unfold uKm fcl aM
  by_cases c : t = 0
  · have c' := h0.mp c
    rw [if_pos c]
    show (sd a sg, sd a sg, 2 * (sg * nu.toInt - le)) = _
    rw [c', Int.mul_zero, if_neg (by omega), if_pos rfl, if_pos hs]
  · have c' : t.toInt ≠ 0 := fun e => c (h0.mpr e)
    rw [if_neg c]
    show (sd a sg, sd b (-sg * t.toInt), sg * nu.toInt - le) = _
    have hn : -sg * t.toInt ≠ 0 := by
      rcases hs with rfl | rfl <;> rcases ht with e | e | e <;> rw [e] <;> omega
    rw [if_neg (fun z => hn z.2), if_neg hn, if_neg (by omega)]
section REL
variable {ks : Nat → Nat} {qs : List Nat} {T n h0 c W : Nat} {B : Int} {L : List oLm}
/-- atMost() of a limit with one NAME at least -/
theorem r_atL {τ : zSt} {a b : Nat} {ta tb : Int32} {num : Int64} (hc : c ≤ 60) (ha : a < c) (hb : b < c) (hB : B < 1125899906842624) (hnum : -B ≤ 2 * num.toInt ∧ 2 * num.toInt ≤ B) (hta : -2 ≤ ta.toInt ∧ ta.toInt ≤ 2) (htb : -2 ≤ tb.toInt ∧ tb.toInt ≤ 2) (hz : ¬ (ta = 0 ∧ tb = 0)) (hab : ta ≠ 0 → tb ≠ 0 → a ≠ b) (h : rTc B (2 * c) (L.map rnd) (τ.2.2.2 87)) : ∃ m', zF h0 qs ks T (n + 2) 88 [.ref h0, .ref (qs.getD 87 0), .int (nI a), .int ta, .int (nI b), .int tb, .long num] τ = some (some (.int 1), zG τ 87 m') ∧ rTc B (2 * c) ((aM a ta.toInt b tb.toInt (-num.toInt) :: L).map rnd) m' := by
  have e := r_atm87 (h0 := h0) (qs := qs) (ks := ks) (T := T) (n := n) (τ := τ) (a := a) (b := b) (ta := ta) (tb := tb) (num := num) (m := τ.2.2.2 87) (by omega) (by omega)
  rw [if_neg hz, show zG τ 87 (τ.2.2.2 87) = τ from zG_id τ 87] at e
  exact ⟨_, e, oAt_rT rfl (by omega) ha hb hB hnum hta htb hz hab h⟩
end REL
