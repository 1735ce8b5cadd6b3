/-! run(), the reference: arrays and lists -/
theorem x_i32 {x : Int64} {j : Nat} (h : x.toInt = (j : Int)) (hj : j < 2 ^ 31) : x.toInt32 = nI j ∧ xmIx x = j := by
  have e : x = xmNi j := Int64.toInt_inj.mp (by rw [h, xmNi_int hj])
  rw [e]
  exact ⟨xmNi_32 j, xmNi_ix hj⟩
/-- where arrays begin -/
def xmOf (l : List (List Int64)) (i : Nat) : Nat := ((l.take i).map List.length).sum
theorem xmOf_s {l : List (List Int64)} {i : Nat} {a : List Int64} (h : l[i]? = some a) : xmOf l (i + 1) = xmOf l i + a.length := by
  unfold xmOf
  have hi := xget_lt h
  rw [List.take_add_one, h, List.map_append, List.sum_append]
  rfl
theorem xmOf_le : ∀ (k : Nat) {l : List (List Int64)} {i : Nat}, xmOf l i ≤ xmOf l (i + k)
  | 0, l, i => Nat.le_refl _
  | k + 1, l, i => by
    have q := xmOf_le k (l := l) (i := i)
    cases h : l[i + k]? with
    | none =>
      have hl : l.length ≤ i + k := by
        by_cases c : l.length ≤ i + k
        · exact c
        · rw [List.getElem?_eq_getElem (by omega)] at h; cases h
      have e : xmOf l (i + (k + 1)) = xmOf l (i + k) := by
        unfold xmOf
        rw [List.take_of_length_le (by omega), List.take_of_length_le hl]
      omega
    | some a =>
      have e := xmOf_s h
      rw [show i + (k + 1) = i + k + 1 by omega]
      omega
theorem xmOf_dj {l : List (List Int64)} {i j : Nat} {a b : List Int64} (hi : l[i]? = some a) (hj : l[j]? = some b) {p q : Nat} (hp : p < a.length) (hq : q < b.length) (e : xmOf l i + p = xmOf l j + q) : i = j ∧ p = q := by
  have s1 := xmOf_s hi
  have s2 := xmOf_s hj
  rcases Nat.lt_trichotomy i j with c | c | c
  · obtain ⟨k, rfl⟩ : ∃ k, j = i + 1 + k := ⟨j - (i + 1), by omega⟩
    have := xmOf_le k (l := l) (i := i + 1)
    omega
  · subst c
    exact ⟨rfl, by omega⟩
  · obtain ⟨k, rfl⟩ : ∃ k, i = j + 1 + k := ⟨i - (j + 1), by omega⟩
    have := xmOf_le k (l := l) (i := j + 1)
    omega
theorem xmOf_all (h : xmHp) : xmOf h.2.1 h.2.1.length = xmTot h := by
  unfold xmOf xmTot
  rw [List.take_length]
theorem xmOf_bd {h : xmHp} {i : Nat} {a : List Int64} (hi : h.2.1[i]? = some a) : xmOf h.2.1 i + a.length ≤ xmTot h := by
  have s := xmOf_s hi
  have hl := xget_lt hi
  have q := xmOf_le (h.2.1.length - (i + 1)) (l := h.2.1) (i := i + 1)
  rw [show i + 1 + (h.2.1.length - (i + 1)) = h.2.1.length by omega, xmOf_all] at q
  omega
theorem xmOf_set (l : List (List Int64)) (i k : Nat) (a : List Int64) (h : (l.getD i []).length = a.length) : xmOf (l.set i a) k = xmOf l k := by
  unfold xmOf
  rw [List.take_set]
  by_cases c : i < k
  · refine sum_set _ _ _ ?_
    rw [← h]
    rw [List.getD_eq_getElem?_getD, List.getD_eq_getElem?_getD, List.getElem?_take, if_pos c]
  · rw [List.set_eq_of_length_le (by rw [List.length_take]; omega)]
section XRJ
variable {pp kk ee f : Nat → Int32} {tE tN : Nat → tY} {L : List Nat} {V τ : zSt} {N S P A c n cnt len : Nat} {h : xmHp} {fr : List xmFr} {ks : Nat → Nat} {qs : List Nat} {T h0 m : Nat}
/-- what only arrays and lists see -/
theorem rXa.y {τ' : zSt} {h' : xmHp} (I : rXa pp V N S P A τ c n h fr) (F : xFm V τ') (e1 : h'.1 = h.1) (hc : τ'.1 180 = nI h'.2.1.length ∧ τ'.1 181 = nI (xmTot h') ∧ τ'.1 188 = nI h'.2.2.length) (hf : ∀ j, j ∈ [171, 176, 189, 190, 191, 164] → τ'.1 j = τ.1 j) (hr : ∀ k, (105 ≤ k ∧ k ≤ 112) ∨ (116 ≤ k ∧ k ≤ 118) → τ'.2.2.1 k = τ.2.2.1 k) (h8 : τ'.2.2.2 108 = τ.2.2.2 108) (Y : rYl τ' h') : rXa pp V N S P A τ' c n h' fr := by
  obtain ⟨-, ⟨a1, a2, a3, a4, a5⟩, b, w, ⟨d, d1, d2⟩, e2, e3, e4⟩ := I
  have K : ∀ nf nd, xKp c nf nd τ τ' := fun nf nd => ⟨fun i _ => ⟨by rw [hr 105 (by omega)], by rw [hr 106 (by omega)], by rw [hr 107 (by omega)], by rw [h8]⟩, fun k i x1 x2 _ => by rw [hr k (by omega)], fun k i x1 x2 _ => by rw [hr k (by omega)]⟩
  have b' : rFs pp V N S P A τ' c h' := fun i fn ei => b.kp (K _ 0) (Nat.le_refl _) i fn (by rw [← e1]; exact ei)
  exact ⟨F, ⟨(hf _ (by decide)).trans a1, by rw [hf _ (by decide), e1]; exact a2, hc⟩, b', Y, ⟨d, (hf _ (by decide)).trans d1, rFk.kp (K 0 d) (Nat.le_refl _) fr d (Nat.le_refl _) d2⟩, (hf _ (by decide)).trans e2, (hf _ (by decide)).trans e3, (hf _ (by decide)).trans e4⟩
/-- set -/
theorem rYl.set {i j : Nat} {a : List Int64} {x : Int64} (Y : rYl τ h) (hi : h.2.1[i]? = some a) (hj : j < a.length) : rYl (zG τ 115 (vp_updL (τ.2.2.2 115) (xmOf h.2.1 i + j) x)) (h.1, h.2.1.set i (a.set j x), h.2.2) := by
  have hil := xget_lt hi
  have ga : (h.2.1.getD i []) = a := by rw [List.getD_eq_getElem?_getD, hi]; rfl
  refine ⟨fun i' b hb => ?_, fun i' b hb => Y.2 i' b hb⟩
  have hb : (h.2.1.set i (a.set j x))[i']? = some b := hb
  have eo : ((((h.2.1.set i (a.set j x)).take i')).map List.length).sum = xmOf h.2.1 i' := xmOf_set h.2.1 i i' (a.set j x) (by rw [ga, List.length_set])
  show ((τ.2.2.1 113 i' = nI ((((h.2.1.set i (a.set j x)).take i')).map List.length).sum ∧ τ.2.2.1 114 i' = nI b.length) ∧ ∀ (k : Nat) (x' : Int64), b[k]? = some x' → (zG τ 115 (vp_updL (τ.2.2.2 115) (xmOf h.2.1 i + j) x)).2.2.2 115 (((((h.2.1.set i (a.set j x)).take i')).map List.length).sum + k) = x')
  rw [eo, zG_at]
  by_cases c : i' = i
  · subst c
    rw [List.getElem?_set_self hil] at hb
    injection hb with hb
    subst hb
    obtain ⟨⟨y1, y2⟩, y3⟩ := Y.1 i' a hi
    refine ⟨⟨y1, by rw [List.length_set]; exact y2⟩, fun k x' ex => ?_⟩
    rw [vp_L]
    by_cases ck : k = j
    · subst ck
      rw [List.getElem?_set_self hj] at ex
      injection ex with ex
      rw [if_pos rfl, ex]
    · rw [List.getElem?_set_ne (fun w => ck w.symm)] at ex
      rw [if_neg (by omega)]
      exact y3 k x' ex
  · rw [List.getElem?_set_ne (fun w => c w.symm)] at hb
    obtain ⟨⟨y1, y2⟩, y3⟩ := Y.1 i' b hb
    refine ⟨⟨y1, y2⟩, fun k x' ex => ?_⟩
    rw [vp_L, if_neg (fun w => c (xmOf_dj hb hi (xget_lt ex) hj w).1)]
    exact y3 k x' ex
/-- zeros -/
theorem r_na69 {x : Int64} {z q : Nat} (hx : x.toInt = (z : Int)) (hz : z ≤ 1000) (hq : q ≤ 10000) : ∀ (r j t : Nat) (τ : zSt), r + j = z → r < t → τ.1 181 = nI q → ∃ g, l_newArray_69 T (zF h0 qs ks T m) h0 qs ks t x (nI j) τ = some (some (.int (τ.1 180 + 1 - 1)), zI (zI (zG τ 115 g) 181 (nI (q + z))) 180 (τ.1 180 + 1)) ∧ (∀ i, i < q + j ∨ q + z ≤ i → g i = τ.2.2.2 115 i) ∧ ∀ i, q + j ≤ i → i < q + z → g i = 0
  | 0, j, t, τ, e, ht, h181 => by
    obtain ⟨t, rfl⟩ : ∃ s, t = s + 1 := ⟨t - 1, by omega⟩
    have ej : j = z := by omega
    subst ej
    have e1 : (0 ≤ lg_cmp ((nI j).toInt64) x) := (l_ge _ _).mpr (by rw [hx, Int32.toInt_toInt64, nI_toInt (by omega)]; exact Int.le_refl _)
    have e2 : x.toInt32 = nI j := (x_i32 hx (by omega)).1
    rw [l_newArray_69, if_pos e1]
    refine ⟨τ.2.2.2 115, ?_, fun i _ => rfl, fun i h1 h2 => by omega⟩
    have ez : zG τ 115 (τ.2.2.2 115) = τ := zG_id τ 115
    rw [ez]
    have e3 : ∀ w, (zI τ 181 w).1 180 = τ.1 180 := fun w => zI_ne (by decide)
    simp only [zlet, h181, e2, nI_add, e3, zI_eq]
  | r + 1, j, t, τ, e, ht, h181 => by
    obtain ⟨t, rfl⟩ : ∃ s, t = s + 1 := ⟨t - 1, by omega⟩
    have e1 : ¬ (0 ≤ lg_cmp ((nI j).toInt64) x) := fun w => by
      have := (l_ge _ _).mp w
      rw [hx, Int32.toInt_toInt64, nI_toInt (by omega)] at this
      omega
    rw [l_newArray_69, if_neg e1, h181, nI_add, zgd_at (zin_n (by omega) (by decide)), nI_clamp (by omega), zlet, nI_p1]
    obtain ⟨g, g1, g2, g3⟩ := r_na69 hx hz hq r (j + 1) t (zG τ 115 (vp_updL (τ.2.2.2 115) (q + j) 0)) (by omega) (by omega) h181
    refine ⟨g, ?_, fun i hi => ?_, fun i h1 h2 => ?_⟩
    · rw [g1, zG_zG]
      rfl
    · rw [g2 i (by omega), zG_at, vp_L, if_neg (by omega)]
    · by_cases c : i = q + j
      · rw [g2 i (by omega), zG_at, vp_L, if_pos c]
      · exact g3 i (by omega) h2
end XRJ
