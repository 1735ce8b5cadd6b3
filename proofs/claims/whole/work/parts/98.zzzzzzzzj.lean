/-! INPUTS: give() of both -/
section INT
variable {f pp ee kk : Nat → Int32} {is : List (Nat × Nat)} {e : tT}
theorem mIn_ne : ∀ (xs : List (Nat × Nat)) (s : mS) (u : Nat), u ∉ xs.map Prod.fst → (mIn xs s).2.2.1 u = s.2.2.1 u
  | [], _, _, _ => rfl
  | x :: xs, s, u, h => by
    rw [List.map_cons, List.mem_cons, not_or] at h
    rw [mIn, mIn_ne xs _ u h.2]
    exact mUp_ne _ _ h.1
theorem mIn_at : ∀ (xs : List (Nat × Nat)) (s : mS), (xs.map Prod.fst).Nodup → ∀ (i : Nat) (y : Nat × Nat), xs[i]? = some y → (mIn xs s).2.2.1 y.1 = mB y.2
  | [], _, _, i, y, h => by cases h
  | x :: xs, s, hn, 0, y, h => by
    have h : some x = some y := h
    injection h with h
    subst h
    rw [mIn, mIn_ne xs _ _ (List.nodup_cons.mp hn).1]
    exact mUp_at _ _ _
  | x :: xs, s, hn, i + 1, y, h => by
    rw [mIn]
    exact mIn_at xs _ (List.nodup_cons.mp hn).2 i y h
/-- an INPUT's type is what is written -/
theorem in_ty (nd : (is.map Prod.fst ++ tEv e).Nodup) {i : Nat} {y : Nat × Nat} (h : is[i]? = some y) : (mEnd f pp ee is e).2.2.1 y.1 = mB y.2 := by
  obtain ⟨n1, n2, n3⟩ := List.nodup_append.mp nd
  have hm : y.1 ∈ is.map Prod.fst := List.mem_map_of_mem (List.mem_of_getElem? h)
  unfold mEnd
  rw [(mLe.e e _ _).2.2 y.1 (fun z => n3 _ hm _ (tW_ev e _ z) rfl)]
  exact mIn_at is mI0 n1 i y h
theorem cKd_in {k : Nat} (h : k ≤ 2) : cKd (yK (yB k)) = iCd k := by
  have : k = 0 ∨ k = 1 ∨ k = 2 := by omega
  rcases this with rfl | rfl | rfl <;> rfl
end INT
section PGN
variable {κ : oKv} {T n sz len cnt lo : Nat} {kk pp ee f fc : Nat → Int32} {xs : List tQ} {is : List (Nat × Nat)} {e : tT} {α : Nat → tY} {B : Nat → Nat} {p : Nat} {V : oSt} {D : cDt} {at2 cd' : Nat} {am2 : Int32} {nm : Nat → Option Nat} {e0 : Nat} {fb fr fz fn : Nat → Int32} {g : gG} {ρ : Nat → tY} {lv : Int32} {σ : oSt}
/-- what the class reads of an INPUT -/
theorem pg_in (hV : pgV κ T sz len cnt kk pp ee fc xs is e B p V D at2 cd' am2 nm e0 fb fr fz fn) (hS : pgS κ T lo cnt kk pp ee f fc is e α B p V D nm e0 g ρ lv σ) (hB : ∃ w r v ka pa ea, B = pA w r v ka pa ea p) (hG : pG kk pp cnt is e) (hκ : κ.2.2.1 < sz) (hR : oRm sz σ) : ofd σ (some p) 9 9 = some (.int (nI is.length)) ∧ ovr (ofd σ (some p) 9 2) = some (some (p + 2)) ∧ oob σ (some (p + 2)) 1 = some (p + 2) ∧ ∀ i y, is[i]? = some y → ∃ b, oF κ T (n + 3) 234 [va_rf (some (p + 2)), .int (nI i)] σ = some (some (va_rf (some b)), σ) ∧ ocs σ (some b) 6 = true ∧ ofd σ (some b) 6 3 = some (.int (iCd y.2)) := by
  obtain ⟨v1, v2, v3, v4, v5, v6, ⟨v7, v8, v9⟩, hH⟩ := hV
  obtain ⟨⟨h1, h2, h3, h4⟩, hl, hy, hn, hX, he, hc⟩ := hS
  obtain ⟨w, r, v, ka, pa, ea, rfl⟩ := hB
  have vp : V.1 p = some (.inr (9, cPs (pA w r v ka pa ea p) (nI xs.length) (nI is.length) (.ref e0) at2 cd' 0 am2 (-1) (-1) (-1))) := v1.2.1
  have sp := h3 p _ hl vp (fun fs z => by cases z) (fun fs z => by cases z) (fun _ _ z => by cases z <;> decide) (fun fs z => by cases z)
  obtain ⟨mc, hls⟩ := v1.1.2.2.2.1.1
  have lt : ∀ a c, V.1 a = some c → a < V.2.1 := fun a c e => by
    by_cases z : a < V.2.1
    · exact z
    · rw [h4 a (by omega)] at e; cases e
  have e8 := hls.1
  have s8 : σ.1 (p + 2) = V.1 (p + 2) := (h3 (p + 2) _ (by omega) e8 (fun fs z => by cases z) (fun fs z => by cases z) (fun _ _ z => by cases z <;> decide) (fun fs z => by cases z)).trans e8.symm
  have sd : σ.1 D.1.1 = V.1 D.1.1 := by
    have kn : σ.1 κ.2.2.1 = none := hR.1 _ hκ
    rcases hls.2.1 with ⟨-, -, z1, z2⟩ | ⟨z, -⟩
    · rw [z2, z1]; exact kn
    · rcases v8 with q | q
      · exact (h3 D.1.1 _ (by omega) z (fun fs w => by cases w) (fun fs w => by cases w) (fun _ _ z => by cases z <;> decide) (fun fs z => by cases z)).trans z.symm
      · rw [q, v1.1.1.2.1 _ hκ] at z; cases z
  have told : ∀ k u, (is.map Prod.fst ++ tW e)[k]? = some u → ∃ b gs, D.2.1 k = some b ∧ σ.1 b = some (.inr (6, gs)) ∧ gs[3]? = some (.int (cKd (yK ((mEnd f pp ee is e).2.2.1 u α)))) := fun k u hk => by
    obtain ⟨b, fs, c, gs, b1, -, -, b4, -, -, -, b5⟩ := hn u (List.mem_of_getElem? hk)
    exact ⟨b, gs, (v6 k u hk).trans b1, b4, b5⟩
  rw [v5] at hls
  have ls : cLs κ σ (p + 2) D.1.1 D.1.2.2.1 (is.map Prod.fst ++ tW e).length mc D.2.1 6 := by
    obtain ⟨z1, z2, z3⟩ := hls
    refine ⟨s8.trans z1, ?_, fun j hj => ?_⟩
    · rw [sd]; exact z2
    · obtain ⟨b, gs, d1, d2, -⟩ := told j _ (List.getElem?_eq_getElem hj)
      exact ⟨b, gs, d1, d2⟩
  refine ⟨by rw [ofd_at sp]; rfl, by rw [ofd_at sp]; rfl, oob_at ls.1, fun i y hi => ?_⟩
  have hil : i < is.length := by
    by_cases z : i < is.length
    · exact z
    · rw [List.getElem?_eq_none (by omega)] at hi; cases hi
  have hL : (is.map Prod.fst ++ tW e)[i]? = some y.1 := by
    rw [List.getElem?_append_left (by rw [List.length_map]; exact hil), List.getElem?_map, hi]
    rfl
  obtain ⟨b, gs, d1, d2, d3⟩ := told i y.1 hL
  have hlen : (is.map Prod.fst ++ tW e).length < 2 ^ 31 := by
    rw [← v5]
    have := v1.2.2.2.2.1
    have := v1.2.2.1
    have := v1.1.2.1.2.2.2.2.2
    omega
  refine ⟨b, ?_, ?_, ?_⟩
  · rw [← d1]
    exact l_get (ls.o hlen) (by rw [List.length_append, List.length_map]; omega)
  · simp only [ocs, d2]; rfl
  · rw [ofd_at d2, d3, in_ty hG.2.2.2.2.2.1 hi]
    show some (Value.int (cKd (yK (yB y.2)))) = _
    rw [cKd_in (hG.1.2 y (List.mem_of_getElem? hi)).2]
end PGN
section RGV
variable {ks : Nat → Nat} {qs : List Nat} {T n h0 : Nat} {call : zCl}
theorem r_84 {x : Nat} (hx : x < 6) : ∀ (d k t : Nat) (τ : zSt), k + d = 1000 → d < t → ∃ τ', l_give_84 T call h0 qs ks t (nI x) (nI k) τ = some (some (.int 1), τ') ∧ zCl0 τ τ' ∧ τ'.2.2.2 103 = τ.2.2.2 103 ∧ (∀ j, τ'.2.2.2 104 j = if 1000 * x + k ≤ j ∧ j < 1000 * x + 1000 then 0 else τ.2.2.2 104 j)
  | 0, k, t, τ, hk, ht => by
    obtain ⟨t, rfl⟩ : ∃ t', t = t' + 1 := ⟨t - 1, by omega⟩
    refine ⟨τ, ?_, ⟨rfl, rfl, rfl, fun _ _ _ => rfl⟩, rfl, fun j => (if_neg (by omega)).symm⟩
    rw [l_give_84, if_pos (show (1000 : Int32) ≤ nI k from nI_le (a := 1000) (by omega) (by omega))]
  | d + 1, k, t, τ, hk, ht => by
    obtain ⟨t, rfl⟩ : ∃ t', t = t' + 1 := ⟨t - 1, by omega⟩
    have e : (1000 : Int32) * nI x + nI k = nI (1000 * x + k) := by
      rw [show (1000 : Int32) = nI 1000 from rfl, nI_mul, nI_add]
    obtain ⟨τ', i1, ⟨i2, i3, i4, i5⟩, i6, i7⟩ := r_84 hx d (k + 1) t (zG τ 104 (vp_updL (τ.2.2.2 104) (1000 * x + k) 0)) (by omega) (by omega)
    refine ⟨τ', ?_, ⟨i2, i3, i4, fun k a b => (i5 k a b).trans (if_neg b)⟩, i6.trans rfl, fun j => ?_⟩
    · rw [l_give_84, if_neg (show ¬ (1000 : Int32) ≤ nI k from nI_ge (b := 1000) (by omega) (by decide)), e]
      simp only [zgd, zin_n (show 1000 * x + k < 6000 by omega) (by decide), if_true, nI_clamp (show 1000 * x + k < 2 ^ 31 by omega), zlet, nI_p1]
      exact i1
    · rw [i7 j, show (zG τ 104 (vp_updL (τ.2.2.2 104) (1000 * x + k) 0)).2.2.2 104 = vp_updL (τ.2.2.2 104) (1000 * x + k) 0 from rfl, vp_L]
      by_cases c : j = 1000 * x + k
      · rw [if_neg (by omega), if_pos c, if_pos (by omega)]
      · rw [if_neg c]
        by_cases c2 : 1000 * x + k ≤ j ∧ j < 1000 * x + 1000
        · rw [if_pos (by omega), if_pos c2]
        · rw [if_neg (by omega), if_neg c2]
/-- give(i, v) of the reference where it is taken -/
theorem r_gv {x kd : Nat} {v : Int32} {τ : zSt} (hT : 1010 ≤ T) (hx : x < 6) (h66 : τ.1 66 = 1) {l : Nat} (h42 : τ.1 42 = nI l) (hl : x < l) (hl6 : l ≤ 6) (h28 : τ.2.2.1 28 x = nI kd) (hk : kd ≤ 2) (hv : kd = 2 → ¬ v < 0 ∧ v ≤ 1000) : ∃ τ', zF h0 qs ks T (n + 1) 119 [.ref h0, .int (nI x), .int v] τ = some (some (.int 1), τ') ∧ zCl0 τ τ' ∧ τ'.2.2.2 103 = vp_updL (τ.2.2.2 103) x (if kd = 1 then (if v = 0 then 0 else 1) else v.toInt64) ∧ (∀ j, τ'.2.2.2 104 j = if kd = 2 ∧ 1000 * x ≤ j ∧ j < 1000 * x + 1000 then 0 else τ.2.2.2 104 j) := by
  have s28 : ∀ w : Int64, (zG τ 103 (vp_updL (τ.2.2.2 103) x w)).2.2.1 28 x = nI kd := fun w => h28
  have go : ∀ w : Int64, ∃ τ', j_give_71 T (zF h0 qs ks T n) h0 qs ks (nI x) (nI x) w τ = some (some (.int 1), τ') ∧ zCl0 τ τ' ∧ τ'.2.2.2 103 = vp_updL (τ.2.2.2 103) x w ∧ (∀ j, τ'.2.2.2 104 j = if kd = 2 ∧ 1000 * x ≤ j ∧ j < 1000 * x + 1000 then 0 else τ.2.2.2 104 j) := fun w => by
    unfold j_give_71
    simp only [zgd, zin_n hx (by decide), if_true, nI_clamp (show x < 2 ^ 31 by omega), zlet, s28]
    by_cases c2 : kd = 2
    · subst c2
      obtain ⟨τ', i1, ⟨i2, i3, i4, i5⟩, i6, i7⟩ := r_84 (ks := ks) (qs := qs) (h0 := h0) (T := T) (call := zF h0 qs ks T n) hx 1000 0 T (zG τ 103 (vp_updL (τ.2.2.2 103) x w)) (by omega) (by omega)
      refine ⟨τ', ?_, ⟨i2, i3, i4, fun k a b => (i5 k a b).trans (if_neg a)⟩, i6.trans rfl, fun j => ?_⟩
      · rw [if_pos (by decide)]; exact i1
      · rw [i7 j]
        by_cases c : 1000 * x ≤ j ∧ j < 1000 * x + 1000
        · rw [if_pos (by omega), if_pos ⟨rfl, c⟩]
        · rw [if_neg (by omega), if_neg (fun z => c z.2)]
          rfl
    · rw [if_neg (show ¬ nI kd = 2 from fun z => c2 (nI_inj' (b := 2) (by omega) (by decide) z))]
      exact ⟨_, rfl, ⟨rfl, rfl, rfl, fun k a b => if_neg a⟩, rfl, fun j => by rw [if_neg (fun z => c2 z.1)]; rfl⟩
  rw [zE_give]
  unfold b_give j_give_42
  rw [h66, if_neg (by decide), if_neg (nI_pos (by omega)), h42, if_neg (nI_ge hl (by omega))]
  simp only [zgd, zin_n hx (by decide), if_true, nI_clamp (show x < 2 ^ 31 by omega), h28]
  by_cases c2 : kd = 2
  · subst c2
    obtain ⟨v0, v1⟩ := hv rfl
    obtain ⟨τ', i1, i2, i3, i4⟩ := go v.toInt64
    refine ⟨τ', ?_, i2, ?_, i4⟩
    · rw [if_pos (by decide), if_neg v0, if_pos v1, if_neg (by decide)]
      exact i1
    · rw [if_neg (by decide)]; exact i3
  · rw [if_neg (show ¬ nI kd = 2 from fun z => c2 (nI_inj' (b := 2) (by omega) (by decide) z))]
    by_cases c1 : kd = 1
    · subst c1
      rw [if_pos (by decide), if_pos rfl]
      by_cases c0 : v = 0
      · rw [if_pos c0, if_pos c0]; exact go 0
      · rw [if_neg c0, if_neg c0]; exact go 1
    · rw [if_neg (show ¬ nI kd = 1 from fun z => c1 (nI_inj' (b := 1) (by omega) (by decide) z)), if_neg c1]
      exact go v.toInt64
end RGV
