/-! type(): how it begins and ends, the reference -/
theorem tBt_id (c : Int32) : vp_nar .byte (tBt c) = tBt c := by
  show (c.toInt8.toInt32.toInt8.toInt32).toInt8.toInt32 = c.toInt8.toInt32.toInt8.toInt32
  rw [Int8.toInt8_toInt32, Int8.toInt8_toInt32]
/-- all but field 5 and row 2 -/
def rOu (τ τ' : zSt) : Prop := (∀ k, k ≠ 5 → τ'.1 k = τ.1 k) ∧ τ'.2.1 = τ.2.1 ∧ (∀ k, k ≠ 2 → τ'.2.2.1 k = τ.2.2.1 k) ∧ τ'.2.2.2 = τ.2.2.2
/-- all but fields 158, 160 and row 102, which is emptied -/
def rEm (τ τ' : zSt) : Prop := τ'.1 158 = 0 ∧ τ'.1 160 = 0 ∧ (∀ j, j < 800 → τ'.2.2.1 102 j = -1) ∧ (∀ k, k ≠ 158 → k ≠ 160 → τ'.1 k = τ.1 k) ∧ τ'.2.1 = τ.2.1 ∧ (∀ k, k ≠ 102 → τ'.2.2.1 k = τ.2.2.1 k) ∧ τ'.2.2.2 = τ.2.2.2
section TRT
variable {ks : Nat → Nat} {qs : List Nat} {T n h0 x : Nat} {τ : zSt} {L : List Int32} {call : zCl}
theorem s_ty84 (hl : L.length ≤ 16000) : ∀ (m i F : Nat) (τ : zSt), i + m = L.length → m < F → τ.1 158 = nI L.length → (∀ j c, L[j]? = some c → τ.2.2.1 101 j = tBt c) → (∀ j c, j < i → L[j]? = some c → τ.2.2.1 2 j = tBt c) → ∃ τ', l_type_84 T call h0 qs ks F (nI i) τ = some (some (.int (nI L.length)), τ') ∧ τ'.1 5 = nI L.length ∧ (∀ j c, L[j]? = some c → τ'.2.2.1 2 j = tBt c) ∧ rOu τ τ'
  | 0, i, F, τ, hi, hF, h1, h2, h3 => by
    obtain ⟨F, rfl⟩ : ∃ u, F = u + 1 := ⟨F - 1, by omega⟩
    rw [l_type_84, h1, if_pos (nI_le (by omega) (by omega)), zlet, zI_eq]
    exact ⟨_, rfl, zI_eq _ _ _, fun j c e => h3 j c (by have := xget_lt e; omega) e, fun k hk => zI_ne hk, rfl, fun _ _ => rfl, rfl⟩
  | m + 1, i, F, τ, hi, hF, h1, h2, h3 => by
    obtain ⟨F, rfl⟩ : ∃ u, F = u + 1 := ⟨F - 1, by omega⟩
    have zi : zin (nI i) 16000 = true := zin_n (by omega) (by decide)
    obtain ⟨c, hc⟩ : ∃ c, L[i]? = some c := ⟨_, List.getElem?_eq_getElem (by omega)⟩
    have r2 : (zA τ 2 (upd (τ.2.2.1 2) i (tBt c))).2.2.1 2 = upd (τ.2.2.1 2) i (tBt c) := zA_eq _ _ _
    obtain ⟨τ', q1, q2, q3, q4, q5, q6, q7⟩ := s_ty84 hl m (i + 1) F (zA τ 2 (upd (τ.2.2.1 2) i (tBt c))) (by omega) (by omega) h1 (fun j c e => by rw [zA_ne (by decide)]; exact h2 j c e) (fun j c' hj e => by
      rw [r2]
      unfold upd
      by_cases w : j = i
      · rw [if_pos w]
        rw [w, hc] at e
        injection e with e
        rw [e]
      · rw [if_neg w]
        exact h3 j c' (by omega) e)
    rw [l_type_84, h1, if_neg (nI_ge (by omega) (by omega)), zgd_at zi, zgd_at zi, zlet, nI_clamp (by omega), h2 i c hc, tBt_id, nI_p1, q1]
    exact ⟨τ', rfl, q2, q3, q4, q5, fun k hk => (q6 k hk).trans (zA_ne hk), q7⟩
theorem s_ty40 : ∀ (m i F : Nat) (τ : zSt), i + m = 800 → m < F → τ.1 158 = 0 → τ.1 160 = 0 → (∀ j, j < i → τ.2.2.1 102 j = -1) → ∃ τ1, rEm τ τ1 ∧ l_type_40 T call h0 qs ks F (nI x) (nI i) τ = zgd (zin (nI x) 700) (zcv (call 117 [.ref h0, .int (τ1.2.2.1 74 (nI x).toNatClampNeg)] τ1) fun s3 => if s3.1 158 ≤ 16000 then l_type_84 T call h0 qs ks T 0 s3 else some (some (.int (-1)), s3))
  | 0, i, F, τ, hi, hF, h1, h2, h3 => by
    obtain ⟨F, rfl⟩ : ∃ u, F = u + 1 := ⟨F - 1, by omega⟩
    rw [l_type_40, if_pos (show (800 : Int32) ≤ nI i from nI_le (a := 800) (by omega) (by omega))]
    exact ⟨τ, ⟨h1, h2, fun j hj => h3 j (by omega), fun _ _ _ => rfl, rfl, fun _ _ => rfl, rfl⟩, rfl⟩
  | m + 1, i, F, τ, hi, hF, h1, h2, h3 => by
    obtain ⟨F, rfl⟩ : ∃ u, F = u + 1 := ⟨F - 1, by omega⟩
    rw [l_type_40, if_neg (show ¬ (800 : Int32) ≤ nI i from nI_ge (b := 800) (by omega) (by omega)), zgd_at (zin_n (by omega) (by decide)), zlet, nI_clamp (by omega), nI_p1]
    obtain ⟨τ1, ⟨e1, e2, e3, e4, e5, e6, e7⟩, e⟩ := s_ty40 m (i + 1) F (zA τ 102 (upd (τ.2.2.1 102) i (-1))) (by omega) (by omega) h1 h2 (fun j hj => by
      rw [zA_eq]
      unfold upd
      by_cases w : j = i
      · rw [if_pos w]
      · rw [if_neg w]
        exact h3 j (by omega))
    exact ⟨τ1, ⟨e1, e2, e3, e4, e5, fun k hk => (e6 k hk).trans (zA_ne hk), e7⟩, e⟩
/-- **type() (118)** of a told NAME, once sayType() is known -/
theorem s_type {Q : zSt → zSt → Prop} (hT : 20000 ≤ T) (h66 : ¬ τ.1 66 = 0) (h67 : ¬ τ.1 67 = 0) {cnt : Nat} (h50 : τ.1 50 = nI cnt) (hc : cnt ≤ 700) (hx : x < cnt) (hL : L.length < 2 ^ 30) (H : ∀ τ1, rEm τ τ1 → ∃ τ2, zF h0 qs ks T n 117 [.ref h0, .int (τ1.2.2.1 74 x)] τ1 = some (none, τ2) ∧ τ2.1 158 = nI L.length ∧ (∀ j c, L[j]? = some c → j < 16000 → τ2.2.2.1 101 j = tBt c) ∧ Q τ1 τ2) : ∃ τ1 τ2, rEm τ τ1 ∧ Q τ1 τ2 ∧ (L.length ≤ 16000 → ∃ τ', zF h0 qs ks T (n + 1) 118 [.ref h0, .int (nI x)] τ = some (some (.int (nI L.length)), τ') ∧ τ'.1 5 = nI L.length ∧ (∀ j c, L[j]? = some c → τ'.2.2.1 2 j = tBt c) ∧ rOu τ2 τ') ∧ (16000 < L.length → zF h0 qs ks T (n + 1) 118 [.ref h0, .int (nI x)] τ = some (some (.int (-1)), τ2)) := by
  have st : zF h0 qs ks T (n + 1) 118 [.ref h0, .int (nI x)] τ = l_type_40 T (zF h0 qs ks T n) h0 qs ks T (nI x) (nI 0) (zI (zI τ 158 0) 160 0) := by
    rw [zE_type]
    unfold b_type
    rw [if_neg h66, if_neg h67, if_neg (nI_pos (by omega)), h50, if_pos (nI_lt hx (by omega)), zlet, zlet]
    rfl
  have a158 : (zI (zI τ 158 0) 160 0).1 158 = 0 := by rw [zI_ne (by decide), zI_eq]
  obtain ⟨τ1, ⟨e1, e2, e3, e4, e5, e6, e7⟩, e⟩ := s_ty40 (T := T) (call := zF h0 qs ks T n) (h0 := h0) (qs := qs) (ks := ks) (x := x) 800 0 T (zI (zI τ 158 0) 160 0) (by omega) (by omega) a158 (zI_eq _ _ _) (fun j hj => absurd hj (Nat.not_lt_zero _))
  have em : rEm τ τ1 := ⟨e1, e2, e3, fun k k1 k2 => by rw [e4 k k1 k2, zI_ne k2, zI_ne k1], e5, e6, e7⟩
  obtain ⟨τ2, H1, H2, H4, H5⟩ := H τ1 em
  rw [st, e, zgd_at (zin_n (by omega) (by decide)), nI_clamp (by omega), H1, zcv_at, H2]
  refine ⟨τ1, τ2, em, H5, fun hl => ?_, fun hl => ?_⟩
  · obtain ⟨τ', q1, q2, q3, q4⟩ := s_ty84 (T := T) (call := zF h0 qs ks T n) (h0 := h0) (qs := qs) (ks := ks) hl L.length 0 T τ2 (by omega) (by omega) H2 (fun j c e => H4 j c e (by have := xget_lt e; omega)) (fun j c hj => absurd hj (Nat.not_lt_zero _))
    rw [if_pos (show nI L.length ≤ (16000 : Int32) from nI_le (b := 16000) hl (by omega))]
    exact ⟨τ', q1, q2, q3, q4⟩
  · rw [if_neg (show ¬ nI L.length ≤ (16000 : Int32) from nI_ge (a := 16000) (by omega) (by omega))]
end TRT
