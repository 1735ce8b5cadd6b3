/-! a NUMBER's value, on both sides -/
/-- the value of the digits from i to e, behind v -/
def nVal (g : Nat → Int32) (e : Nat) : Nat → Nat → Int32 → Int32
  | 0, _, v => v
  | m + 1, i, v => if i < e then nVal g e m (i + 1) (10 * v + g i - 48) else v
section ONV
variable {κ : oKv} {ks : Nat → Nat} {qs : List Nat} {T n h0 len cap c a e : Nat} {σ : oSt} {τ : zSt} {w ka pa ea r v : Nat} {f kk pp ee : Nat → Int32} {cn bd : Int32}
theorem n_loop (hw : σ.1 w = some (.inr (13, [.ref r, .ref ka, .ref pa, .ref ea, .int cn, .int bd]))) (hea : σ.1 ea = some (.inl (.int, cap, .inl ee))) (h : oTx κ σ (some r) len f) (hr : oSt' κ σ (some r) = some r) (hc : c < cap) (hcap : cap ≤ 2001) (he : ee c = nI e) (hel : e ≤ len) (hlen : len ≤ 2000) : ∀ (t i : Nat) (x : Int32), i ≤ e → e < i + t → ol_X11_numberOf_9 T (oF κ T (n + 4)) κ t (some w) (nI c) x (nI i) σ = some (some (.int (nVal (fun j => f j &&& 255) e t i x)), σ)
  | 0, i, x, _, ht => by omega
  | t + 1, i, x, hi, ht => by
    have z1 : zin (nI c) cap = true := decide_eq_true ⟨by rw [nI_toInt (by omega)]; omega, by rw [nI_toInt (by omega)]; omega⟩
    rw [ol_X11_numberOf_9, nVal, ofd_at hw]
    simp only [List.getElem?_cons_succ, List.getElem?_cons_zero, ovr, obn, oai_at hea z1, nI_clamp (show c < 2 ^ 31 by omega), he]
    by_cases c1 : i < e
    · rw [if_neg (nI_ge c1 (by omega)), if_pos c1, ofd_at hw]
      simp only [List.getElem?_cons_zero, ovr, obn, hr, s_chr (n := n) h (show i < len by omega), oin, nI_1, Int32.mul_comm x 10]
      exact n_loop hw hea h hr hc hcap he hel hlen t (i + 1) _ (by omega) (by omega)
    · rw [if_pos (nI_le (by omega) (by omega)), if_neg c1]
theorem n_num (hw : σ.1 w = some (.inr (13, [.ref r, .ref ka, .ref pa, .ref ea, .int cn, .int bd]))) (hpa : σ.1 pa = some (.inl (.int, cap, .inl pp))) (hea : σ.1 ea = some (.inl (.int, cap, .inl ee))) (h : oTx κ σ (some r) len f) (hr : oSt' κ σ (some r) = some r) (hc : c < cap) (hcap : cap ≤ 2001) (hp : pp c = nI a) (he : ee c = nI e) (hae : a ≤ e) (hel : e ≤ len) (hlen : len ≤ 2000) (hT : 2010 ≤ T) : oF κ T (n + 5) 110 [va_rf (some w), .int (nI c)] σ = some (some (.int (nVal (fun j => f j &&& 255) e T a 0)), σ) := by
  have z1 : zin (nI c) cap = true := decide_eq_true ⟨by rw [nI_toInt (by omega)]; omega, by rw [nI_toInt (by omega)]; omega⟩
  rw [oE_X11_numberOf]
  unfold ob_X11_numberOf
  rw [ofd_at hw]
  simp only [List.getElem?_cons_succ, List.getElem?_cons_zero, ovr, obn, oai_at hpa z1, nI_clamp (show c < 2 ^ 31 by omega), hp]
  exact n_loop hw hea h hr hc hcap he hel hlen T a 0 hae (by omega)
theorem rn_loop {call : zCl} (hc : c < 2010) (he : τ.2.2.1 5 c = nI e) (hx : τ.2.2.1 1 = f) (hel : e ≤ 2000) : ∀ (t i : Nat) (x : Int32), i ≤ e → e < i + t → l_numberOf_9 T call h0 qs ks t (nI c) x (nI i) τ = some (some (.int (nVal f e t i x)), τ)
  | 0, i, x, _, ht => by omega
  | t + 1, i, x, hi, ht => by
    have z1 : zin (nI c) 2010 = true := decide_eq_true ⟨by rw [nI_toInt (by omega)]; omega, by rw [nI_toInt (by omega)]; omega⟩
    rw [l_numberOf_9, nVal]
    simp only [zgd, z1, if_true, nI_clamp (show c < 2 ^ 31 by omega), he]
    by_cases c1 : i < e
    · have z2 : zin (nI i) 2000 = true := decide_eq_true ⟨by rw [nI_toInt (by omega)]; omega, by rw [nI_toInt (by omega)]; omega⟩
      rw [if_neg (nI_ge c1 (by omega)), if_pos c1]
      simp only [z2, if_true, nI_clamp (show i < 2 ^ 31 by omega), hx, nI_1]
      exact rn_loop hc he hx hel t (i + 1) _ (by omega) (by omega)
    · rw [if_pos (nI_le (by omega) (by omega)), if_neg c1]
theorem rn_num (hc : c < 2010) (hp : τ.2.2.1 4 c = nI a) (he : τ.2.2.1 5 c = nI e) (hx : τ.2.2.1 1 = f) (hae : a ≤ e) (hel : e ≤ 2000) (hT : 2010 ≤ T) : zF h0 qs ks T (n + 1) 16 [.ref h0, .int (nI c)] τ = some (some (.int (nVal f e T a 0)), τ) := by
  have z1 : zin (nI c) 2010 = true := decide_eq_true ⟨by rw [nI_toInt (by omega)]; omega, by rw [nI_toInt (by omega)]; omega⟩
  rw [zE_numberOf]
  unfold b_numberOf
  simp only [zgd, z1, if_true, nI_clamp (show c < 2 ^ 31 by omega), hp]
  exact rn_loop hc he hx hel T a 0 hae (by omega)
/-- where the letters are alike the values are -/
theorem nVal_eq {g : Nat → Int32} : ∀ (m i : Nat) (x : Int32), (∀ j, i ≤ j → j < e → f j = g j) → nVal f e m i x = nVal g e m i x
  | 0, i, x, _ => rfl
  | m + 1, i, x, h => by
    rw [nVal, nVal]
    by_cases c1 : i < e
    · rw [if_pos c1, if_pos c1, h i (Nat.le_refl _) c1]
      exact nVal_eq m (i + 1) _ (fun j h1 h2 => h j (by omega) h2)
    · rw [if_neg c1, if_neg c1]
end ONV
