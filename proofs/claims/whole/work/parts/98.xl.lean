/-! the reference: a fault of grammar, must, name -/
/-- the state behind fault(k, x) -/
def rFl (σ : zSt) (k x : Int32) : zSt := if σ.1 11 = 0 then zI (zI σ 11 k) 12 x else σ
section ORF
variable {κ : oKv} {ks : Nat → Nat} {qs : List Nat} {T n h0 len sz : Nat} {σ : zSt} {f : Nat → Int32} {tx : Nat × String}
theorem r_flt (k x : Int32) : zF h0 qs ks T (n + 1) 3 [.ref h0, .int k, .int x] σ = some (none, rFl σ k x) := by
  rw [zE_fault]
  unfold b_fault rFl
  by_cases c : σ.1 11 = 0
  · rw [if_pos c, if_pos c]
    rfl
  · rw [if_neg c, if_neg c]
theorem r_form {c : Nat} (hc : c < 2010) (h10 : σ.1 10 = nI c) : zF h0 qs ks T (n + 2) 13 [.ref h0] σ = some (none, rFl σ 2 (σ.2.2.1 4 c)) := by
  have z1 : zin (nI c) 2010 = true := decide_eq_true ⟨by rw [nI_toInt (by omega)]; omega, by rw [nI_toInt (by omega)]; omega⟩
  rw [zE_form]
  unfold b_form
  simp only [h10, zgd, z1, if_true, nI_clamp (show c < 2 ^ 31 by omega), r_flt, zcv]
theorem r_must {c a e : Nat} (hf : lFacts κ ks sz) (hq : tx ∈ zKm) (hc : c < 2010) (h10 : σ.1 10 = nI c) (hx : σ.2.2.1 1 = f) (hp : σ.2.2.1 4 c = nI a) (he : σ.2.2.1 5 c = nI e) (hae : a ≤ e) (hel : e ≤ 2000) (hT : 2010 ≤ T) : zF h0 qs ks T (n + 4) 14 [.ref h0, .ref (ks tx.1)] σ = some (none, if (decide (σ.1 11 = 0) && isT tx.2 f (σ.2.2.1 3 c) a e) = true then zI σ 10 (nI (c + 1)) else rFl σ 2 (nI a)) := by
  rw [zE_must]
  unfold b_must
  rw [r_skip hf hq hc h10 hx hp he hae hel hT]
  simp only [zci]
  cases g : (decide (σ.1 11 = 0) && isT tx.2 f (σ.2.2.1 3 c) a e) with
  | true => rfl
  | false =>
    rw [if_pos (show b01 false = 0 from rfl), if_neg (show ¬ false = true by decide), if_neg (show ¬ false = true by decide), r_form (n := n + 1) hc h10, hp]
    simp only [zcv]
/-- name(): the word's number, or a fault -/
theorem r_nm {c : Nat} (hc : c < 2010) (h10 : σ.1 10 = nI c) : zF h0 qs ks T (n + 3) 15 [.ref h0] σ = if σ.1 11 = 0 then (if σ.2.2.1 3 c = 1 then some (some (.int (nI c)), zI σ 10 (nI (c + 1))) else some (some (.int 0), rFl σ 2 (σ.2.2.1 4 c))) else some (some (.int 0), σ) := by
  have z1 : zin (nI c) 2010 = true := decide_eq_true ⟨by rw [nI_toInt (by omega)]; omega, by rw [nI_toInt (by omega)]; omega⟩
  rw [zE_name]
  unfold b_name
  simp only [h10, zgd, z1, if_true, nI_clamp (show c < 2 ^ 31 by omega), r_form (n := n) hc h10, zcv, zlet, nI_1]
  have e1 : (zI σ 10 (nI (c + 1))).1 10 - 1 = nI c := nI_pred c
  rw [e1]
end ORF
