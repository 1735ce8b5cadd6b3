/-! the reference: is a word this text -/
theorem zKm_len : ∀ q ∈ zKm, q.2.toList.length < 1000 := by decide +kernel
theorem zKm_find {κ : oKv} {ks : Nat → Nat} {sz : Nat} {q : Nat × String} (hf : lFacts κ ks sz) (hq : q ∈ zKm) : ∃ p, zKm.find? (fun p => ks p.1 == ks q.1) = some p ∧ p.2 = q.2 := by
  have h1 : (zKm.find? (fun p => ks p.1 == ks q.1)).isSome = true := List.find?_isSome.mpr ⟨q, hq, beq_self_eq_true _⟩
  obtain ⟨p, hp⟩ := Option.isSome_iff_exists.mp h1
  refine ⟨p, hp, ?_⟩
  have h2 := List.find?_some hp
  have h3 := List.mem_of_find?_eq_some hp
  exact hf.2.2.2.2.2 p h3 q hq (by simpa using h2)
theorem zslen_m {κ : oKv} {ks : Nat → Nat} {sz : Nat} {q : Nat × String} (hf : lFacts κ ks sz) (hq : q ∈ zKm) : zslen ks (ks q.1) = some (nI q.2.toList.length) := by
  obtain ⟨p, h1, h2⟩ := zKm_find hf hq
  unfold zslen
  rw [h1, Option.map_some, h2]
theorem zschr_m {κ : oKv} {ks : Nat → Nat} {sz j : Nat} {q : Nat × String} (hf : lFacts κ ks sz) (hq : q ∈ zKm) (hj : j < q.2.toList.length) : zschr ks (ks q.1) (nI j) = some (zch q.2 j) := by
  obtain ⟨p, h1, h2⟩ := zKm_find hf hq
  have hl := zKm_len q hq
  unfold zschr
  rw [h1]
  simp only [h2, nI_toInt (show j < 2 ^ 31 by omega), nI_clamp (show j < 2 ^ 31 by omega)]
  rw [if_pos ⟨by omega, by omega⟩]
/-- the letters from a on are those of tx, from its place q on -/
def eqT (tx : String) (f : Nat → Int32) (a : Nat) : Nat → Nat → Bool
  | 0, _ => true
  | m + 1, q => if q < tx.toList.length then (if f (a + q) = zch tx q then eqT tx f a m (q + 1) else false) else true
/-- the word from a to e, of the reference's kind k, is tx -/
def isT (tx : String) (f : Nat → Int32) (k : Int32) (a e : Nat) : Bool := decide (k ≠ 0) && (decide (e - a = tx.toList.length) && eqT tx f a 1000 0)
theorem eqT_fuel {tx : String} {f : Nat → Int32} {a : Nat} : ∀ (m m' q : Nat), tx.toList.length ≤ q + m → tx.toList.length ≤ q + m' → eqT tx f a m q = eqT tx f a m' q
  | 0, 0, _, _, _ => rfl
  | 0, m' + 1, q, h, _ => by rw [eqT, eqT, if_neg (by omega)]
  | m + 1, 0, q, _, h => by rw [eqT, eqT, if_neg (by omega)]
  | m + 1, m' + 1, q, h, h' => by
    rw [eqT, eqT, eqT_fuel m m' (q + 1) (by omega) (by omega)]
section ORT
variable {κ : oKv} {ks : Nat → Nat} {qs : List Nat} {T n h0 len sz : Nat} {σ : zSt} {f : Nat → Int32} {tx : Nat × String}
theorem r_textL {c a : Nat} {call : zCl} (hf : lFacts κ ks sz) (hq : tx ∈ zKm) (hc : c < 2010) (hx : σ.2.2.1 1 = f) (hp : σ.2.2.1 4 c = nI a) (hl : a + tx.2.toList.length ≤ 2000) : ∀ (t j : Nat), j ≤ tx.2.toList.length → tx.2.toList.length < j + t → l_isText_33 T call h0 qs ks t (nI c) (ks tx.1) (nI j) σ = some (some (.int (b01 (eqT tx.2 f a t j))), σ)
  | 0, j, _, h => by omega
  | t + 1, j, hj, ht => by
    rw [l_isText_33, zslen_m hf hq, eqT]
    simp only [zso]
    by_cases c1 : j < tx.2.toList.length
    · have z1 : zin (nI c) 2010 = true := decide_eq_true ⟨by rw [nI_toInt (by omega)]; omega, by rw [nI_toInt (by omega)]; omega⟩
      have z2 : zin (nI (a + j)) 2000 = true := decide_eq_true ⟨by rw [nI_toInt (by omega)]; omega, by rw [nI_toInt (by omega)]; omega⟩
      rw [if_neg (nI_ge c1 (by omega)), if_pos c1]
      simp only [zgd, z1, if_true, nI_clamp (show c < 2 ^ 31 by omega), hp, nI_add, z2, zschr_m hf hq c1, zso, nI_clamp (show a + j < 2 ^ 31 by omega), hx, nI_1]
      by_cases c2 : f (a + j) = zch tx.2 j
      · rw [if_pos c2, if_pos c2]
        exact r_textL hf hq hc hx hp hl t (j + 1) (by omega) (by omega)
      · rw [if_neg c2, if_neg c2]
        rfl
    · rw [if_pos (nI_le (by omega) (by omega)), if_neg c1]
      rfl
theorem r_isText {c a e : Nat} (hf : lFacts κ ks sz) (hq : tx ∈ zKm) (hc : c < 2010) (hx : σ.2.2.1 1 = f) (hp : σ.2.2.1 4 c = nI a) (he : σ.2.2.1 5 c = nI e) (hae : a ≤ e) (hel : e ≤ 2000) (hT : 2010 ≤ T) : zF h0 qs ks T (n + 1) 7 [.ref h0, .int (nI c), .ref (ks tx.1)] σ = some (some (.int (b01 (isT tx.2 f (σ.2.2.1 3 c) a e))), σ) := by
  have hl := zKm_len tx hq
  have z1 : zin (nI c) 2010 = true := decide_eq_true ⟨by rw [nI_toInt (by omega)]; omega, by rw [nI_toInt (by omega)]; omega⟩
  have e9 : nI e - nI a = nI (e - a) := by
    obtain ⟨d, rfl⟩ : ∃ d, e = a + d := ⟨e - a, by omega⟩
    rw [← nI_add, Nat.add_sub_cancel_left, Int32.add_comm, Int32.add_sub_cancel]
  rw [zE_isText]
  unfold b_isText isT
  simp only [zgd, z1, if_true, nI_clamp (show c < 2 ^ 31 by omega), hp, he, zslen_m hf hq, zso, e9]
  by_cases c1 : σ.2.2.1 3 c = 0
  · rw [if_pos c1, decide_eq_false (fun h => h c1)]
    rfl
  · rw [if_neg c1, decide_eq_true c1, Bool.true_and]
    by_cases c2 : e - a = tx.2.toList.length
    · rw [if_pos (by rw [c2]), decide_eq_true c2, Bool.true_and]
      refine (r_textL hf hq hc hx hp (by omega) T 0 (Nat.zero_le _) (by omega)).trans ?_
      rw [eqT_fuel T 1000 0 (by omega) (by omega)]
    · rw [if_neg (fun h => c2 (nI_inj' (by omega) (by omega) h)), decide_eq_false c2]
      rfl
/-- here(text): no fault yet, and the word it stands at is this text -/
theorem r_here {c a e : Nat} (hf : lFacts κ ks sz) (hq : tx ∈ zKm) (hc : c < 2010) (h10 : σ.1 10 = nI c) (hx : σ.2.2.1 1 = f) (hp : σ.2.2.1 4 c = nI a) (he : σ.2.2.1 5 c = nI e) (hae : a ≤ e) (hel : e ≤ 2000) (hT : 2010 ≤ T) : zF h0 qs ks T (n + 2) 11 [.ref h0, .ref (ks tx.1)] σ = some (some (.int (b01 (decide (σ.1 11 = 0) && isT tx.2 f (σ.2.2.1 3 c) a e))), σ) := by
  rw [zE_here]
  unfold b_here
  rw [h10, r_isText hf hq hc hx hp he hae hel hT]
  by_cases c1 : σ.1 11 = 0
  · rw [if_pos c1, decide_eq_true c1, Bool.true_and]
    simp only [zci]
    cases isT tx.2 f (σ.2.2.1 3 c) a e <;> rfl
  · rw [if_neg c1, decide_eq_false c1]
    rfl
theorem r_skip {c a e : Nat} (hf : lFacts κ ks sz) (hq : tx ∈ zKm) (hc : c < 2010) (h10 : σ.1 10 = nI c) (hx : σ.2.2.1 1 = f) (hp : σ.2.2.1 4 c = nI a) (he : σ.2.2.1 5 c = nI e) (hae : a ≤ e) (hel : e ≤ 2000) (hT : 2010 ≤ T) : zF h0 qs ks T (n + 3) 12 [.ref h0, .ref (ks tx.1)] σ = some (some (.int (b01 (decide (σ.1 11 = 0) && isT tx.2 f (σ.2.2.1 3 c) a e))), if (decide (σ.1 11 = 0) && isT tx.2 f (σ.2.2.1 3 c) a e) = true then zI σ 10 (nI (c + 1)) else σ) := by
  rw [zE_skip]
  unfold b_skip
  rw [r_here hf hq hc h10 hx hp he hae hel hT]
  simp only [zci, h10, nI_1]
  cases (decide (σ.1 11 = 0) && isT tx.2 f (σ.2.2.1 3 c) a e) <;> rfl
end ORT
