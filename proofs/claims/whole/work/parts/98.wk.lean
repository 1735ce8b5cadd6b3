/-! keywords (class) -/
/-- the letters of the keywords' text -/
def kL (j : Nat) : Int32 := zch (oktx 2) j &&& 255
theorem oktx_2 : (oktx 2).toList.length = 120 := by decide +kernel
/-- l - q letters from s on in the keywords' text are those from a on in g -/
def kSame (g : Nat → Int32) (s a l : Nat) : Nat → Nat → Bool
  | 0, _ => true
  | m + 1, q => if q < l then (if kL (s + q) = g (a + q) then kSame g s a l m (q + 1) else false) else true
/-- the kind of the word of l letters at a: a keyword's, or 1 -/
def kKind (g : Nat → Int32) (a l : Nat) : Nat → Nat → Nat → Nat → Int32
  | 0, _, _, _ => 1
  | m + 1, k, s, i => if i < 120 then (if kL i = 32 then (if i - s = l ∧ kSame g s a l l 0 = true then nI k else kKind g a l m (k + 1) (i + 1) (i + 1)) else kKind g a l m k s (i + 1)) else 1
theorem kSame_fuel {g : Nat → Int32} {s a l : Nat} : ∀ (m m' q : Nat), l ≤ q + m → l ≤ q + m' → kSame g s a l m q = kSame g s a l m' q
  | 0, 0, _, _, _ => rfl
  | 0, m' + 1, q, h, _ => by rw [kSame, kSame, if_neg (by omega)]
  | m + 1, 0, q, _, h => by rw [kSame, kSame, if_neg (by omega)]
  | m + 1, m' + 1, q, h, h' => by
    rw [kSame, kSame, kSame_fuel m m' (q + 1) (by omega) (by omega)]
section OWK
variable {κ : oKv} {ks : Nat → Nat} {T n len sz : Nat} {σ : oSt} {w : Nat} {r : Option Nat} {f : Nat → Int32}
theorem w_same {s a l : Nat} (hf : lFacts κ ks sz) (hlow : ∀ a, a < sz → σ.1 a = none) (hw : ofd σ (some w) 13 0 = some (va_rf r)) (h : oTx κ σ r len f) (hs : s + l ≤ 120) (ha : a + l ≤ len) (hlen : len ≤ 2000) : ∀ (t q : Nat), q ≤ l → l < q + t → ol_X11_sameLetters_3 T (oF κ T (n + 4)) κ t (some w) (nI s) (nI a) (nI l) (nI q) σ = some (some (.int (b01 (kSame (fun j => f j &&& 255) s a l t q))), σ)
  | 0, q, _, ht => by omega
  | t + 1, q, hq, ht => by
    obtain ⟨a1, v, h1, -, -, -, h5, -⟩ := id h
    have hc := oTx_const hf hlow (show 2 < 17 by decide)
    rw [oktx_2] at hc
    obtain ⟨a2, v2, g1, -, -, -, -, -⟩ := id hc
    have hr : ovr (some (va_rf r)) = some r := by cases r <;> rfl
    rw [ol_X11_sameLetters_3, kSame]
    by_cases c1 : q < l
    · rw [if_neg (nI_ge c1 (by omega)), if_pos c1, g1, nI_add, nI_add]
      simp only [obn, s_chr (n := n) hc (show s + q < 120 by omega), oin, hw, hr, h1, s_chr (n := n) h (show a + q < len by omega), nI_1]
      show (if kL (s + q) = (f (a + q) &&& 255) then _ else _) = some (some (Value.int (b01 (if kL (s + q) = (f (a + q) &&& 255) then _ else false))), σ)
      by_cases c2 : kL (s + q) = (f (a + q) &&& 255)
      · rw [if_pos c2, if_pos c2]
        exact w_same hf hlow hw h hs ha hlen t (q + 1) (by omega) (by omega)
      · rw [if_neg c2, if_neg c2]
        rfl
    · rw [if_pos (nI_le (by omega) (by omega)), if_neg c1]
      rfl
theorem w_key {a e : Nat} (hf : lFacts κ ks sz) (hlow : ∀ a, a < sz → σ.1 a = none) (hob : oob σ (some w) 13 = some w) (hw : ofd σ (some w) 13 0 = some (va_rf r)) (h : oTx κ σ r len f) (hae : a ≤ e) (he : e ≤ len) (hlen : len ≤ 2000) (hT : 2010 ≤ T) : ∀ (t k s i : Nat), s ≤ i → i ≤ 120 → 120 < i + t → ol_X11_keyword_10 T (oF κ T (n + 5)) κ t (some w) (nI a) (nI e) (nI k) (nI s) (nI i) σ = some (some (.int (kKind (fun j => f j &&& 255) a (e - a) t k s i)), σ)
  | 0, k, s, i, _, _, ht => by omega
  | t + 1, k, s, i, hsi, hi, ht => by
    have hc := oTx_const hf hlow (show 2 < 17 by decide)
    rw [oktx_2] at hc
    obtain ⟨a2, v2, g1, -, -, -, -, -⟩ := id hc
    rw [ol_X11_keyword_10, kKind, g1]
    simp only [obn, s_len (n := n + 3) hc, oin]
    by_cases c1 : i < 120
    · have e1 : ¬ nI 120 ≤ nI i := nI_ge c1 (by decide)
      rw [if_neg e1, if_pos c1, g1]
      simp only [obn, s_chr (n := n + 1) hc c1, oin, pk_sub hsi, pk_sub hae]
      show (if kL i = 32 then _ else _) = some (some (Value.int (if kL i = 32 then _ else _)), σ)
      by_cases c2 : kL i = 32
      · rw [if_pos c2, if_pos c2]
        unfold oj_X11_keyword_58 oj_X11_keyword_67
        rw [nI_1, nI_1]
        by_cases c3 : i - s = e - a
        · rw [if_pos (by rw [c3]), hob]
          have k1 : oF κ T (n + 5) 168 [va_rf (some w), .int (nI s), .int (nI a), .int (nI (e - a))] σ = some (some (.int (b01 (kSame (fun j => f j &&& 255) s a (e - a) (e - a) 0))), σ) := by
            rw [oE_X11_sameLetters]
            unfold ob_X11_sameLetters
            rw [← kSame_fuel T (e - a) 0 (by omega) (by omega)]
            exact w_same hf hlow hw h (by omega) (by omega) hlen T 0 (Nat.zero_le _) (by omega)
          simp only [obn, k1, oin]
          cases c4 : kSame (fun j => f j &&& 255) s a (e - a) (e - a) 0 with
          | true =>
            rw [if_neg (show ¬ b01 true = 0 by decide), if_pos ⟨c3, rfl⟩]
          | false =>
            rw [if_pos (show b01 false = 0 by decide), if_neg (fun h9 => by cases h9.2)]
            exact w_key hf hlow hob hw h hae he hlen hT t (k + 1) (i + 1) (i + 1) (Nat.le_refl _) (by omega) (by omega)
        · rw [if_neg (fun h9 => c3 ((nI_eq (by omega) (by omega)).mp h9)), if_neg (fun h9 => c3 h9.1)]
          exact w_key hf hlow hob hw h hae he hlen hT t (k + 1) (i + 1) (i + 1) (Nat.le_refl _) (by omega) (by omega)
      · rw [if_neg c2, if_neg c2]
        unfold oj_X11_keyword_67
        rw [nI_1]
        exact w_key hf hlow hob hw h hae he hlen hT t k s (i + 1) (by omega) (by omega) (by omega)
    · have e1 : nI 120 ≤ nI i := nI_le (by omega) (by omega)
      rw [if_pos e1, if_neg c1]
theorem w_keyword {a e : Nat} (hf : lFacts κ ks sz) (hlow : ∀ a, a < sz → σ.1 a = none) (hob : oob σ (some w) 13 = some w) (hw : ofd σ (some w) 13 0 = some (va_rf r)) (h : oTx κ σ r len f) (hae : a ≤ e) (he : e ≤ len) (hlen : len ≤ 2000) (hT : 2010 ≤ T) : oF κ T (n + 6) 169 [va_rf (some w), .int (nI a), .int (nI e)] σ = some (some (.int (kKind (fun j => f j &&& 255) a (e - a) T 200 0 0)), σ) := by
  rw [oE_X11_keyword]
  unfold ob_X11_keyword
  exact w_key hf hlow hob hw h hae he hlen hT T 200 0 0 (Nat.le_refl _) (by omega) (by omega)
end OWK
