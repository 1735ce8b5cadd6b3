/-! the reference reads its words -/
/-- the reference's state while it reads words: rows 3, 4, 5, how many, is there a fault, where -/
def rSt (τ : zSt) (K P E : Nat → Int32) (cnt : Nat) (bad ba : Int32) : zSt := zI (zI (zI (zA (zA (zA τ 3 K) 4 P) 5 E) 9 (nI cnt)) 11 bad) 12 ba
/-- the reference's kind of a word, of the class's -/
def kMap (c : Int32) : Int32 := if c = 1 then 1 else if c = 2 then 2 else 3
/-- two letters that are one sign -/
abbrev dBl (x y : Int32) : Prop := ((x = 60 ∨ x = 62) ∧ y = 61) ∨ (x = 38 ∧ y = 38) ∨ (x = 124 ∧ y = 124) ∨ (x = 45 ∧ y = 62)
theorem dSg_0 {len i : Nat} {g : Nat → Int32} : dSg len g i = 0 ↔ ¬ (i + 1 < len ∧ dBl (g i) (g (i + 1))) := by
  unfold dSg dBl
  by_cases h0 : i + 1 < len
  · by_cases h1 : g i = 38
    · simp [h0, h1]
    · by_cases h2 : g i = 45
      · simp [h0, h2]
      · by_cases h3 : g i = 60
        · simp [h0, h3]
        · by_cases h4 : g i = 62
          · simp [h0, h4]
          · by_cases h5 : g i = 124
            · simp [h0, h5]
            · simp [h0, h1, h2, h3, h4, h5]
  · simp [h0]
theorem sB_S : ∀ k, k < 256 → bS (nI k).toInt8.toInt32 = bS (nI k) := by decide +kernel
theorem sB_bS {b : Int32} (h : sB b) : bS b = bS (b &&& 255) := by
  obtain ⟨k, hk, e1, e2⟩ := sB_k h
  have := sB_S k hk
  rw [e1]
  exact (congrArg _ e2).trans this
theorem sB_dBl {b c : Int32} (h : sB b) (h' : sB c) : dBl b c ↔ dBl (b &&& 255) (c &&& 255) := by
  unfold dBl
  rw [sB_eq h (c := 60) (by decide) (by decide), sB_eq h (c := 62) (by decide) (by decide), sB_eq h (c := 38) (by decide) (by decide), sB_eq h (c := 124) (by decide) (by decide), sB_eq h (c := 45) (by decide) (by decide), sB_eq h' (c := 61) (by decide) (by decide), sB_eq h' (c := 38) (by decide) (by decide), sB_eq h' (c := 124) (by decide) (by decide), sB_eq h' (c := 62) (by decide) (by decide)]
section ORB
variable {ks : Nat → Nat} {qs : List Nat} {T n h0 len cnt : Nat} {τ σ : zSt} {f K P E : Nat → Int32} {bad ba : Int32} {call : zCl} {k7 : Int32 → zSt → zRs} {x1 x y t0 : Int32}
theorem r_297 : j_readWords_297 T call h0 qs ks k7 x1 x t0 σ = if bS x = true then j_readWords_418 T call h0 qs ks k7 x1 t0 σ else j_readWords_400 T call h0 qs ks k7 x1 t0 0 σ := by
  have e1 : j_readWords_395 T call h0 qs ks k7 x1 t0 σ = j_readWords_418 T call h0 qs ks k7 x1 t0 σ := by
    unfold j_readWords_395 j_readWords_400
    rw [if_neg (show ¬ (1 : Int32) = 0 by decide), ite_self]
  unfold j_readWords_297
  rw [e1]
  by_cases h : bS x = true
  · rw [if_pos h]
    have h2 := of_decide_eq_true h
    simp only [List.mem_cons, List.not_mem_nil, or_false] at h2
    rcases h2 with h2 | h2 | h2 | h2 | h2 | h2 | h2 | h2 | h2 | h2 | h2 | h2 | h2 | h2 | h2 | h2 <;> simp only [h2, if_true, ite_self]
  · rw [if_neg h]
    have h2 := of_decide_eq_false (Bool.eq_false_iff.mpr h)
    simp only [List.mem_cons, List.not_mem_nil, or_false, not_or] at h2
    simp only [h2, if_false]
theorem r_232 : j_readWords_232 T call h0 qs ks k7 x1 x y σ = if dBl x y then j_readWords_297 T call h0 qs ks k7 x1 x 1 σ else j_readWords_297 T call h0 qs ks k7 x1 x 0 σ := by
  unfold j_readWords_232 j_readWords_246 j_readWords_253 j_readWords_266 j_readWords_279 j_readWords_292 j_readWords_296 dBl
  by_cases h1 : x = 60
  · by_cases g1 : y = 61 <;> simp [h1, g1]
  · by_cases h2 : x = 62
    · by_cases g1 : y = 61 <;> simp [h2, g1]
    · by_cases h3 : x = 38
      · by_cases g1 : y = 38 <;> simp [h3, g1]
      · by_cases h4 : x = 124
        · by_cases g1 : y = 124 <;> simp [h4, g1]
        · by_cases h5 : x = 45
          · by_cases g1 : y = 62 <;> simp [h5, g1]
          · simp [h1, h2, h3, h4, h5]
/-- a sign: its end and whether there is a fault -/
theorem r_sign : j_readWords_232 T call h0 qs ks k7 x1 x y σ = if dBl x y then j_readWords_429 T call h0 qs ks k7 x1 x1 2 σ else if bS x = true then j_readWords_429 T call h0 qs ks k7 x1 x1 1 σ else zcv (call 3 [.ref h0, .int 1, .int x1] σ) fun s3 => j_readWords_429 T call h0 qs ks k7 x1 x1 1 s3 := by
  rw [r_232, r_297, r_297]
  unfold j_readWords_400 j_readWords_418
  simp only [if_true, if_neg (show ¬ (1 : Int32) = 0 by decide), ite_self]
theorem r_word (hc : cnt < 2010) : zF h0 qs ks T (n + 1) 6 [.ref h0, .int t0, .int x, .int y] (rSt τ K P E cnt bad ba) = some (none, rSt τ (upd K cnt t0) (upd P cnt x) (upd E cnt y) (cnt + 1) bad ba) := by
  have z1 : zin (nI cnt) 2010 = true := decide_eq_true ⟨by rw [nI_toInt (by omega)]; omega, by rw [nI_toInt (by omega)]; omega⟩
  have e1 : (rSt τ K P E cnt bad ba).1 9 = nI cnt := rfl
  rw [zE_word]
  unfold b_word
  simp only [zlet, zgd, zI, zA, e1, z1, if_true, nI_clamp (show cnt < 2 ^ 31 by omega), nI_1]
  refine congrArg some (Prod.ext rfl ?_)
  refine Prod.ext (funext fun j => ?_) (Prod.ext rfl (Prod.ext (funext fun j => ?_) rfl))
  · simp only [rSt, zI, zA]
    by_cases h1 : j = 12
    · simp [h1]
    · by_cases h2 : j = 11
      · simp [h2]
      · by_cases h3 : j = 9
        · simp [h3]
        · simp [h1, h2, h3]
  · simp only [rSt, zI, zA]
    by_cases h1 : j = 5
    · simp [h1]
    · by_cases h2 : j = 4
      · simp [h2]
      · by_cases h3 : j = 3
        · simp [h3]
        · simp [h1, h2, h3]
theorem r_fault : zF h0 qs ks T (n + 1) 3 [.ref h0, .int 1, .int x] (rSt τ K P E cnt 0 ba) = some (none, rSt τ K P E cnt 1 x) := by
  rw [zE_fault]
  unfold b_fault
  rw [if_pos (show (rSt τ K P E cnt 0 ba).1 11 = 0 from rfl)]
  simp only [zlet]
  refine congrArg some (Prod.ext rfl ?_)
  refine Prod.ext (funext fun j => ?_) rfl
  simp only [rSt, zI, zA]
  by_cases h1 : j = 12
  · simp [h1]
  · by_cases h2 : j = 11
    · simp [h2]
    · simp [h1, h2]
theorem r_kind (v : Int32) (hc : cnt < 2010) : zA (rSt τ K P E (cnt + 1) bad ba) 3 (upd ((rSt τ K P E (cnt + 1) bad ba).2.2.1 3) cnt v) = rSt τ (upd K cnt v) P E (cnt + 1) bad ba := by
  refine Prod.ext rfl (Prod.ext rfl (Prod.ext (funext fun j => ?_) rfl))
  simp only [rSt, zI, zA]
  by_cases h1 : j = 3
  · simp [h1]
  · simp [h1]
theorem r_fin (hl : τ.1 4 = nI len) (hc : cnt < 2010) : j_readWords_443 T (zF h0 qs ks T (n + 1)) h0 qs ks (rSt τ K P E cnt bad ba) = some (none, zI (rSt τ (upd K cnt 0) (upd P cnt (nI len)) (upd E cnt (nI len)) (cnt + 1) bad ba) 10 0) := by
  unfold j_readWords_443
  have e1 : (rSt τ K P E cnt bad ba).1 4 = nI len := hl
  rw [e1, r_word hc]
  rfl
theorem r_stop (t : Nat) : l_readWords_7 T call h0 qs ks (t + 1) x (rSt τ K P E cnt 1 ba) = j_readWords_443 T call h0 qs ks (rSt τ K P E cnt 1 ba) := by
  rw [l_readWords_7]
  have e1 : ¬ (rSt τ K P E cnt 1 ba).1 11 = 0 := fun h => absurd (show (1 : Int32) = 0 from h) (by decide)
  rw [if_neg e1, ite_self]
theorem r_name {a : Nat} (hl : τ.1 4 = nI len) (hx : τ.2.2.1 1 = f) (hlen : len ≤ 2000) (hb : ∀ j, j < len → sB (f j)) : ∀ (t i : Nat), i ≤ len → len < i + t → l_readWords_56 T (zF h0 qs ks T (n + 1)) h0 qs ks k7 t (nI a) (nI i) (rSt τ K P E cnt bad ba) = j_readWords_105 T (zF h0 qs ks T (n + 1)) h0 qs ks k7 (nI a) (nI (wRun len (fun j => f j &&& 255) true t i)) (rSt τ K P E cnt bad ba)
  | 0, i, _, h => by omega
  | t + 1, i, hi, ht => by
    have e1 : (rSt τ K P E cnt bad ba).1 4 = nI len := hl
    have e2 : (rSt τ K P E cnt bad ba).2.2.1 1 = f := hx
    rw [l_readWords_56, wRun, e1]
    by_cases c1 : i < len
    · have z1 : zin (nI i) 2000 = true := decide_eq_true ⟨by rw [nI_toInt (by omega)]; omega, by rw [nI_toInt (by omega)]; omega⟩
      rw [if_neg (nI_ge c1 (by omega)), if_pos c1]
      have hbi := hb i c1
      simp only [zgd, z1, if_true, nI_clamp (show i < 2 ^ 31 by omega), e2, r_isLow, r_isDigit, zci, j_readWords_99, nI_1, b01_0]
      have E := sB_eq hbi (c := 95) (by decide) (by decide)
      rw [sB_bL hbi, sB_bD hbi]
      unfold bC
      cases g1 : bL (f i &&& 255) with
      | true => simpa using r_name hl hx hlen hb t (i + 1) (by omega) (by omega)
      | false =>
        cases g2 : bD (f i &&& 255) with
        | true => simpa using r_name hl hx hlen hb t (i + 1) (by omega) (by omega)
        | false =>
          by_cases g3 : f i = 95
          · have g4 := E.mp g3
            rw [if_pos g3]
            simpa [g4] using r_name hl hx hlen hb t (i + 1) (by omega) (by omega)
          · have g4 : ¬ f i &&& 255 = 95 := fun h => g3 (E.mpr h)
            rw [if_neg g3]
            simp [g4]
    · rw [if_pos (nI_le (by omega) (by omega)), if_neg c1]
theorem r_num {a : Nat} (hl : τ.1 4 = nI len) (hx : τ.2.2.1 1 = f) (hlen : len ≤ 2000) (hb : ∀ j, j < len → sB (f j)) : ∀ (t i : Nat), i ≤ len → len < i + t → l_readWords_161 T (zF h0 qs ks T (n + 1)) h0 qs ks k7 t (nI a) (nI i) (rSt τ K P E cnt bad ba) = j_readWords_187 T (zF h0 qs ks T (n + 1)) h0 qs ks k7 (nI a) (nI (wRun len (fun j => f j &&& 255) false t i)) (rSt τ K P E cnt bad ba)
  | 0, i, _, h => by omega
  | t + 1, i, hi, ht => by
    have e1 : (rSt τ K P E cnt bad ba).1 4 = nI len := hl
    have e2 : (rSt τ K P E cnt bad ba).2.2.1 1 = f := hx
    rw [l_readWords_161, wRun, e1]
    by_cases c1 : i < len
    · have z1 : zin (nI i) 2000 = true := decide_eq_true ⟨by rw [nI_toInt (by omega)]; omega, by rw [nI_toInt (by omega)]; omega⟩
      rw [if_neg (nI_ge c1 (by omega)), if_pos c1]
      have hbi := hb i c1
      simp only [zgd, z1, if_true, nI_clamp (show i < 2 ^ 31 by omega), e2, r_isDigit, zci, nI_1, b01_0]
      rw [sB_bD hbi]
      unfold bC
      cases g2 : bD (f i &&& 255) with
      | true => simpa using r_num hl hx hlen hb t (i + 1) (by omega) (by omega)
      | false => simp
    · rw [if_pos (nI_le (by omega) (by omega)), if_neg c1]
end ORB
