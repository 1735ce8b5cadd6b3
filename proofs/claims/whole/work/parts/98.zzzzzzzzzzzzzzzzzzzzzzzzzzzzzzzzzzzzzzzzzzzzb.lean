/-! LETTERS: what an E's letters pay for, beside its types and what FITS -/
/-- what accepted() makes at each place, but for TEMPLATES and what FITS -/
def bW : tT → Nat
  | .leaf => 0
  | .inner g d _ a b => (if g = 1 then 4 else if g = 2 then 4 + 19 * d.2.1 else if g = 3 then 19 else if g = 4 then 8 else if g = 5 then 9 else if g = 6 then 5 else if g = 7 then 22 else if g = 10 then 17 else if g = 8 ∨ g = 9 then 15 else if g = 12 ∨ g = 14 then 20 else if g = 11 ∨ g = 17 ∨ g = 18 then 25 else if g = 13 then 32 else if g = 19 then 56 else if g = 33 then 49 else if g = 34 then 49 else if g = 35 then 45 else 0) + ((if g = 4 ∨ g = 5 then 0 else bW a) + bW b)
/-- ARGS that begin with a letter or a figure -/
def aBg : tT → Bool
  | .leaf => false
  | .inner g d _ _ _ => (decide (g = 33) && decide (d.2.1 = 0)) || decide (g = 35)
/-- ARGS that begin with a figure -/
def aBn : tT → Bool
  | .leaf => false
  | .inner g d _ _ _ => decide (g = 33) && decide (d.2.1 = 0) && decide (d.2.2.2.1.2.all (fun p => p.1 == 0) = true)
/-- no ARGS -/
def aBz : tT → Bool
  | .leaf => true
  | .inner _ _ _ _ _ => false
/-- an E in brackets -/
def q16 : tT → Nat
  | .leaf => 0
  | .inner g _ _ _ _ => if g = 16 then 1 else 0
/-- what an E's letters leave -/
def gnL : tT → Nat
  | .leaf => 0
  | .inner g d _ a b => if g = 34 then (gnL a - 143) + gnL b else (if g = 1 then 2279 else if g = 2 then 3620 + 311 * d.2.1 else if g = 3 then 1904 else if g = 4 then 3025 else if g = 5 then 1840 else if g = 6 then 1144 else if g = 7 then 942 else if g = 8 ∨ g = 9 ∨ g = 17 then 939 else if g = 10 then 90 else if g = 11 ∨ g = 12 ∨ g = 13 then 79 else if g = 14 then 437 else if g = 15 then 507 + (if aBg a = true then 309 else 0) else if g = 18 then 1298 else if g = 19 then 2381 else if g = 33 then (if d.2.1 = 1 then 613 else 120 + (if (d.2.2.2.1.2.all (fun p => p.1 == 0)) = true then (if aBn b = true then 309 else 0) else if aBz b = true ∨ aBg b = true then 309 else 0)) else if g = 35 then 1079 else 0) + ((if g = 4 ∨ g = 5 then 0 else gnL a) + gnL b)
/-- brackets that cost more than their letters -/
def pnL : tT → Nat
  | .leaf => 0
  | .inner g _ _ a b => if g = 1 ∨ g = 2 then (pnL a - q16 a) + pnL b else if g = 3 ∨ g = 6 then pnL a - q16 a else if g = 4 then pnL b else if g = 5 then pnL b - q16 b else if g = 16 then pnL a + (1 - q16 a) else if g = 19 then (pnL a - q16 a) + (pnL b - q16 b) else if g = 31 ∨ g = 34 then pnL a + pnL b else if g = 15 then pnL a else if g = 33 ∨ g = 35 then pnL b else 0
def eF (c : Int32) : Nat := if cLt c = true then 0 else 1
def aF (c : Int32) : Nat := if cLt c = true ∨ c = 2 then 1 else 0
theorem aF_1 (c : Int32) : aF c ≤ 1 := by unfold aF; split <;> omega
theorem eF_1 (c : Int32) : eF c ≤ 1 := by unfold eF; split <;> omega
theorem wSp_L {c c' : Int32} (h : cLt c = true) : wSp c c' = aF c' := by
  unfold wSp aF
  by_cases e : cLt c' = true ∨ c' = 2
  · rw [if_pos (Or.inl ⟨h, e⟩), if_pos e]
  · rw [if_neg e, if_neg]
    rintro (⟨-, z⟩ | ⟨z, -⟩)
    · exact e z
    · rw [z] at h; exact absurd h (by decide)
theorem wSp_e {c c' : Int32} (h : cLt c = true) : 1 ≤ wSp c c' + eF c' := by
  rw [wSp_L h]
  unfold aF eF
  by_cases e : cLt c' = true
  · rw [if_pos (Or.inl e)]; omega
  · rw [if_neg e]; omega
theorem wLn_1 (c : Int32) : 1 ≤ wLn c := by
  unfold wLn
  split
  · rename_i h
    obtain ⟨y, -, y2, y3⟩ := kTb_1 (c.toInt.toNat - 200) (by omega)
    rw [y2]; exact y3
  · split <;> omega
theorem aSm_f {kk : Nat → Int32} {T i j : Nat} {S : tS} (h : aSm kk T i = .inr (S, j)) (e : kk i = nI 206 ∨ kk i = nI 40) : False := by
  unfold aSm at h
  have e45 : aIs kk 45 i = false := by
    unfold aIs
    rcases e with e | e <;> (rw [e]; decide)
  rw [e45] at h
  obtain ⟨p, j1, h1, -⟩ := on_inr h
  have h1 : aPt kk false i = .inr (p, j1) := h1
  unfold aPt at h1
  have n : ∀ c, c = 1 ∨ c = 2 ∨ c = 211 ∨ c = 221 → aIs kk c i = false := fun c hc => by
    unfold aIs
    rcases hc with rfl | rfl | rfl | rfl <;> (rcases e with e | e <;> (rw [e]; decide))
  rw [n 211 (by omega), n 221 (by omega), n 2 (by omega), if_neg (by decide), if_neg (by decide), if_neg (by decide)] at h1
  obtain ⟨_, j2, h2, -⟩ := on_inr h1
  have h3 := (aMs_inr h2).1
  rw [n 1 (by omega)] at h3
  cases h3
section AEG
variable {kk : Nat → Int32} {T cnt : Nat} {Pp : Nat → Nat}
/-- what is said of an E's letters -/
def pEl (kk : Nat → Int32) (cnt : Nat) (Pp : Nat → Nat) (i : Nat) (t : tT) (j : Nat) : Prop := i < j ∧ (q16 t = 1 → kk i = nI 40) ∧ (kk i = nI 206 → 143 ≤ gnL t) ∧ (j ≤ cnt → 272 * (j - i) + 16 * (tW t).length + 8 * nF t + bW t + gnL t + 309 * Pp i ≤ sv t + 309 * Pp j + 309 * (eF (kk j) + aF (kk i)) + 89 * pnL t)
def pAl (kk : Nat → Int32) (cnt : Nat) (Pp : Nat → Nat) (i : Nat) (t : tT) (j : Nat) : Prop := i ≤ j ∧ (aBg t = true → aF (kk i) = 1) ∧ (aBn t = true → kk i = nI 2) ∧ (aBz t = true → i = j ∧ aAr kk i = false) ∧ (j ≤ cnt → 272 * (j - i) + 16 * (tW t).length + 8 * nF t + bW t + gnL t + 309 * Pp i ≤ sv t + 309 * Pp j + (if aBz t = true then 0 else 309 * eF (kk j)) + 89 * pnL t)
theorem pEl.mk {i j : Nat} {t : tT} (h1 : i < j) (h2 : q16 t = 1 → kk i = nI 40) (h3 : kk i = nI 206 → 143 ≤ gnL t) (h4 : j ≤ cnt → 272 * (j - i) + 16 * (tW t).length + 8 * nF t + bW t + gnL t + 309 * Pp i ≤ sv t + 309 * Pp j + 309 * (eF (kk j) + aF (kk i)) + 89 * pnL t) : pEl kk cnt Pp i t j := ⟨h1, h2, h3, h4⟩
theorem pAl.mk {i j : Nat} {t : tT} (h1 : i ≤ j) (h2 : aBg t = true → aF (kk i) = 1) (h3 : aBn t = true → kk i = nI 2) (h4 : aBz t = true → i = j ∧ aAr kk i = false) (h5 : j ≤ cnt → 272 * (j - i) + 16 * (tW t).length + 8 * nF t + bW t + gnL t + 309 * Pp i ≤ sv t + 309 * Pp j + (if aBz t = true then 0 else 309 * eF (kk j)) + 89 * pnL t) : pAl kk cnt Pp i t j := ⟨h1, h2, h3, h4, h5⟩
theorem Pp_mo (W : ∀ j, j < cnt → Pp j + wLn (kk j) + wSp (kk j) (kk (j + 1)) ≤ Pp (j + 1)) : ∀ (d i : Nat), i + d ≤ cnt → Pp i + d ≤ Pp (i + d)
  | 0, i, _ => Nat.le_refl _
  | d + 1, i, h => by
    have h1 := Pp_mo W d i (by omega)
    have h2 := W (i + d) (by omega)
    have h3 := wLn_1 (kk (i + d))
    have e : i + (d + 1) = i + d + 1 := rfl
    rw [e]
    omega
theorem q16_1 (t : tT) : q16 t ≤ 1 := by
  cases t with
  | leaf => exact Nat.zero_le _
  | inner g d u a b =>
    show (if g = 16 then 1 else 0) ≤ 1
    split <;> omega
theorem pEl.af {i j : Nat} {t : tT} (h : pEl kk cnt Pp i t j) : aF (kk i) + q16 t ≤ 1 := by
  have h1 := aF_1 (kk i)
  have h2 := q16_1 t
  by_cases c : q16 t = 1
  · rw [h.2.1 c, c]
    decide
  · omega

theorem wk_212 : wLn (nI 212) = 3 ∧ cLt (nI 212) = true ∧ eF (nI 212) = 0 ∧ aF (nI 212) = 1 := by decide +kernel
theorem wk_208 : wLn (nI 208) = 2 ∧ cLt (nI 208) = true ∧ eF (nI 208) = 0 ∧ aF (nI 208) = 1 := by decide +kernel
theorem wk_219 : wLn (nI 219) = 3 ∧ cLt (nI 219) = true ∧ eF (nI 219) = 0 ∧ aF (nI 219) = 1 := by decide +kernel
theorem wk_206 : wLn (nI 206) = 3 ∧ cLt (nI 206) = true ∧ eF (nI 206) = 0 ∧ aF (nI 206) = 1 := by decide +kernel
theorem wk_207 : wLn (nI 207) = 2 ∧ cLt (nI 207) = true ∧ eF (nI 207) = 0 ∧ aF (nI 207) = 1 := by decide +kernel
theorem wk_222 : wLn (nI 222) = 4 ∧ cLt (nI 222) = true ∧ eF (nI 222) = 0 ∧ aF (nI 222) = 1 := by decide +kernel
theorem wk_204 : wLn (nI 204) = 4 ∧ cLt (nI 204) = true ∧ eF (nI 204) = 0 ∧ aF (nI 204) = 1 := by decide +kernel
theorem wk_201 : wLn (nI 201) = 6 ∧ cLt (nI 201) = true ∧ eF (nI 201) = 0 ∧ aF (nI 201) = 1 := by decide +kernel
theorem wk_220 : wLn (nI 220) = 3 ∧ cLt (nI 220) = true ∧ eF (nI 220) = 0 ∧ aF (nI 220) = 1 := by decide +kernel
theorem wk_215 : wLn (nI 215) = 3 ∧ cLt (nI 215) = true ∧ eF (nI 215) = 0 ∧ aF (nI 215) = 1 := by decide +kernel
theorem wk_223 : wLn (nI 223) = 4 ∧ cLt (nI 223) = true ∧ eF (nI 223) = 0 ∧ aF (nI 223) = 1 := by decide +kernel
theorem wk_205 : wLn (nI 205) = 5 ∧ cLt (nI 205) = true ∧ eF (nI 205) = 0 ∧ aF (nI 205) = 1 := by decide +kernel
theorem wk_216 : wLn (nI 216) = 3 ∧ cLt (nI 216) = true ∧ eF (nI 216) = 0 ∧ aF (nI 216) = 1 := by decide +kernel
theorem wk_203 : wLn (nI 203) = 4 ∧ cLt (nI 203) = true ∧ eF (nI 203) = 0 ∧ aF (nI 203) = 1 := by decide +kernel
theorem wk_214 : wLn (nI 214) = 5 ∧ cLt (nI 214) = true ∧ eF (nI 214) = 0 ∧ aF (nI 214) = 1 := by decide +kernel
theorem wk_1 : wLn (nI 1) = 1 ∧ cLt (nI 1) = true ∧ eF (nI 1) = 0 ∧ aF (nI 1) = 1 := by decide +kernel
theorem wk_2 : wLn (nI 2) = 1 ∧ cLt (nI 2) = false ∧ eF (nI 2) = 1 ∧ aF (nI 2) = 1 := by decide +kernel
theorem wk_304 : wLn (nI 304) = 2 := by decide +kernel
theorem wk_40 : eF (nI 40) = 1 ∧ aF (nI 40) = 0 := by decide +kernel
theorem wk_41 : eF (nI 41) = 1 ∧ aF (nI 41) = 0 := by decide +kernel
theorem wk_59 : eF (nI 59) = 1 ∧ aF (nI 59) = 0 := by decide +kernel
set_option maxHeartbeats 2000000 in
/-- **what the letters of an E pay for** -/
theorem aE_gn (hz : ∀ i, cnt ≤ i → kk i = 0) (W : ∀ j, j < cnt → Pp j + wLn (kk j) + wSp (kk j) (kk (j + 1)) ≤ Pp (j + 1)) (k i : Nat) (t : tT) (j : Nat) (h : aE kk T k i = .inr (t, j)) : pEl kk cnt Pp i t j := by
  have lt : ∀ {i c : Nat}, kk i = nI c → nI c ≠ 0 → i < cnt := fun {i c} e n => Nat.lt_of_not_le (fun z => n (by rw [← e]; exact hz i z))
  have W1 : ∀ i, i < cnt → Pp i + 1 ≤ Pp (i + 1) := fun i hi => by
    have h1 := W i hi
    have h2 := wLn_1 (kk i)
    omega
  have MO : ∀ i j, i ≤ j → j ≤ cnt → Pp i + (j - i) ≤ Pp j := fun i j h1 h2 => by
    have h3 := Pp_mo W (j - i) i (by omega)
    rw [show i + (j - i) = j by omega] at h3
    exact h3
  have WL : ∀ {i c n : Nat}, kk i = nI c → (wLn (nI c) = n ∧ cLt (nI c) = true ∧ eF (nI c) = 0 ∧ aF (nI c) = 1) → i < cnt → Pp i + n + aF (kk (i + 1)) ≤ Pp (i + 1) := fun {i c n} e f hi => by
    have h1 := W i hi
    rw [e, f.1, wSp_L f.2.1] at h1
    exact h1
  refine aE_ind (P := fun k i t j => pEl kk cnt Pp i t j) (Q := fun k q i t j => pAl kk cnt Pp i t j) ?_ ?_ ?_ ?_ ?_ ?_ ?_ ?_ ?_ ?_ ?_ ?_ ?_ ?_ ?_ ?_ ?_ ?_ ?_ ?_ k i t j h
  · rintro k i a l b j c1 c2 A c3 B
    have A4 := A.af
    obtain ⟨a0, -, -, a1⟩ := A
    obtain ⟨b0, -, -, b1⟩ := B
    refine pEl.mk (by omega) (fun z => by cases z) (fun z => by rw [c1] at z; exact absurd z (by decide)) (fun hj => ?_)
    have l0 := lt c3 (by decide)
    have a1 := a1 (by omega)
    have b1 := b1 hj
    have w1 := WL c1 wk_212 (by omega)
    have w2 : Pp (i + 1) + 1 ≤ Pp (i + 2) := W1 (i + 1) (by omega)
    have w3 : Pp (i + 2) + 1 ≤ Pp (i + 3) := W1 (i + 2) (by omega)
    have w4 := WL c3 wk_208 l0
    rw [c2, wk_1.2.2.2] at w1
    rw [c3, wk_208.2.2.1] at a1
    have tw : (tW (tN 1 i 0 0 s0 s0 a b)).length = 1 + (tW a).length + (tW b).length := by
      show ((i + 1) :: (tW a ++ tW b)).length = _
      rw [List.length_cons, List.length_append]; omega
    have n1 : nF (tN 1 i 0 0 s0 s0 a b) = 0 + nF a + nF b := rfl
    have n2 : bW (tN 1 i 0 0 s0 s0 a b) = 4 + (bW a + bW b) := rfl
    have n3 : gnL (tN 1 i 0 0 s0 s0 a b) = 2279 + (gnL a + gnL b) := rfl
    have n4 : sv (tN 1 i 0 0 s0 s0 a b) = 915 + (sv a + sv b) := rfl
    have n5 : pnL (tN 1 i 0 0 s0 s0 a b) = (pnL a - q16 a) + pnL b := rfl
    rw [tw, n1, n2, n3, n4, n5, c1, wk_212.2.2.2]
    omega
  · rintro k i q a l b j c1 c2 c2' q1 q4 cq A c3 B
    have A4 := A.af
    obtain ⟨a0, -, -, a1⟩ := A
    obtain ⟨b0, -, -, b1⟩ := B
    refine pEl.mk (by omega) (fun z => by cases z) (fun z => by rw [c1] at z; exact absurd z (by decide)) (fun hj => ?_)
    have l0 := lt c3 (by decide)
    have a1 := a1 (by omega)
    have b1 := b1 hj
    have w1 := WL c1 wk_212 (by omega)
    have w2 := WL c2 wk_219 (by omega)
    have w3 := WL c2' wk_1 (by omega)
    rw [c2, wk_219.2.2.2] at w1
    rw [show i + 1 + 1 = i + 2 from rfl, c2', wk_1.2.2.2] at w2
    have cq0 := cq 0 (by omega)
    rw [show i + 3 + 0 = i + 3 from rfl] at cq0
    rw [show i + 2 + 1 = i + 3 from rfl, cq0, wk_1.2.2.2] at w3
    have ps : ∀ r, r < q → Pp (i + 3) + 2 * r + 1 ≤ Pp (i + 3 + r + 1) ∧ (r + 1 < q → Pp (i + 3) + 2 * r + 2 ≤ Pp (i + 3 + r + 1)) := by
      intro r
      induction r with
      | zero =>
        intro hr
        have x := WL cq0 wk_1 (by omega)
        refine ⟨by show Pp (i + 3) + 2 * 0 + 1 ≤ Pp (i + 3 + 1); omega, fun h1 => ?_⟩
        have c := cq 1 h1
        rw [c, wk_1.2.2.2] at x
        show Pp (i + 3) + 2 * 0 + 2 ≤ Pp (i + 3 + 1)
        omega
      | succ r ih =>
        intro hr
        have y := (ih (by omega)).2 hr
        have x := WL (cq (r + 1) hr) wk_1 (by omega)
        rw [show i + 3 + (r + 1) = i + 3 + r + 1 from rfl] at x
        refine ⟨by show Pp (i + 3) + 2 * (r + 1) + 1 ≤ Pp (i + 3 + r + 1 + 1); omega, fun h1 => ?_⟩
        have c := cq (r + 1 + 1) h1
        rw [show i + 3 + (r + 1 + 1) = i + 3 + r + 1 + 1 from rfl] at c
        rw [c, wk_1.2.2.2] at x
        show Pp (i + 3) + 2 * (r + 1) + 2 ≤ Pp (i + 3 + r + 1 + 1)
        omega
    have w5 := (ps (q - 1) (by omega)).1
    rw [show i + 3 + (q - 1) + 1 = i + 3 + q by omega] at w5
    have w6 := W1 (i + 3 + q) (by omega)
    have w4 := WL c3 wk_208 l0
    rw [c3, wk_208.2.2.1] at a1
    have tw : (tW (tN 2 i q 0 s0 s0 a b)).length = 1 + q + (tW a).length + (tW b).length := by
      show ((i + 2) :: (List.range' (i + 3) q ++ (tW a ++ tW b))).length = _
      rw [List.length_cons, List.length_append, List.length_append, List.length_range']; omega
    have n1 : nF (tN 2 i q 0 s0 s0 a b) = 1 + nF a + nF b := rfl
    have n2 : bW (tN 2 i q 0 s0 s0 a b) = 4 + 19 * q + (bW a + bW b) := rfl
    have n3 : gnL (tN 2 i q 0 s0 s0 a b) = 3620 + 311 * q + (gnL a + gnL b) := rfl
    have n4 : sv (tN 2 i q 0 s0 s0 a b) = 1300 + (sv a + sv b) := rfl
    have n5 : pnL (tN 2 i q 0 s0 s0 a b) = (pnL a - q16 a) + pnL b := rfl
    rw [tw, n1, n2, n3, n4, n5, c1, wk_212.2.2.2]
    omega
  · rintro k i a j c1 c2 c3 A
    have A4 := A.af
    obtain ⟨a0, -, -, a1⟩ := A
    refine pEl.mk (by omega) (fun z => by cases z) (fun z => by show 143 ≤ 1904 + (gnL a + 0); omega) (fun hj => ?_)
    have a1 := a1 hj
    have w1 := WL c1 wk_206 (by omega)
    have w2 : Pp (i + 1) + 1 ≤ Pp (i + 2) := W1 (i + 1) (by omega)
    have w3 := W (i + 2) (by omega)
    rw [c3, wk_304] at w3
    have w3 : Pp (i + 2) + 2 ≤ Pp (i + 3) := Nat.le_trans (Nat.le_add_right _ _) w3
    rw [c2, wk_1.2.2.2] at w1
    have tw : (tW (tN 3 i 0 0 s0 s0 a tZ)).length = 1 + (tW a).length := by
      show ((i + 1) :: tW a).length = _
      rw [List.length_cons]; omega
    have n1 : nF (tN 3 i 0 0 s0 s0 a tZ) = 1 + nF a + 0 := rfl
    have n2 : bW (tN 3 i 0 0 s0 s0 a tZ) = 19 + (bW a + 0) := rfl
    have n3 : gnL (tN 3 i 0 0 s0 s0 a tZ) = 1595 + 309 + (gnL a + 0) := rfl
    have n4 : sv (tN 3 i 0 0 s0 s0 a tZ) = 600 + (sv a + 0) := rfl
    have n5 : pnL (tN 3 i 0 0 s0 s0 a tZ) = pnL a - q16 a := rfl
    rw [tw, n1, n2, n3, n4, n5, c1, wk_206.2.2.2]
    omega
  · rintro k i c l a m b j c1 hc c2 A c3 B
    obtain ⟨a0, -, -, a1⟩ := A
    obtain ⟨b0, -, -, b1⟩ := B
    have e0 := aE_nd0 hz _ _ _ _ hc
    refine pEl.mk (by omega) (fun z => by cases z) (fun z => by rw [c1] at z; exact absurd z (by decide)) (fun hj => ?_)
    have l0 := lt c2 (by decide)
    have m0 := lt c3 (by decide)
    have a1 := a1 (by omega)
    have b1 := b1 hj
    have w1 := WL c1 wk_207 (by omega)
    have w2 := MO (i + 1) l (by omega) (by omega)
    have w3 := WL c2 wk_222 l0
    have w4 := WL c3 wk_204 m0
    rw [c3, wk_204.2.2.1] at a1
    have tw : (tW (tN 4 i 0 0 s0 s0 c (tN 31 0 0 0 s0 s0 a b))).length = (tW a).length + (tW b).length := by
      show (tW a ++ tW b).length = _
      rw [List.length_append]
    have n1 : nF (tN 4 i 0 0 s0 s0 c (tN 31 0 0 0 s0 s0 a b)) = 0 + 0 + (0 + nF a + nF b) := rfl
    have n2 : bW (tN 4 i 0 0 s0 s0 c (tN 31 0 0 0 s0 s0 a b)) = 8 + (0 + (0 + (bW a + bW b))) := rfl
    have n3 : gnL (tN 4 i 0 0 s0 s0 c (tN 31 0 0 0 s0 s0 a b)) = 3025 + (0 + (0 + (gnL a + gnL b))) := rfl
    have n4 : sv (tN 4 i 0 0 s0 s0 c (tN 31 0 0 0 s0 s0 a b)) = 450 + (0 + (0 + (sv a + sv b))) := rfl
    have n5 : pnL (tN 4 i 0 0 s0 s0 c (tN 31 0 0 0 s0 s0 a b)) = pnL a + pnL b := rfl
    rw [tw, n1, n2, n3, n4, n5, c1, wk_207.2.2.2]
    omega
  · rintro k i c l a j c1 hc c2 A
    have A4 := A.af
    obtain ⟨a0, -, -, a1⟩ := A
    have e0 := aE_nd0 hz _ _ _ _ hc
    refine pEl.mk (by omega) (fun z => by cases z) (fun z => by rw [c1] at z; exact absurd z (by decide)) (fun hj => ?_)
    have l0 := lt c2 (by decide)
    have a1 := a1 hj
    have w1 := WL c1 wk_201 (by omega)
    have w2 := MO (i + 1) l (by omega) (by omega)
    have w3 := W1 l l0
    have tw : (tW (tN 5 i 0 0 s0 s0 c a)).length = (tW a).length := rfl
    have n1 : nF (tN 5 i 0 0 s0 s0 c a) = 0 + 0 + nF a := rfl
    have n2 : bW (tN 5 i 0 0 s0 s0 c a) = 9 + (0 + bW a) := rfl
    have n3 : gnL (tN 5 i 0 0 s0 s0 c a) = 1840 + (0 + gnL a) := rfl
    have n4 : sv (tN 5 i 0 0 s0 s0 c a) = 230 + (0 + sv a) := rfl
    have n5 : pnL (tN 5 i 0 0 s0 s0 c a) = pnL a - q16 a := rfl
    rw [tw, n1, n2, n3, n4, n5, c1, wk_201.2.2.2]
    omega
  · rintro k i S l S' m a j c1 c2 c3 hS c4 c5 hS' c6 A
    have A4 := A.af
    obtain ⟨a0, -, -, a1⟩ := A
    obtain ⟨⟨-, f1⟩, -⟩ := aSm_fx hS
    obtain ⟨⟨-, g1⟩, -⟩ := aSm_fx hS'
    refine pEl.mk (by omega) (fun z => by cases z) (fun z => by rw [c1] at z; exact absurd z (by decide)) (fun hj => ?_)
    have m0 := lt c6 (by decide)
    have a1 := a1 hj
    have w1 := WL c1 wk_220 (by omega)
    rw [c2, wk_1.2.2.2] at w1
    have w2 := MO (i + 1) (m + 1) (by omega) (by omega)
    have tw : (tW (tN 6 i 0 0 S S' a tZ)).length = (tW a).length := rfl
    have n1 : nF (tN 6 i 0 0 S S' a tZ) = 0 + nF a + 0 := rfl
    have n2 : bW (tN 6 i 0 0 S S' a tZ) = 5 + (bW a + 0) := rfl
    have n3 : gnL (tN 6 i 0 0 S S' a tZ) = 1144 + (gnL a + 0) := rfl
    have n4 : sv (tN 6 i 0 0 S S' a tZ) = 0 + (sv a + 0) := rfl
    have n5 : pnL (tN 6 i 0 0 S S' a tZ) = pnL a - q16 a := rfl
    rw [tw, n1, n2, n3, n4, n5, c1, wk_220.2.2.2]
    omega
  · rintro k i S j c1 hS
    obtain ⟨⟨-, f1⟩, -⟩ := aSm_fx hS
    refine pEl.mk (by omega) (fun z => by cases z) (fun z => by rw [c1] at z; exact absurd z (by decide)) (fun hj => ?_)
    have w1 := WL c1 wk_215 (by omega)
    have w2 := MO (i + 1) j (by omega) (by omega)
    have tw : (tW (tN 7 i 0 0 S s0 tZ tZ)).length = 0 := rfl
    have n1 : nF (tN 7 i 0 0 S s0 tZ tZ) = 0 := rfl
    have n2 : bW (tN 7 i 0 0 S s0 tZ tZ) = 22 := rfl
    have n3 : gnL (tN 7 i 0 0 S s0 tZ tZ) = 942 := rfl
    have n4 : sv (tN 7 i 0 0 S s0 tZ tZ) = 0 := rfl
    rw [tw, n1, n2, n3, n4, c1, wk_215.2.2.2]
    omega
  · rintro k i g hg
    rcases hg with ⟨c1, rfl⟩ | ⟨c1, rfl⟩ | ⟨c1, rfl⟩
    · refine pEl.mk (by omega) (fun z => by cases z) (fun z => by rw [c1] at z; exact absurd z (by decide)) (fun hj => ?_)
      have w1 := WL c1 wk_223 (by omega)
      have tw : (tW (tN 8 i 0 0 s0 s0 tZ tZ)).length = 0 := rfl
      have n1 : nF (tN 8 i 0 0 s0 s0 tZ tZ) = 0 := rfl
      have n2 : bW (tN 8 i 0 0 s0 s0 tZ tZ) = 15 := rfl
      have n3 : gnL (tN 8 i 0 0 s0 s0 tZ tZ) = 939 := rfl
      have n4 : sv (tN 8 i 0 0 s0 s0 tZ tZ) = 0 := rfl
      rw [tw, n1, n2, n3, n4, c1, wk_223.2.2.2]
      omega
    · refine pEl.mk (by omega) (fun z => by cases z) (fun z => by rw [c1] at z; exact absurd z (by decide)) (fun hj => ?_)
      have w1 := WL c1 wk_205 (by omega)
      have tw : (tW (tN 9 i 0 0 s0 s0 tZ tZ)).length = 0 := rfl
      have n1 : nF (tN 9 i 0 0 s0 s0 tZ tZ) = 0 := rfl
      have n2 : bW (tN 9 i 0 0 s0 s0 tZ tZ) = 15 := rfl
      have n3 : gnL (tN 9 i 0 0 s0 s0 tZ tZ) = 939 := rfl
      have n4 : sv (tN 9 i 0 0 s0 s0 tZ tZ) = 0 := rfl
      rw [tw, n1, n2, n3, n4, c1, wk_205.2.2.2]
      omega
    · refine pEl.mk (by omega) (fun z => by cases z) (fun z => by rw [c1] at z; exact absurd z (by decide)) (fun hj => ?_)
      have w1 := WL c1 wk_216 (by omega)
      have tw : (tW (tN 17 i 0 0 s0 s0 tZ tZ)).length = 0 := rfl
      have n1 : nF (tN 17 i 0 0 s0 s0 tZ tZ) = 0 := rfl
      have n2 : bW (tN 17 i 0 0 s0 s0 tZ tZ) = 25 := rfl
      have n3 : gnL (tN 17 i 0 0 s0 s0 tZ tZ) = 939 := rfl
      have n4 : sv (tN 17 i 0 0 s0 s0 tZ tZ) = 0 := rfl
      rw [tw, n1, n2, n3, n4, c1, wk_216.2.2.2]
      omega
  · rintro k i S j c0 hS
    obtain ⟨⟨-, f1⟩, -⟩ := aSm_fx hS
    refine pEl.mk (by omega) (fun z => by cases z) (fun z => (aSm_f hS (Or.inl z)).elim) (fun hj => ?_)
    have w2 := MO i j (by omega) hj
    have tw : (tW (tN 10 i 0 0 S s0 tZ tZ)).length = 0 := rfl
    have n1 : nF (tN 10 i 0 0 S s0 tZ tZ) = 0 := rfl
    have n2 : bW (tN 10 i 0 0 S s0 tZ tZ) = 17 := rfl
    have n3 : gnL (tN 10 i 0 0 S s0 tZ tZ) = 90 := rfl
    have n4 : sv (tN 10 i 0 0 S s0 tZ tZ) = 70 := rfl
    rw [tw, n1, n2, n3, n4]
    omega
  · rintro k i g S l S' j hg hS hS'
    obtain ⟨⟨-, f1⟩, -⟩ := aSm_fx hS
    obtain ⟨⟨-, g1⟩, -⟩ := aSm_fx hS'
    rcases hg with ⟨-, rfl⟩ | ⟨-, rfl⟩ | ⟨-, rfl⟩
    · refine pEl.mk (by omega) (fun z => by cases z) (fun z => (aSm_f hS (Or.inl z)).elim) (fun hj => ?_)
      have w2 := MO i j (by omega) hj
      have tw : (tW (tN 11 i l 0 S S' tZ tZ)).length = 0 := rfl
      have n1 : nF (tN 11 i l 0 S S' tZ tZ) = 0 := rfl
      have n2 : bW (tN 11 i l 0 S S' tZ tZ) = 25 := rfl
      have n3 : gnL (tN 11 i l 0 S S' tZ tZ) = 79 := rfl
      have n4 : sv (tN 11 i l 0 S S' tZ tZ) = 0 := rfl
      rw [tw, n1, n2, n3, n4]
      omega
    · refine pEl.mk (by omega) (fun z => by cases z) (fun z => (aSm_f hS (Or.inl z)).elim) (fun hj => ?_)
      have w2 := MO i j (by omega) hj
      have tw : (tW (tN 12 i l 0 S S' tZ tZ)).length = 0 := rfl
      have n1 : nF (tN 12 i l 0 S S' tZ tZ) = 0 := rfl
      have n2 : bW (tN 12 i l 0 S S' tZ tZ) = 20 := rfl
      have n3 : gnL (tN 12 i l 0 S S' tZ tZ) = 79 := rfl
      have n4 : sv (tN 12 i l 0 S S' tZ tZ) = 0 := rfl
      rw [tw, n1, n2, n3, n4]
      omega
    · refine pEl.mk (by omega) (fun z => by cases z) (fun z => (aSm_f hS (Or.inl z)).elim) (fun hj => ?_)
      have w2 := MO i j (by omega) hj
      have tw : (tW (tN 13 i l 0 S S' tZ tZ)).length = 0 := rfl
      have n1 : nF (tN 13 i l 0 S S' tZ tZ) = 0 := rfl
      have n2 : bW (tN 13 i l 0 S S' tZ tZ) = 32 := rfl
      have n3 : gnL (tN 13 i l 0 S S' tZ tZ) = 79 := rfl
      have n4 : sv (tN 13 i l 0 S S' tZ tZ) = 0 := rfl
      rw [tw, n1, n2, n3, n4]
      omega
  · rintro k i S l c1 c2 hS c3
    obtain ⟨⟨-, f1⟩, -⟩ := aSm_fx hS
    refine pEl.mk (by omega) (fun z => by cases z) (fun z => by rw [c1] at z; exact absurd z (by decide)) (fun hj => ?_)
    have w2 := MO i (l + 1) (by omega) hj
    have tw : (tW (tN 14 i 0 0 S s0 tZ tZ)).length = 0 := rfl
    have n1 : nF (tN 14 i 0 0 S s0 tZ tZ) = 0 := rfl
    have n2 : bW (tN 14 i 0 0 S s0 tZ tZ) = 20 := rfl
    have n3 : gnL (tN 14 i 0 0 S s0 tZ tZ) = 437 := rfl
    have n4 : sv (tN 14 i 0 0 S s0 tZ tZ) = 0 := rfl
    rw [tw, n1, n2, n3, n4, c1, wk_1.2.2.2]
    omega
  · rintro k i as j c1 c2 A
    obtain ⟨a0, a1, -, az, a2⟩ := A
    have nz : ¬ aBz as = true := fun z => by
      rw [(az z).2] at c2
      cases c2
    refine pEl.mk (by omega) (fun z => by cases z) (fun z => by rw [c1] at z; exact absurd z (by decide)) (fun hj => ?_)
    have a2 := a2 hj
    rw [if_neg nz] at a2
    have w1 := WL c1 wk_1 (by omega)
    have tw : (tW (tN 15 i 0 0 s0 s0 as tZ)).length = (tW as).length := rfl
    have n1 : nF (tN 15 i 0 0 s0 s0 as tZ) = 0 + nF as + 0 := rfl
    have n2 : bW (tN 15 i 0 0 s0 s0 as tZ) = 0 + (bW as + 0) := rfl
    have n3 : gnL (tN 15 i 0 0 s0 s0 as tZ) = 507 + (if aBg as = true then 309 else 0) + (gnL as + 0) := rfl
    have n4 : sv (tN 15 i 0 0 s0 s0 as tZ) = 161 + (sv as + 0) := rfl
    have n5 : pnL (tN 15 i 0 0 s0 s0 as tZ) = pnL as := rfl
    rw [tw, n1, n2, n3, n4, n5, c1, wk_1.2.2.2]
    by_cases ha : aBg as = true
    · rw [a1 ha] at w1
      rw [if_pos ha]
      omega
    · rw [if_neg ha]
      omega
  · rintro k i a l c1 A c2
    have A4 := A.af
    have A1 := aF_1 (kk (i + 1))
    obtain ⟨a0, a2, -, a1⟩ := A
    refine pEl.mk (by omega) (fun _ => c1) (fun z => by rw [c1] at z; exact absurd z (by decide)) (fun hj => ?_)
    have l0 := lt c2 (by decide)
    have a1 := a1 (by omega)
    have w1 := W1 i (by omega)
    have w2 := W1 l l0
    rw [c2, wk_41.1] at a1
    have q1 := q16_1 a
    have tw : (tW (tN 16 i 0 0 s0 s0 a tZ)).length = (tW a).length := by
      show (tW a ++ []).length = _
      rw [List.append_nil]
    have n1 : nF (tN 16 i 0 0 s0 s0 a tZ) = 0 + nF a + 0 := rfl
    have n2 : bW (tN 16 i 0 0 s0 s0 a tZ) = 0 + (bW a + 0) := rfl
    have n3 : gnL (tN 16 i 0 0 s0 s0 a tZ) = 0 + (gnL a + 0) := rfl
    have n4 : sv (tN 16 i 0 0 s0 s0 a tZ) = 455 + (sv a + 0) := rfl
    have n5 : pnL (tN 16 i 0 0 s0 s0 a tZ) = pnL a + (1 - q16 a) := rfl
    rw [tw, n1, n2, n3, n4, n5]
    omega
  · rintro k i S l c1 hS c2
    obtain ⟨⟨-, f1⟩, -⟩ := aSm_fx hS
    refine pEl.mk (by omega) (fun z => by cases z) (fun z => by rw [c1] at z; exact absurd z (by decide)) (fun hj => ?_)
    have w1 := WL c1 wk_203 (by omega)
    have w2 := MO (i + 1) (l + 1) (by omega) hj
    have tw : (tW (tN 18 i l 0 S s0 tZ tZ)).length = 0 := rfl
    have n1 : nF (tN 18 i l 0 S s0 tZ tZ) = 0 := rfl
    have n2 : bW (tN 18 i l 0 S s0 tZ tZ) = 25 := rfl
    have n3 : gnL (tN 18 i l 0 S s0 tZ tZ) = 1298 := rfl
    have n4 : sv (tN 18 i l 0 S s0 tZ tZ) = 0 := rfl
    rw [tw, n1, n2, n3, n4, c1, wk_203.2.2.2]
    omega
  · rintro k i a l b j c1 c2 A c3 c4 c5 c6 B
    have A4 := A.af
    have B4 := B.af
    obtain ⟨a0, -, -, a1⟩ := A
    obtain ⟨b0, -, -, b1⟩ := B
    refine pEl.mk (by omega) (fun z => by cases z) (fun z => by rw [c1] at z; exact absurd z (by decide)) (fun hj => ?_)
    have l0 := lt c3 (by decide)
    have a1 := a1 (by omega)
    have b1 := b1 hj
    have w1 := WL c1 wk_214 (by omega)
    rw [c2, wk_1.2.2.2] at w1
    have w2 := MO (i + 1) (i + 5) (by omega) (by omega)
    have w3 := W1 l l0
    have w4 := WL c4 wk_1 (by omega)
    rw [show l + 1 + 1 = l + 2 from rfl, c5, wk_1.2.2.2] at w4
    have w5 := MO (l + 2) (l + 4) (by omega) (by omega)
    rw [c3, wk_59.1] at a1
    have tw : (tW (tN 19 i (l + 1) 0 s0 s0 a b)).length = 2 + (tW a).length + (tW b).length := by
      show (tW a ++ ([l + 1, l + 1 + 1] ++ tW b)).length = _
      rw [List.length_append, List.length_append]
      show (tW a).length + (2 + (tW b).length) = _
      omega
    have n1 : nF (tN 19 i (l + 1) 0 s0 s0 a b) = 0 + nF a + nF b := rfl
    have n2 : bW (tN 19 i (l + 1) 0 s0 s0 a b) = 56 + (bW a + bW b) := rfl
    have n3 : gnL (tN 19 i (l + 1) 0 s0 s0 a b) = 2381 + (gnL a + gnL b) := rfl
    have n4 : sv (tN 19 i (l + 1) 0 s0 s0 a b) = 900 + (sv a + sv b) := rfl
    have n5 : pnL (tN 19 i (l + 1) 0 s0 s0 a b) = (pnL a - q16 a) + (pnL b - q16 b) := rfl
    rw [tw, n1, n2, n3, n4, n5, c1, wk_214.2.2.2]
    omega
  · intro k q i ha
    refine pAl.mk (Nat.le_refl _) (fun z => by cases z) (fun z => by cases z) (fun _ => ⟨rfl, ha⟩) (fun _ => ?_)
    show 272 * (i - i) + 16 * 0 + 8 * 0 + 0 + 0 + 309 * Pp i ≤ 0 + 309 * Pp i + 0 + 89 * 0
    omega
  · rintro k q i b j har n40 hk A
    obtain ⟨b0, b1, b2, bz, b3⟩ := A
    have ei : i < cnt ∨ cnt ≤ i := Nat.lt_or_ge _ _
    have af : aF (kk i) = 1 := by
      rcases hk with c | c
      · rw [c]; exact wk_2.2.2.2
      · rw [c]; exact wk_1.2.2.2
    refine pAl.mk (by omega) (fun _ => af) (fun z => ?_) (fun z => by cases z) (fun hj => ?_)
    · rcases hk with c | c
      · exact c
      · have e2 : aIs kk 2 i = false := by unfold aIs; rw [c]; decide
        have z : (true && true && decide (([((if aIs kk 2 i = true then 0 else 1 : Nat), false, i)] : List tP).all (fun p => p.1 == 0) = true)) = true := z
        rw [e2] at z
        exact absurd z (by simp)
    · have b3 := b3 hj
      have i0 : i < cnt := by omega
      have w1 := W i i0
      have sv' : sv (tN 33 i 0 0 (i, [(if aIs kk 2 i = true then 0 else 1, false, i)]) s0 tZ b) = 132 + (0 + sv b) := rfl
      have n1 : nF (tN 33 i 0 0 (i, [(if aIs kk 2 i = true then 0 else 1, false, i)]) s0 tZ b) = 0 + 0 + nF b := rfl
      have n2 : bW (tN 33 i 0 0 (i, [(if aIs kk 2 i = true then 0 else 1, false, i)]) s0 tZ b) = 49 + (0 + bW b) := rfl
      have n5 : pnL (tN 33 i 0 0 (i, [(if aIs kk 2 i = true then 0 else 1, false, i)]) s0 tZ b) = pnL b := rfl
      have tw : (tW (tN 33 i 0 0 (i, [(if aIs kk 2 i = true then 0 else 1, false, i)]) s0 tZ b)).length = (tW b).length := rfl
      have nz : aBz (tN 33 i 0 0 (i, [(if aIs kk 2 i = true then 0 else 1, false, i)]) s0 tZ b) = false := rfl
      rw [sv', n1, n2, n5, tw, nz, if_neg (show ¬ (false = true) by decide)]
      rcases hk with c | c
      · have e2 : aIs kk 2 i = true := by unfold aIs; rw [c]; decide
        have n3 : gnL (tN 33 i 0 0 (i, [(if aIs kk 2 i = true then 0 else 1, false, i)]) s0 tZ b) = (120 + (if aBn b = true then 309 else 0)) + (0 + gnL b) := by rw [e2]; rfl
        rw [n3]
        rw [c, wk_2.1] at w1
        by_cases hb : aBn b = true
        · rw [b2 hb, show wSp (nI 2) (nI 2) = 1 by decide +kernel] at w1
          rw [if_pos hb]
          have hz' : ¬ aBz b = true := fun z => by
            cases b with
            | leaf => cases hb
            | inner g d u x y => cases z
          rw [if_neg hz'] at b3
          omega
        · rw [if_neg hb]
          split at b3 <;> omega
      · have e2 : aIs kk 2 i = false := by unfold aIs; rw [c]; decide
        have n3 : gnL (tN 33 i 0 0 (i, [(if aIs kk 2 i = true then 0 else 1, false, i)]) s0 tZ b) = (120 + (if aBz b = true ∨ aBg b = true then 309 else 0)) + (0 + gnL b) := by rw [e2]; rfl
        rw [n3]
        rw [c, wk_1.1] at w1
        have se := wSp_e (c' := kk (i + 1)) wk_1.2.1
        by_cases hb : aBz b = true
        · rw [if_pos (Or.inl hb)]
          rw [if_pos hb] at b3
          have ej := (bz hb).1
          rw [← ej] at b3 hj ⊢
          omega
        · by_cases ha : aBg b = true
          · rw [if_pos (Or.inr ha)]
            rw [if_neg hb] at b3
            rw [wSp_L wk_1.2.1, b1 ha] at w1
            omega
          · rw [if_neg (fun z => z.elim hb ha)]
            rw [if_neg hb] at b3
            omega
  · rintro k q i S l b j c1 c2 hS c3 A
    obtain ⟨b0, b1, b2, bz, b3⟩ := A
    obtain ⟨⟨-, f1⟩, -⟩ := aSm_fx hS
    refine pAl.mk (by omega) (fun z => by cases z) (fun z => by cases z) (fun z => by cases z) (fun hj => ?_)
    have l0 := lt c3 (by decide)
    have b3 := b3 hj
    have w2 := MO i (l + 1) (by omega) (by omega)
    have sv' : sv (tN 33 i 1 0 S s0 tZ b) = 551 + (0 + sv b) := rfl
    have n1 : nF (tN 33 i 1 0 S s0 tZ b) = 0 + 0 + nF b := rfl
    have n2 : bW (tN 33 i 1 0 S s0 tZ b) = 49 + (0 + bW b) := rfl
    have n3 : gnL (tN 33 i 1 0 S s0 tZ b) = 613 + (0 + gnL b) := rfl
    have n5 : pnL (tN 33 i 1 0 S s0 tZ b) = pnL b := rfl
    have tw : (tW (tN 33 i 1 0 S s0 tZ b)).length = (tW b).length := rfl
    have nz : aBz (tN 33 i 1 0 S s0 tZ b) = false := rfl
    rw [sv', n1, n2, n3, n5, tw, nz, if_neg (show ¬ (false = true) by decide)]
    split at b3 <;> omega
  · rintro k q i e l b j c1 c2 E c3 A
    obtain ⟨b0, b1, b2, bz, b3⟩ := A
    obtain ⟨a0, -, a2, a1⟩ := E
    have a2 := a2 c2
    refine pAl.mk (by omega) (fun z => by cases z) (fun z => by cases z) (fun z => by cases z) (fun hj => ?_)
    have l0 := lt c3 (by decide)
    have b3 := b3 hj
    have a1 := a1 (by omega)
    have w1 := W1 i (by omega)
    have w2 := W1 l l0
    rw [c3, wk_41.1, c2, wk_206.2.2.2] at a1
    have sv' : sv (tN 34 i 0 0 s0 s0 e b) = 450 + (sv e + sv b) := rfl
    have n1 : nF (tN 34 i 0 0 s0 s0 e b) = 0 + nF e + nF b := rfl
    have n2 : bW (tN 34 i 0 0 s0 s0 e b) = 49 + (bW e + bW b) := rfl
    have n3 : gnL (tN 34 i 0 0 s0 s0 e b) = (gnL e - 143) + gnL b := rfl
    have n5 : pnL (tN 34 i 0 0 s0 s0 e b) = pnL e + pnL b := rfl
    have tw : (tW (tN 34 i 0 0 s0 s0 e b)).length = (tW e).length + (tW b).length := by
      show (tW e ++ tW b).length = _
      rw [List.length_append]
    have nz : aBz (tN 34 i 0 0 s0 s0 e b) = false := rfl
    rw [sv', n1, n2, n3, n5, tw, nz, if_neg (show ¬ (false = true) by decide)]
    split at b3 <;> omega
  · rintro k q i v b j hk A
    obtain ⟨b0, b1, b2, bz, b3⟩ := A
    have ti : i < cnt ∧ aF (kk i) = 1 ∧ (i < cnt → Pp i + 4 ≤ Pp (i + 1)) := by
      rcases hk with ⟨c, -⟩ | ⟨c, -⟩
      · exact ⟨lt c (by decide), by rw [c]; exact wk_223.2.2.2, fun hi => by have := WL c wk_223 hi; omega⟩
      · exact ⟨lt c (by decide), by rw [c]; exact wk_205.2.2.2, fun hi => by have := WL c wk_205 hi; omega⟩
    refine pAl.mk (by omega) (fun _ => ti.2.1) (fun z => by cases z) (fun z => by cases z) (fun hj => ?_)
    have b3 := b3 hj
    have w1 := ti.2.2 ti.1
    have sv' : sv (tN 35 i v 0 s0 s0 tZ b) = 160 + (0 + sv b) := rfl
    have n1 : nF (tN 35 i v 0 s0 s0 tZ b) = 0 + 0 + nF b := rfl
    have n2 : bW (tN 35 i v 0 s0 s0 tZ b) = 45 + (0 + bW b) := rfl
    have n3 : gnL (tN 35 i v 0 s0 s0 tZ b) = 1079 + (0 + gnL b) := rfl
    have n5 : pnL (tN 35 i v 0 s0 s0 tZ b) = pnL b := rfl
    have tw : (tW (tN 35 i v 0 s0 s0 tZ b)).length = (tW b).length := rfl
    have nz : aBz (tN 35 i v 0 s0 s0 tZ b) = false := rfl
    rw [sv', n1, n2, n3, n5, tw, nz, if_neg (show ¬ (false = true) by decide)]
    split at b3 <;> omega
end AEG
