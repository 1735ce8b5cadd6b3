/-! ROOM: what calls take beyond their letters -/
/-- what a function ARG takes beyond the letters of an ARG, in eighths -/
def xfE (wt : Nat) (y : tY) (p q : Nat) : Nat := (8 * (yCo y + 2 * ((p + q) * yMs y)) + wt * (yAr y + 1)) - 3584
theorem kIt_f {y : tY} (h : yK y = 1) (p q : Nat) : kIt y p q + 19 ≤ yCo y + 2 * ((p + q) * yMs y) := by
  have m := gMs_f h
  have e1 := fCp_fCo y p q
  rw [fCo_eq] at e1
  have e2 : 60 ≤ yCo y := by
    obtain ⟨a, b, e⟩ := yK_1 h
    rw [e]
    unfold yCo
    have := yAr_0 (u := ()) (v := ()) (a := a) (b := b)
    unfold yAr at this
    omega
  have t := t15_le q
  have e3 : yCo y = 84 * yMs y + 60 * yUn y + 4 * yDl y := rfl
  unfold kIt
  rw [m, if_neg (by decide)]
  omega
theorem kIm_f {y : tY} (h : yK y = 1) (wt p q : Nat) : kIm wt y p q ≤ 3432 + xfE wt y p q := by
  have k := kIt_f h p q
  have l := Nat.mul_le_mul_left wt (yFn_A y)
  unfold kIm xfE kIu
  rw [if_pos h]
  omega
theorem kIm_n {y : tY} (h : yK y ≠ 1) (wt p q : Nat) : kIm wt y p q ≤ 16 * q + wt := by
  have f := fCp_nf y p q h
  have l : yFn y ≤ 1 := by
    cases y with
    | leaf => exact Nat.le_refl _
    | inner k u v a b =>
      have c : k ≠ 0 := fun z => h (by rw [z]; rfl)
      unfold yFn
      rw [if_neg c]
      split <;> omega
  have l2 := Nat.mul_le_mul_left wt l
  have t := t15_le q
  unfold kIm kIu kIt
  rw [if_neg h, f]
  split
  · omega
  · omega
/-- what a call's ARGS take beyond their letters, in eighths -/
def nEs (wt : Nat) (P : tY → Nat) : Nat → tY → Nat → Nat
  | 0, _, _ => 0
  | k + 1, y, q => (if yK (yL y) = 1 then xfE wt (yL y) (P (yL y)) q else 16 * q + wt - 960) + nEs wt P k (yR y) (q + 1)
theorem kB_nE (wt : Nat) (P : tY → Nat) : ∀ (k : Nat) (y : tY) (q : Nat), kB wt P k y q ≤ 8 * lcA k y + nEs wt P k y q
  | 0, _, _ => Nat.zero_le _
  | k + 1, y, q => by
    have ih := kB_nE wt P k (yR y) (q + 1)
    show kIm wt (yL y) (P (yL y)) q + kB wt P k (yR y) (q + 1) ≤ 8 * ((if yK (yL y) = 1 then 429 else 120) + lcA k (yR y)) + ((if yK (yL y) = 1 then xfE wt (yL y) (P (yL y)) q else 16 * q + wt - 960) + nEs wt P k (yR y) (q + 1))
    by_cases c : yK (yL y) = 1
    · rw [if_pos c, if_pos c]
      have := kIm_f c wt (P (yL y)) q
      omega
    · rw [if_neg c, if_neg c]
      have := kIm_n c wt (P (yL y)) q
      omega
/-- **a call takes no more than its letters and what its ARGS take beyond theirs, less 816** -/
theorem kB_lc (wt : Nat) (P : tY → Nat) (k : Nat) (y : tY) (q : Nat) : kB wt P k y q ≤ 8 * lc y k + (nEs wt P k y q - 6528) := by
  have h := kB_nE wt P k y q
  unfold lc
  by_cases c : k = 0
  · subst c
    exact Nat.zero_le _
  · rw [if_neg c]
    have := Nat.le_max_left (309 + lcA k y) (274 * k + 155)
    omega
theorem xfE_mo (wt : Nat) (y : tY) (p : Nat) {q q' : Nat} (h : q ≤ q') : xfE wt y p q ≤ xfE wt y p q' := by
  unfold xfE
  have : (p + q) * yMs y ≤ (p + q') * yMs y := Nat.mul_le_mul_right _ (by omega)
  omega
theorem nEs_mo (wt : Nat) (P : tY → Nat) : ∀ (k : Nat) (y : tY) (q q' : Nat), q ≤ q' → nEs wt P k y q ≤ nEs wt P k y q'
  | 0, _, _, _, _ => Nat.le_refl _
  | k + 1, y, q, q', h => by
    have h1 := xfE_mo wt (yL y) (P (yL y)) h
    have h2 := nEs_mo wt P k (yR y) (q + 1) (q' + 1) (by omega)
    show (if yK (yL y) = 1 then xfE wt (yL y) (P (yL y)) q else 16 * q + wt - 960) + nEs wt P k (yR y) (q + 1) ≤ (if yK (yL y) = 1 then xfE wt (yL y) (P (yL y)) q' else 16 * q' + wt - 960) + nEs wt P k (yR y) (q' + 1)
    split <;> omega
theorem nEs_ad (wt : Nat) (P : tY → Nat) : ∀ (k l : Nat) (y : tY) (q : Nat), nEs wt P (k + l) y q = nEs wt P k y q + nEs wt P l (yRs k y) (q + k)
  | 0, l, y, q => by
    rw [Nat.zero_add]
    show nEs wt P l y q = 0 + nEs wt P l y q
    omega
  | k + 1, l, y, q => by
    rw [show k + 1 + l = (k + l) + 1 by omega]
    show (if yK (yL y) = 1 then xfE wt (yL y) (P (yL y)) q else 16 * q + wt - 960) + nEs wt P (k + l) (yR y) (q + 1) = (if yK (yL y) = 1 then xfE wt (yL y) (P (yL y)) q else 16 * q + wt - 960) + nEs wt P k (yR y) (q + 1) + nEs wt P l (yRs k (yR y)) (q + (k + 1))
    rw [nEs_ad wt P k l (yR y) (q + 1), show q + 1 + k = q + (k + 1) by omega]
    omega
/-- one call -/
theorem kB_l1 (wt : Nat) (P : tY → Nat) {k : Nat} (h : 0 < k) (y : tY) (q : Nat) : kB wt P k y q + 6528 ≤ 8 * lc y k + nEs wt P k y q := by
  have h1 := kB_nE wt P k y q
  unfold lc
  rw [if_neg (by omega)]
  have := Nat.le_max_left (309 + lcA k y) (274 * k + 155)
  omega
/-- letters of calls -/
def lcT (L : List (tY × Nat × Nat × Nat)) : Nat := (L.map (fun c => lc c.1 c.2.1)).sum
theorem lcT_cn (c : tY × Nat × Nat × Nat) (T : List (tY × Nat × Nat × Nat)) : lcT (c :: T) = lc c.1 c.2.1 + lcT T := by
  unfold lcT
  rw [List.map_cons, List.sum_cons]
theorem lcT_ap (a b : List (tY × Nat × Nat × Nat)) : lcT (a ++ b) = lcT a + lcT b := by
  unfold lcT
  rw [List.map_append, List.sum_append]
theorem ar_n1 {K x1 x2 x3 x4 x5 x6 x7 x8 x9 : Nat} (h1 : x7 + K * x9 ≤ 8 * x6 + x4) (h2 : x8 ≤ x1) (h3 : x1 + K ≤ 8 * x5 + x2) (h4 : x2 ≤ x3) : x8 + x7 + K * (x9 + 1) ≤ 8 * (x5 + x6) + (x3 + x4) := by
  rw [Nat.mul_succ]
  generalize K * x9 = w at h1 ⊢
  omega
theorem ar_n2 {K x1 x2 x3 x4 x5 x6 x7 x8 x9 : Nat} (h1 : x7 + K * x9 ≤ 8 * x6 + x4) (h2 : x8 ≤ x1) (h3 : x1 + K ≤ 8 * x5 + x2) (h4 : x2 ≤ x3) : x7 + (x8 + 0) + K * (x9 + 1) ≤ 8 * (x6 + (x5 + 0)) + (x4 + x3) := by
  rw [Nat.mul_succ]
  generalize K * x9 = w at h1 ⊢
  omega
/-- the calls of a chain, beyond their letters -/
theorem chR_n {wt : Nat} {P : tY → Nat} : ∀ (T : List (tY × Nat × Nat × Nat)) (U : tY) (i : Nat) (Y : tY) (r : Nat), chR U i T Y r → (∀ c, c ∈ T → c.2.2.2 ≤ kB wt P c.2.1 c.1 c.2.2.1) → kSm T + 6528 * T.length ≤ 8 * lcT T + nEs wt P (chN T) U i
  | [], _, _, _, _, _, _ => Nat.zero_le _
  | c :: T, U, i, Y, r, h, hk => by
    have h1 := chR_n T _ _ _ _ h.2 (fun d hd => hk d (List.mem_cons_of_mem _ hd))
    have h2 := hk c (List.mem_cons_self ..)
    have h3 := kB_l1 wt P h.1.2.1 c.1 c.2.2.1
    have h4 := nEs_mo wt P c.2.1 c.1 c.2.2.1 i h.1.2.2
    rw [h.1.1] at h2 h3 h4
    rw [kSm_cn, chN_cn, nEs_ad, lcT_cn, List.length_cons, h.1.1]
    exact ar_n1 h1 h2 h3 h4
/-- a chain's, beyond its letters -/
def chM (tE tN : Nat → tY) (wt : Nat) (P : tY → Nat) (j : ((Nat × Nat) × Nat) × List (tY × Nat × Nat × Nat) × (tY × Nat × Nat × Nat)) : Nat := nEs wt P (chW j) (uY tE tN j.1.1) j.1.2
theorem chJ.n {tE tN : Nat → tY} {Ui : List ((Nat × Nat) × Nat)} {L : List (tY × Nat × Nat × Nat)} {P : tY → Nat} {wt : Nat} {j : ((Nat × Nat) × Nat) × List (tY × Nat × Nat × Nat) × (tY × Nat × Nat × Nat)} (h : chJ tE tN Ui L j) (hk : ∀ c, c ∈ L → c.2.2.2 ≤ kB wt P c.2.1 c.1 c.2.2.1) : kSm (chL j) + 6528 * (chL j).length ≤ 8 * lcT (chL j) + chM tE tN wt P j := by
  obtain ⟨-, h2, h3, h4, h5, -⟩ := h
  have a := chR_n (wt := wt) (P := P) _ _ _ _ _ h5 (fun c hc => hk c (h2 c hc))
  obtain ⟨e, hr⟩ := chR_to _ _ _ _ _ h5
  have b := hk _ h3
  have c := kB_l1 wt P h4 j.2.2.1 j.2.2.2.2.1
  have d := nEs_mo wt P j.2.2.2.1 j.2.2.1 j.2.2.2.2.1 _ hr
  have z : nEs wt P (chN j.2.1 + j.2.2.2.1) (uY tE tN j.1.1) j.1.2 = nEs wt P (chN j.2.1) (uY tE tN j.1.1) j.1.2 + nEs wt P j.2.2.2.1 (yRs (chN j.2.1) (uY tE tN j.1.1)) (j.1.2 + chN j.2.1) := nEs_ad wt P _ _ _ _
  rw [← e] at z
  unfold chM chW chL
  rw [kSm_ap, lcT_ap, List.length_append, kSm_cn, lcT_cn, z]
  have k0 : kSm [] = 0 := rfl
  have l0 : lcT [] = 0 := rfl
  rw [k0, l0, List.length_singleton]
  exact ar_n2 a b c d
theorem ch_sun {tE tN : Nat → tY} {Ui : List ((Nat × Nat) × Nat)} {L : List (tY × Nat × Nat × Nat)} {P : tY → Nat} {wt : Nat} (hk : ∀ c, c ∈ L → c.2.2.2 ≤ kB wt P c.2.1 c.1 c.2.2.1) : ∀ J : List (((Nat × Nat) × Nat) × List (tY × Nat × Nat × Nat) × (tY × Nat × Nat × Nat)), (∀ j, j ∈ J → chJ tE tN Ui L j) → kSm (J.flatMap chL) + 6528 * (J.flatMap chL).length ≤ 8 * lcT (J.flatMap chL) + (J.map (chM tE tN wt P)).sum
  | [], _ => Nat.le_refl _
  | j :: J, h => by
    have a := ch_sun hk J (fun i hi => h i (List.mem_cons_of_mem _ hi))
    have b := (h j (List.mem_cons_self ..)).n hk
    rw [List.flatMap_cons, kSm_ap, lcT_ap, List.map_cons, List.sum_cons, List.length_append]
    omega
