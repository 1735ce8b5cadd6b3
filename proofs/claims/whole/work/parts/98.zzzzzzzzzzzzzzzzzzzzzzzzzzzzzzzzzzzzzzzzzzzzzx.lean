/-! ROOM: TEMPLATES, by arrows, leaves and INSTANCES -/
/-- arrows -/
def yAr (y : tY) : Nat := yMs y + yUn y
/-- **what a TEMPLATE takes** -/
theorem tCs_b (xs : List tQ) : ∀ (y : tY) (c : Nat), tCs xs y c ≤ (29 + 9 * xs.length) * yAr y + (15 + 8 * xs.length) * (yAr y + 1) + 2 * xs.length * yS y c
  | .leaf, c => by
    show 15 ≤ (29 + 9 * xs.length) * 0 + (15 + 8 * xs.length) * 1 + 2 * xs.length * 0
    omega
  | .inner k u v a b, c => by
    have ia := tCs_b xs a c
    have ib := tCs_b xs b (c + if gMs a = true then 1 else 0)
    have g := gIl_lx (.inner k u v a b) c xs
    unfold tCs yS
    obtain ⟨n, hn⟩ : ∃ n, n = xs.length := ⟨_, rfl⟩
    rw [← hn] at ia ib g ⊢
    unfold yAr at *
    unfold yMs yUn
    by_cases h0 : k = 0
    · rw [if_pos h0, if_pos h0, if_pos h0, if_pos h0]
      generalize tCs xs a c = ta at *
      generalize tCs xs b (c + if gMs a = true then 1 else 0) = tb at *
      generalize yS a c = sa at *
      generalize yS b (c + if gMs a = true then 1 else 0) = sb at *
      have e1 : (if gMs a = true then 1 else 0) + (yMs a + yMs b) + ((if gMs a = true then 0 else 1) + (yUn a + yUn b)) = (yMs a + yUn a) + (yMs b + yUn b) + 1 := by split <;> omega
      rw [e1]
      generalize yMs a + yUn a = x at *
      generalize yMs b + yUn b = y at *
      simp only [Nat.add_mul, Nat.mul_add, Nat.mul_one] at *
      omega
    · rw [if_neg h0, if_neg h0, if_neg h0, if_neg h0]
      by_cases h2 : k = 2
      · rw [if_pos h2, if_pos h2]
        simp only [Nat.add_mul, Nat.mul_add, Nat.mul_one]
        omega
      · rw [if_neg h2, if_neg h2]
        generalize gIl xs (.inner k u v a b) c = gi at *
        rw [Nat.mul_assoc]
        generalize n * max 1 c = nm at *
        omega
/-- all arrows of TEMPLATES -/
def tlN (l : List (Nat × tY × List Nat)) : Nat := (l.map (fun x => yAr x.2.1)).sum
theorem tlN_ap (l m : List (Nat × tY × List Nat)) : tlN (l ++ m) = tlN l + tlN m := by
  unfold tlN
  rw [List.map_append, List.sum_append]
theorem tlN_cn (x : Nat × tY × List Nat) (l : List (Nat × tY × List Nat)) : tlN (x :: l) = yAr x.2.1 + tlN l := by
  unfold tlN
  rw [List.map_cons, List.sum_cons]
/-- arrows and TEMPLATES are no more than leaves -/
theorem tlN_lv : ∀ l : List (Nat × tY × List Nat), tlN l + l.length ≤ tLv l
  | [] => Nat.le_refl _
  | x :: l => by
    have I := tlN_lv l
    have h := yMs_lv x.2.1
    have e : tLv (x :: l) = yLv x.2.1 + tLv l := by
      unfold tLv
      rw [List.map_cons, List.sum_cons]
    rw [tlN_cn, e, List.length_cons]
    unfold yAr
    omega
/-- what TEMPLATES take, one by one -/
def tlO (xs : List tQ) (l : List ((Nat × tY × List Nat) × Nat)) : Nat := (l.map (fun x => 8 * tCs xs x.1.2.1 x.2)).sum
theorem tlO_ap (xs : List tQ) (l m : List ((Nat × tY × List Nat) × Nat)) : tlO xs (l ++ m) = tlO xs l + tlO xs m := by
  unfold tlO
  rw [List.map_append, List.sum_append]
theorem tlO_cn (xs : List tQ) (x : (Nat × tY × List Nat) × Nat) (l : List ((Nat × tY × List Nat) × Nat)) : tlO xs (x :: l) = 8 * tCs xs x.1.2.1 x.2 + tlO xs l := by
  unfold tlO
  rw [List.map_cons, List.sum_cons]
theorem tlO_b (xs : List tQ) : ∀ l : List ((Nat × tY × List Nat) × Nat), tlO xs l ≤ 8 * ((29 + 9 * xs.length) * tlN (l.map Prod.fst) + (15 + 8 * xs.length) * (tlN (l.map Prod.fst) + l.length) + 2 * xs.length * sYs l)
  | [] => Nat.zero_le _
  | x :: l => by
    have I := tlO_b xs l
    have h := tCs_b xs x.1.2.1 x.2
    rw [tlO_cn, List.map_cons, tlN_cn, sYs_c, List.length_cons]
    generalize xs.length = n at *
    generalize yAr x.1.2.1 = a at *
    generalize tlN (l.map Prod.fst) = m at *
    generalize yS x.1.2.1 x.2 = s at *
    generalize sYs l = ss at *
    simp only [Nat.add_mul, Nat.mul_add, Nat.mul_one] at *
    omega
section OTC
variable {kk : Nat → Int32} {cnt : Nat} {tE tN : Nat → tY} {xs : List tQ}
theorem oTt_c : ∀ (t : tT) (l : Nat), tWf kk cnt t l → ∀ (env : List Nat), oTt tE tN xs t env = tlO xs (tLc tE tN t env)
  | .leaf, _, _, _ => rfl
  | .inner g d u a b, l, h, env => by
    have gs : ∀ env, (gSv tN env).length = mSd tN env := fun env => gSv_l tN env
    rcases h with ⟨rfl, rfl, -, ha, hb⟩ | ⟨rfl, -, hb, h⟩ | ⟨rfl, h⟩
    · show oTt tE tN xs a env + oTt tE tN xs b env = tlO xs (tLc tE tN a env ++ tLc tE tN b env)
      rw [tlO_ap, oTt_c a 0 ha, oTt_c b 0 hb]
    · rcases h with ⟨rfl, -, -⟩ | ⟨rfl, -, ha⟩ | ⟨rfl, -, -, -⟩
      · exact oTt_c b 2 hb env
      · show oTt tE tN xs a env + oTt tE tN xs b env = tlO xs (tLc tE tN a env ++ tLc tE tN b env)
        rw [tlO_ap, oTt_c a 0 ha, oTt_c b 2 hb]
      · exact oTt_c b 2 hb env
    · rcases h with ⟨rfl, -, ha, hb⟩ | ⟨rfl, -, ha, hb⟩ | ⟨rfl, -, ha⟩ | ⟨rfl, -, hb⟩ | ⟨rfl, -, hb⟩ | ⟨rfl, -, -, ha⟩ | ⟨rfl | rfl, -⟩ | ⟨rfl | rfl | rfl, -⟩ | ⟨rfl | rfl | rfl, -⟩ | ⟨rfl, -⟩ | ⟨rfl, -, ha⟩ | ⟨rfl, -, ha, -⟩ | ⟨rfl, -⟩ | ⟨rfl, -, ha, hb⟩
      · show 8 * tCs xs (tE d.1) (gSv tN env).length + (oTt tE tN xs a env + oTt tE tN xs b (env ++ [d.1 + 1])) = tlO xs (((2 * d.1, tE d.1, []), mSd tN env) :: (tLc tE tN a env ++ tLc tE tN b (env ++ [d.1 + 1])))
        rw [tlO_cn, tlO_ap, oTt_c a 0 ha, oTt_c b 0 hb, gs]
      · show 8 * tCs xs (tN (d.1 + 2)) (gSv tN env).length + 8 * tCs xs (tE d.1) (gSv tN env).length + (oTt tE tN xs a (env ++ ([d.1 + 2] ++ List.range' (d.1 + 3) d.2.1)) + oTt tE tN xs b (env ++ [d.1 + 2])) = tlO xs (((2 * d.1, tE d.1, []), mSd tN env) :: ((2 * d.1 + 1, tN (d.1 + 2), List.range' (d.1 + 3) d.2.1), mSd tN env) :: (tLc tE tN a (env ++ ([d.1 + 2] ++ List.range' (d.1 + 3) d.2.1)) ++ tLc tE tN b (env ++ [d.1 + 2])))
        rw [tlO_cn, tlO_cn, tlO_ap, oTt_c a 0 ha, oTt_c b 0 hb, gs]
        show 8 * tCs xs (tN (d.1 + 2)) (mSd tN env) + 8 * tCs xs (tE d.1) (mSd tN env) + _ = 8 * tCs xs (tE d.1) (mSd tN env) + (8 * tCs xs (tN (d.1 + 2)) (mSd tN env) + _)
        omega
      · show 8 * tCs xs (tE d.1) (gSv tN env).length + oTt tE tN xs a (env ++ [d.1 + 1]) = tlO xs (((2 * d.1, tE d.1, [d.1 + 1]), mSd tN env) :: tLc tE tN a (env ++ [d.1 + 1]))
        rw [tlO_cn, oTt_c a 0 ha, gs]
      · show 8 * tCs xs (tE d.1) (gSv tN env).length + oTt tE tN xs b env = tlO xs (((2 * d.1, tE d.1, []), mSd tN env) :: tLc tE tN b env)
        rw [tlO_cn, oTt_c b 1 hb, gs]
      · exact oTt_c b 0 hb env
      · exact oTt_c a 0 ha env
      · rfl
      · rfl
      · rfl
      · rfl
      · rfl
      · rfl
      · rfl
      · rfl
      · rfl
      · exact oTt_c a 2 ha env
      · exact oTt_c a 0 ha env
      · rfl
      · show 8 * tCs xs (tE d.1) (gSv tN env).length + (oTt tE tN xs a env + oTt tE tN xs b (env ++ [d.2.1, d.2.1 + 1])) = tlO xs (((2 * d.1, tE d.1, []), mSd tN env) :: (tLc tE tN a env ++ tLc tE tN b (env ++ [d.2.1, d.2.1 + 1])))
        rw [tlO_cn, tlO_ap, oTt_c a 0 ha, oTt_c b 0 hb, gs]
end OTC
