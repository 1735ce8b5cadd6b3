/-! what must be SO, counted -/
section WND
variable {T : Nat} {f pp ee : Nat → Int32} {tE tN : Nat → tY}
set_option maxHeartbeats 4000000 in
/-- **needs are no more than the places that make them** -/
theorem gWk_nd : ∀ (t : tT) (env : List Nat) (sc : List gEn) (A : gTy) (s : gSt), (gWk T f pp ee tE tN t env sc A s).1.2.2.length ≤ s.2.2.length + nNd t
  | .leaf, _, _, _, s => Nat.le_refl _
  | .inner g d u a b, env, sc, A, s => by
    by_cases c1 : g = 1
    · subst c1
      have n1 : nNd (.inner 1 d u a b) = 0 + (nNd a + nNd b) := rfl
      rw [n1]
      obtain ⟨r1, h1⟩ : ∃ z : gSt × gTy, z = gWk T f pp ee tE tN a env sc A s := ⟨_, rfl⟩
      obtain ⟨r2, h2⟩ : ∃ z : gSt × gTy, z = gWk T f pp ee tE tN b (env ++ [d.1 + 1]) (gNm (.inl (d.1 + 1)) r1.2 sc) A (gTn (d.1 + 1) r1.2 r1.1) := ⟨_, rfl⟩
      have i1 : r1.1.2.2.length ≤ s.2.2.length + nNd a := by rw [h1]; exact gWk_nd a env sc A s
      have i2 : r2.1.2.2.length ≤ r1.1.2.2.length + nNd b := by rw [h2]; exact gWk_nd b (env ++ [d.1 + 1]) (gNm (.inl (d.1 + 1)) r1.2 sc) A (gTn (d.1 + 1) r1.2 r1.1)
      have e : (gWk T f pp ee tE tN (.inner 1 d u a b) env sc A s).1.2.2 = r2.1.2.2 := by subst h2; subst h1; rfl
      rw [e]; omega
    by_cases c2 : g = 2
    · subst c2
      have n1 : nNd (.inner 2 d u a b) = 0 + (nNd a + nNd b) := rfl
      rw [n1]
      obtain ⟨F, hF⟩ : ∃ z : gTy, z = gTp (2 * d.1 + 1) (tN (d.1 + 2)) (List.range' (d.1 + 3) d.2.1) sc := ⟨_, rfl⟩
      obtain ⟨p, hp⟩ : ∃ z : List gEn × gTy × gSt, z = gPa d.2.1 (d.1 + 3) F sc (gTn (d.1 + 2) F s) := ⟨_, rfl⟩
      obtain ⟨r1, h1⟩ : ∃ z : gSt × gTy, z = gWk T f pp ee tE tN a (env ++ ([d.1 + 2] ++ List.range' (d.1 + 3) d.2.1)) p.1 A p.2.2 := ⟨_, rfl⟩
      obtain ⟨r2, h2⟩ : ∃ z : gSt × gTy, z = gWk T f pp ee tE tN b (env ++ [d.1 + 2]) sc A (gFt (gFi (gSy p.2.1) r1.2 p.2.1 p.1) r1.1) := ⟨_, rfl⟩
      have p2 : p.2.2.2 = s.2 := by rw [hp]; exact gPa_2 d.2.1 (d.1 + 3) F sc (gTn (d.1 + 2) F s)
      have i1 : r1.1.2.2.length ≤ p.2.2.2.2.length + nNd a := by rw [h1]; exact gWk_nd a (env ++ ([d.1 + 2] ++ List.range' (d.1 + 3) d.2.1)) p.1 A p.2.2
      have i2 : r2.1.2.2.length ≤ r1.1.2.2.length + nNd b := by rw [h2]; exact gWk_nd b (env ++ [d.1 + 2]) sc A (gFt (gFi (gSy p.2.1) r1.2 p.2.1 p.1) r1.1)
      rw [p2] at i1
      have e : (gWk T f pp ee tE tN (.inner 2 d u a b) env sc A s).1.2.2 = r2.1.2.2 := by subst h2; subst h1; subst hp; subst hF; rfl
      rw [e]; omega
    by_cases c3 : g = 3
    · subst c3
      have n1 : nNd (.inner 3 d u a b) = 0 + (nNd a + nNd b) := rfl
      rw [n1]
      have i1 : _ ≤ s.2.2.length + nNd a := gWk_nd a (env ++ [d.1 + 1]) (gNm (.inl (d.1 + 1)) (gTk (gTp (2 * d.1) (tE d.1) [d.1 + 1] sc)) sc) A (gTn (d.1 + 1) (gTk (gTp (2 * d.1) (tE d.1) [d.1 + 1] sc)) s)
      exact Nat.le_trans i1 (by omega)
    by_cases c4 : g = 4
    · subst c4
      have n1 : nNd (.inner 4 d u a b) = 0 + (0 + nNd b) := rfl
      rw [n1]
      have i1 := gWk_nd b env (.inr (.inl (a, env), true) :: sc) (gTp (2 * d.1) (tE d.1) [] sc) s
      exact Nat.le_trans i1 (by omega)
    by_cases c5 : g = 5
    · subst c5
      have n1 : nNd (.inner 5 d u a b) = 1 + (0 + nNd b) := rfl
      rw [n1]
      have i1 := gWk_nd b env (.inr (.inl (a, env), true) :: sc) A (gNe (sc, d.1, 0, a, [], env, 0) s)
      rw [gNe_ln] at i1
      exact Nat.le_trans i1 (by omega)
    by_cases c6 : g = 6
    · subst c6
      have n1 : nNd (.inner 6 d u a b) = 1 + (nNd a + nNd b) := rfl
      rw [n1]
      have i1 := gWk_nd a env sc A (gNe (sc, d.1 + 2, 3, .leaf, d.2.2.2.1.2, env, gNu f pp ee env (d.1 + 1)) s)
      rw [gNe_ln] at i1
      exact Nat.le_trans i1 (by omega)
    by_cases c7 : g = 7
    · subst c7
      have n1 : nNd (.inner 7 d u a b) = 1 + (nNd a + nNd b) := rfl
      rw [n1]
      have i1 := gNe_ln (sc, d.1, 2, .leaf, d.2.2.2.1.2, env, 0) s
      exact Nat.le_trans (Nat.le_of_eq i1) (by omega)
    by_cases c8 : g = 8
    · subst c8
      have n1 : nNd (.inner 8 d u a b) = 0 + (nNd a + nNd b) := rfl
      rw [n1]
      exact Nat.le_add_right _ _
    by_cases c9 : g = 9
    · subst c9
      have n1 : nNd (.inner 9 d u a b) = 0 + (nNd a + nNd b) := rfl
      rw [n1]
      exact Nat.le_add_right _ _
    by_cases c10 : g = 10
    · subst c10
      have n1 : nNd (.inner 10 d u a b) = 0 + (nNd a + nNd b) := rfl
      rw [n1]
      exact Nat.le_add_right _ _
    by_cases c17 : g = 17
    · subst c17
      have n1 : nNd (.inner 17 d u a b) = 0 + (nNd a + nNd b) := rfl
      rw [n1]
      exact Nat.le_add_right _ _
    by_cases c18 : g = 18
    · subst c18
      have n1 : nNd (.inner 18 d u a b) = 0 + (nNd a + nNd b) := rfl
      rw [n1]
      exact Nat.le_add_right _ _
    by_cases c11 : g = 11
    · subst c11
      have n1 : nNd (.inner 11 d u a b) = 0 + (nNd a + nNd b) := rfl
      rw [n1]
      exact Nat.le_add_right _ _
    by_cases c12 : g = 12
    · subst c12
      have n1 : nNd (.inner 12 d u a b) = 1 + (nNd a + nNd b) := rfl
      rw [n1]
      have i1 := gNe_ln (sc, d.2.1, 1, .leaf, d.2.2.2.2.2, env, 0) s
      exact Nat.le_trans (Nat.le_of_eq i1) (by omega)
    by_cases c13 : g = 13
    · subst c13
      have n1 : nNd (.inner 13 d u a b) = 1 + (nNd a + nNd b) := rfl
      rw [n1]
      have i1 := gNe_ln (sc, d.2.1, 1, .leaf, d.2.2.2.2.2, env, 0) s
      exact Nat.le_trans (Nat.le_of_eq i1) (by omega)
    by_cases c14 : g = 14
    · subst c14
      have n1 : nNd (.inner 14 d u a b) = 1 + (nNd a + nNd b) := rfl
      rw [n1]
      have i1 := gNe_ln (sc, d.1 + 1, 3, .leaf, d.2.2.2.1.2, env, gNu f pp ee env d.1) s
      exact Nat.le_trans (Nat.le_of_eq i1) (by omega)
    by_cases c15 : g = 15
    · subst c15
      have n1 : nNd (.inner 15 d u a b) = 0 + (nNd a + nNd b) := rfl
      rw [n1]
      have i1 := gWk_nd a env sc (s.1 (gNu f pp ee env d.1)) s
      exact Nat.le_trans i1 (by omega)
    by_cases c16 : g = 16
    · subst c16
      have n1 : nNd (.inner 16 d u a b) = 0 + (nNd a + nNd b) := rfl
      rw [n1]
      have i1 := gWk_nd a env sc A s
      exact Nat.le_trans i1 (by omega)
    by_cases c19 : g = 19
    · subst c19
      have n1 : nNd (.inner 19 d u a b) = 0 + (nNd a + nNd b) := rfl
      rw [n1]
      obtain ⟨l, hl⟩ : ∃ z : Nat, z = gNu f pp ee env (d.1 + 1) := ⟨_, rfl⟩
      obtain ⟨r1, h1⟩ : ∃ z : gSt × gTy, z = gWk T f pp ee tE tN a env (.inr (.inr l, true) :: sc) A s := ⟨_, rfl⟩
      have i1 : r1.1.2.2.length ≤ s.2.2.length + nNd a := by rw [h1]; exact gWk_nd a env (.inr (.inr l, true) :: sc) A s
      have i2 : _ ≤ r1.1.2.2.length + nNd b := gWk_nd b (env ++ [d.2.1, d.2.1 + 1]) (gNm (.inl (d.2.1 + 1)) (gEq (yB 3) (some (.inl l, 1), -1)) (gNm (.inl d.2.1) (gPl (yB 0)) (.inr (.inr l, false) :: sc))) A (gTn (d.2.1 + 1) (gEq (yB 3) (some (.inl l, 1), -1)) (gTn d.2.1 (gPl (yB 0)) (gFt (gFi (tE d.1) r1.2 (gTp (2 * d.1) (tE d.1) [] sc) (.inr (.inr l, true) :: sc)) r1.1)))
      subst h1; subst hl
      exact Nat.le_trans i2 (by omega)
    by_cases c31 : g = 31
    · subst c31
      have n1 : nNd (.inner 31 d u a b) = 0 + (nNd a + nNd b) := rfl
      rw [n1]
      obtain ⟨r1, h1⟩ : ∃ z : gSt × gTy, z = gWk T f pp ee tE tN a env sc A s := ⟨_, rfl⟩
      have i1 : r1.1.2.2.length ≤ s.2.2.length + nNd a := by rw [h1]; exact gWk_nd a env sc A s
      have i2 : _ ≤ r1.1.2.2.length + nNd b := gWk_nd b env (gFl sc) A (gFt (gFi (gSy A) r1.2 A sc) r1.1)
      subst h1
      exact Nat.le_trans i2 (by omega)
    by_cases c33 : g = 33
    · subst c33
      have n1 : nNd (.inner 33 d u a b) = 0 + (nNd a + nNd b) := rfl
      rw [n1]
      have i1 : _ ≤ s.2.2.length + nNd b := gWk_nd b env sc (if gMs (yL (gSy A)) = true then gPu (gAn A) (gPn A) (gOf T f pp ee env d.2.2.2.1.2) else gAn A) (gFt (gFi (yL (gSy A)) (gSu T f pp ee env d.2.2.2.1.2 s) (gTk A) sc) s)
      exact Nat.le_trans i1 (by omega)
    by_cases c34 : g = 34
    · subst c34
      have n1 : nNd (.inner 34 d u a b) = 0 + (nNd a + nNd b) := rfl
      rw [n1]
      obtain ⟨r1, h1⟩ : ∃ z : gSt × gTy, z = gWk T f pp ee tE tN a env sc A s := ⟨_, rfl⟩
      have i1 : r1.1.2.2.length ≤ s.2.2.length + nNd a := by rw [h1]; exact gWk_nd a env sc A s
      have i2 : _ ≤ r1.1.2.2.length + nNd b := gWk_nd b env sc (gAn A) (gFt (gFi (yL (gSy A)) r1.2 (gTk A) sc) r1.1)
      subst h1
      exact Nat.le_trans i2 (by omega)
    by_cases c35 : g = 35
    · subst c35
      have n1 : nNd (.inner 35 d u a b) = 0 + (nNd a + nNd b) := rfl
      rw [n1]
      have i1 := gWk_nd b env sc (gAn A) s
      exact Nat.le_trans i1 (by omega)
    · have e1 : gWk T f pp ee tE tN (.inner g d u a b) env sc A s = (s, A) := by
        unfold gWk
        rw [if_neg (by omega), if_neg (by omega), if_neg (by omega), if_neg (by omega), if_neg (by omega), if_neg (by omega), if_neg (by omega), if_neg (by omega), if_neg (by omega), if_neg (by omega), if_neg (by omega), if_neg (by omega), if_neg (by omega), if_neg (by omega), if_neg (by omega), if_neg (by omega), if_neg (by omega), if_neg (by omega), if_neg (by omega), if_neg (by omega)]
      rw [e1]
      exact Nat.le_add_right _ _
end WND
