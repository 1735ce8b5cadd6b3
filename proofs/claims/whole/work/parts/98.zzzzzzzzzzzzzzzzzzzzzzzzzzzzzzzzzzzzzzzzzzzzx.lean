/-! ROOM: calls with what their ARGS take, apart from TEMPLATES and their own FITS -/
/-- functions that are ARGS -/
def gfN : tT → Nat
  | .leaf => 0
  | .inner g _ _ a b =>
    if g = 1 ∨ g = 2 ∨ g = 19 ∨ g = 31 then gfN a + gfN b
    else if g = 34 then 1 + (gfN a + gfN b)
    else if g = 3 ∨ g = 6 ∨ g = 15 ∨ g = 16 then gfN a
    else if g = 4 ∨ g = 5 ∨ g = 33 ∨ g = 35 then gfN b
    else 0
section XTD
variable (f pp ee : Nat → Int32) (wt : Nat)
/-- what a call's ARGS take; y takes them, q its steps -/
def kAr : tT → List Nat → (Nat → Nat) → tY → Nat → Nat
  | .leaf, _, _, _, _ => 0
  | .inner g d _ a b, env, rk, y, q =>
    if g = 33 then kIu wt (yL y) (gRs1 f pp ee rk env d.2.2.2.1.2) q + kAr b env rk (yR y) (q + 1) else
    if g = 34 then 3352 + kAr b env rk (yR y) (q + 1) else
    if g = 35 then kAr b env rk (yR y) (q + 1) else 0
variable (tE tN : Nat → tY)
/-- **all calls**: what is called, its ARGS, its steps, what its ARGS take -/
def cvE : tT → List Nat → (Nat → Nat) → List (tY × Nat × Nat × Nat)
  | .leaf, _, _ => []
  | .inner g d _ a b, env, rk =>
    if g = 1 then cvE a env rk ++ cvE b (env ++ [d.1 + 1]) (rkU rk (d.1 + 1) (gRk f pp ee rk a env)) else
    if g = 2 then cvE a (env ++ ([d.1 + 2] ++ List.range' (d.1 + 3) d.2.1)) (rkP d.2.1 (d.1 + 3) 0 (rkU rk (d.1 + 2) 0)) ++ cvE b (env ++ [d.1 + 2]) (rkU rk (d.1 + 2) 0) else
    if g = 3 then cvE a (env ++ [d.1 + 1]) (rkU rk (d.1 + 1) 0) else
    if g = 4 ∨ g = 5 then cvE b env rk else
    if g = 6 ∨ g = 16 then cvE a env rk else
    if g = 15 then (tN (gNu f pp ee env d.1), tQn a, rk (gNu f pp ee env d.1), kAr f pp ee wt a env rk (tN (gNu f pp ee env d.1)) (rk (gNu f pp ee env d.1))) :: cvE a env rk else
    if g = 19 then cvE a env rk ++ cvE b (env ++ [d.2.1, d.2.1 + 1]) (rkU (rkU rk d.2.1 0) (d.2.1 + 1) 0) else
    if g = 31 ∨ g = 34 then cvE a env rk ++ cvE b env rk else
    if g = 33 ∨ g = 35 then cvE b env rk else []
variable (xs : List tQ)
/-- TEMPLATES and their own FITS -/
def xT : tT → List Nat → (Nat → Nat) → tY → Nat → Nat
  | .leaf, _, _, _, _ => 0
  | .inner g d _ a b, env, rk, y, q =>
    if g = 1 then (xT a env rk (tN (d.1 + 1)) 0 + kAr f pp ee wt a env rk (tN (d.1 + 1)) 0) + 8 * tCs xs (tE d.1) (gSv tN env).length + (xT b (env ++ [d.1 + 1]) (rkU rk (d.1 + 1) (gRk f pp ee rk a env)) y 0 + kAr f pp ee wt b (env ++ [d.1 + 1]) (rkU rk (d.1 + 1) (gRk f pp ee rk a env)) y 0) + fCw wt (tE d.1) (gRk f pp ee (rkU rk (d.1 + 1) (gRk f pp ee rk a env)) b (env ++ [d.1 + 1])) 0 else
    if g = 2 then 8 * tCs xs (tN (d.1 + 2)) (gSv tN env).length + (xT a (env ++ ([d.1 + 2] ++ List.range' (d.1 + 3) d.2.1)) (rkP d.2.1 (d.1 + 3) 0 (rkU rk (d.1 + 2) 0)) (yRs d.2.1 (tN (d.1 + 2))) 0 + kAr f pp ee wt a (env ++ ([d.1 + 2] ++ List.range' (d.1 + 3) d.2.1)) (rkP d.2.1 (d.1 + 3) 0 (rkU rk (d.1 + 2) 0)) (yRs d.2.1 (tN (d.1 + 2))) 0) + fCw wt (yRs d.2.1 (tN (d.1 + 2))) (gRk f pp ee (rkP d.2.1 (d.1 + 3) 0 (rkU rk (d.1 + 2) 0)) a (env ++ ([d.1 + 2] ++ List.range' (d.1 + 3) d.2.1))) d.2.1 + 8 * tCs xs (tE d.1) (gSv tN env).length + (xT b (env ++ [d.1 + 2]) (rkU rk (d.1 + 2) 0) y 0 + kAr f pp ee wt b (env ++ [d.1 + 2]) (rkU rk (d.1 + 2) 0) y 0) + fCw wt (tE d.1) (gRk f pp ee (rkU rk (d.1 + 2) 0) b (env ++ [d.1 + 2])) 0 else
    if g = 3 then 8 * tCs xs (tE d.1) (gSv tN env).length + (xT a (env ++ [d.1 + 1]) (rkU rk (d.1 + 1) 0) (yR (tE d.1)) 0 + kAr f pp ee wt a (env ++ [d.1 + 1]) (rkU rk (d.1 + 1) 0) (yR (tE d.1)) 0) + fCw wt (yR (tE d.1)) (gRk f pp ee (rkU rk (d.1 + 1) 0) a (env ++ [d.1 + 1])) 1 else
    if g = 4 then 8 * tCs xs (tE d.1) (gSv tN env).length + (xT b env rk y 0 + kAr f pp ee wt b env rk y 0) else
    if g = 5 then (xT b env rk y 0 + kAr f pp ee wt b env rk y 0) else
    if g = 6 ∨ g = 16 then (xT a env rk y 0 + kAr f pp ee wt a env rk y 0) else
    if g = 15 then xT a env rk (tN (gNu f pp ee env d.1)) (rk (gNu f pp ee env d.1)) else
    if g = 19 then 8 * tCs xs (tE d.1) (gSv tN env).length + (xT a env rk y 0 + kAr f pp ee wt a env rk y 0) + fCw wt (tE d.1) (gRk f pp ee rk a env) 0 + (xT b (env ++ [d.2.1, d.2.1 + 1]) (rkU (rkU rk d.2.1 0) (d.2.1 + 1) 0) y 0 + kAr f pp ee wt b (env ++ [d.2.1, d.2.1 + 1]) (rkU (rkU rk d.2.1 0) (d.2.1 + 1) 0) y 0) + fCw wt (tE d.1) (gRk f pp ee (rkU (rkU rk d.2.1 0) (d.2.1 + 1) 0) b (env ++ [d.2.1, d.2.1 + 1])) 0 else
    if g = 31 then (xT a env rk y 0 + kAr f pp ee wt a env rk y 0) + fCw wt y (gRk f pp ee rk a env) q + (xT b env rk y 0 + kAr f pp ee wt b env rk y 0) + fCw wt y (gRk f pp ee rk b env) q else
    if g = 33 then xT b env rk (yR y) (q + 1) else
    if g = 34 then (xT a env rk (yL y) 0 + kAr f pp ee wt a env rk (yL y) 0) + kIu wt (yL y) (gRk f pp ee rk a env) q + xT b env rk (yR y) (q + 1) else
    if g = 35 then xT b env rk (yR y) (q + 1) else 0
end XTD
/-- what all calls take -/
def kSm (l : List (tY × Nat × Nat × Nat)) : Nat := (l.map (fun c => c.2.2.2)).sum
theorem kSm_ap (a b : List (tY × Nat × Nat × Nat)) : kSm (a ++ b) = kSm a + kSm b := by
  unfold kSm
  rw [List.map_append, List.sum_append]
theorem kSm_cn (c : tY × Nat × Nat × Nat) (b : List (tY × Nat × Nat × Nat)) : kSm (c :: b) = c.2.2.2 + kSm b := by
  unfold kSm
  rw [List.map_cons, List.sum_cons]
section XBE
variable {f pp ee : Nat → Int32} {tE tN : Nat → tY} {xs : List tQ}
set_option maxHeartbeats 2000000 in
/-- **TEMPLATES, their own FITS, and calls; a function that is an ARG counts 3352 among the calls, its FIT apart** -/
theorem xB_eq {wt : Nat} : ∀ (t : tT) (env : List Nat) (rk : Nat → Nat) (y : tY) (q : Nat), xB f pp ee wt tE tN xs t env rk y q + 3352 * gfN t = xT f pp ee wt tE tN xs t env rk y q + kSm (cvE f pp ee wt tN t env rk) + kAr f pp ee wt t env rk y q
  | .leaf, _, _, _, _ => rfl
  | .inner g d z a b, env, rk, y, q => by
    have Ia := fun env' rk' y' q' => xB_eq (wt := wt) a env' rk' y' q'
    have Ib := fun env' rk' y' q' => xB_eq (wt := wt) b env' rk' y' q'
    rw [xB, xT, cvE, kAr]
    by_cases c1 : g = 1
    · subst c1
      rw [if_pos rfl, if_pos rfl, if_pos rfl, if_neg (by decide), if_neg (by decide), if_neg (by decide), kSm_ap]
      have ia := Ia env rk (tN (d.1 + 1)) 0
      have ib := Ib (env ++ [d.1 + 1]) (rkU rk (d.1 + 1) (gRk f pp ee rk a env)) y 0
      have e : gfN (.inner 1 d z a b) = gfN a + gfN b := rfl
      rw [e]
      omega
    rw [if_neg c1, if_neg c1, if_neg c1]
    by_cases c2 : g = 2
    · subst c2
      rw [if_pos rfl, if_pos rfl, if_pos rfl, if_neg (by decide), if_neg (by decide), if_neg (by decide), kSm_ap]
      have ia := Ia (env ++ ([d.1 + 2] ++ List.range' (d.1 + 3) d.2.1)) (rkP d.2.1 (d.1 + 3) 0 (rkU rk (d.1 + 2) 0)) (yRs d.2.1 (tN (d.1 + 2))) 0
      have ib := Ib (env ++ [d.1 + 2]) (rkU rk (d.1 + 2) 0) y 0
      have e : gfN (.inner 2 d z a b) = gfN a + gfN b := rfl
      rw [e]
      omega
    rw [if_neg c2, if_neg c2, if_neg c2]
    by_cases c3 : g = 3
    · subst c3
      rw [if_pos rfl, if_pos rfl, if_pos rfl, if_neg (by decide), if_neg (by decide), if_neg (by decide)]
      have ia := Ia (env ++ [d.1 + 1]) (rkU rk (d.1 + 1) 0) (yR (tE d.1)) 0
      have e : gfN (.inner 3 d z a b) = gfN a := rfl
      rw [e]
      omega
    rw [if_neg c3, if_neg c3, if_neg c3]
    by_cases c4 : g = 4
    · subst c4
      rw [if_pos rfl, if_pos rfl, if_pos (Or.inl rfl), if_neg (by decide), if_neg (by decide), if_neg (by decide)]
      have ib := Ib env rk y 0
      have e : gfN (.inner 4 d z a b) = gfN b := rfl
      rw [e]
      omega
    rw [if_neg c4, if_neg c4]
    by_cases c5 : g = 5
    · subst c5
      rw [if_pos rfl, if_pos rfl, if_pos (Or.inr rfl), if_neg (by decide), if_neg (by decide), if_neg (by decide)]
      have ib := Ib env rk y 0
      have e : gfN (.inner 5 d z a b) = gfN b := rfl
      rw [e]
      omega
    rw [if_neg c5, if_neg c5, if_neg (show ¬ (g = 4 ∨ g = 5) by omega)]
    by_cases c6 : g = 6 ∨ g = 16
    · rw [if_pos c6, if_pos c6, if_pos c6, if_neg (show ¬ g = 33 by omega), if_neg (show ¬ g = 34 by omega), if_neg (show ¬ g = 35 by omega)]
      have ia := Ia env rk y 0
      have e : gfN (.inner g d z a b) = gfN a := by rcases c6 with rfl | rfl <;> rfl
      rw [e]
      omega
    rw [if_neg c6, if_neg c6, if_neg c6]
    by_cases c15 : g = 15
    · subst c15
      rw [if_pos rfl, if_pos rfl, if_pos rfl, if_neg (by decide), if_neg (by decide), if_neg (by decide), kSm_cn]
      dsimp only
      have ia := Ia env rk (tN (gNu f pp ee env d.1)) (rk (gNu f pp ee env d.1))
      have e : gfN (.inner 15 d z a b) = gfN a := rfl
      rw [e]
      omega
    rw [if_neg c15, if_neg c15, if_neg c15]
    by_cases c19 : g = 19
    · subst c19
      rw [if_pos rfl, if_pos rfl, if_pos rfl, if_neg (by decide), if_neg (by decide), if_neg (by decide), kSm_ap]
      have ia := Ia env rk y 0
      have ib := Ib (env ++ [d.2.1, d.2.1 + 1]) (rkU (rkU rk d.2.1 0) (d.2.1 + 1) 0) y 0
      have e : gfN (.inner 19 d z a b) = gfN a + gfN b := rfl
      rw [e]
      omega
    rw [if_neg c19, if_neg c19, if_neg c19]
    by_cases c31 : g = 31
    · subst c31
      rw [if_pos rfl, if_pos rfl, if_pos (Or.inl rfl), if_neg (by decide), if_neg (by decide), if_neg (by decide), kSm_ap]
      have ia := Ia env rk y 0
      have ib := Ib env rk y 0
      have e : gfN (.inner 31 d z a b) = gfN a + gfN b := rfl
      rw [e]
      omega
    rw [if_neg c31, if_neg c31]
    by_cases c33 : g = 33
    · subst c33
      rw [if_pos rfl, if_pos rfl, if_pos rfl, if_neg (show ¬ ((33 : Nat) = 31 ∨ (33 : Nat) = 34) by decide), if_pos (Or.inl rfl)]
      have ib := Ib env rk (yR y) (q + 1)
      have e : gfN (.inner 33 d z a b) = gfN b := rfl
      rw [e]
      omega
    rw [if_neg c33, if_neg c33, if_neg c33]
    by_cases c34 : g = 34
    · subst c34
      rw [if_pos rfl, if_pos rfl, if_pos rfl, if_pos (Or.inr rfl), kSm_ap]
      have ia := Ia env rk (yL y) 0
      have ib := Ib env rk (yR y) (q + 1)
      have e : gfN (.inner 34 d z a b) = 1 + (gfN a + gfN b) := rfl
      rw [e]
      omega
    rw [if_neg c34, if_neg c34, if_neg c34, if_neg (show ¬ (g = 31 ∨ g = 34) by omega)]
    by_cases c35 : g = 35
    · subst c35
      rw [if_pos rfl, if_pos rfl, if_pos rfl, if_pos (Or.inr rfl)]
      have ib := Ib env rk (yR y) (q + 1)
      have e : gfN (.inner 35 d z a b) = gfN b := rfl
      rw [e]
      omega
    rw [if_neg c35, if_neg c35, if_neg c35, if_neg (show ¬ (g = 33 ∨ g = 35) by omega)]
    have e : gfN (.inner g d z a b) = 0 := by
      rw [gfN, if_neg (by omega), if_neg c34, if_neg (by omega), if_neg (by omega)]
    rw [e]
    rfl
/-- these are the calls -/
theorem cvE_c {wt : Nat} : ∀ (t : tT) (env : List Nat) (rk : Nat → Nat), (cvE f pp ee wt tN t env rk).map (fun c => (c.1, c.2.1)) = cvC f pp ee tN t env
  | .leaf, _, _ => rfl
  | .inner g d z a b, env, rk => by
    have Ia := fun env' rk' => cvE_c (wt := wt) a env' rk'
    have Ib := fun env' rk' => cvE_c (wt := wt) b env' rk'
    rw [cvE, cvC]
    by_cases c1 : g = 1
    · rw [if_pos c1, if_pos c1, List.map_append, Ia, Ib]
    rw [if_neg c1, if_neg c1]
    by_cases c2 : g = 2
    · rw [if_pos c2, if_pos c2, List.map_append, Ia, Ib]
    rw [if_neg c2, if_neg c2]
    by_cases c3 : g = 3
    · rw [if_pos c3, if_pos c3, Ia]
    rw [if_neg c3, if_neg c3]
    by_cases c4 : g = 4 ∨ g = 5
    · rw [if_pos c4, if_pos c4, Ib]
    rw [if_neg c4, if_neg c4]
    by_cases c6 : g = 6 ∨ g = 16
    · rw [if_pos c6, if_pos c6, Ia]
    rw [if_neg c6, if_neg c6]
    by_cases c15 : g = 15
    · rw [if_pos c15, if_pos c15, List.map_cons, Ia]
    rw [if_neg c15, if_neg c15]
    by_cases c19 : g = 19
    · rw [if_pos c19, if_pos c19, List.map_append, Ia, Ib]
    rw [if_neg c19, if_neg c19]
    by_cases c31 : g = 31 ∨ g = 34
    · rw [if_pos c31, if_pos c31, List.map_append, Ia, Ib]
    rw [if_neg c31, if_neg c31]
    by_cases c33 : g = 33 ∨ g = 35
    · rw [if_pos c33, if_pos c33, Ib]
    rw [if_neg c33, if_neg c33]
    rfl
end XBE
