/-! knows(), mustFit() of the reference -/
/-- from counters v to v', at most c more -/
def uGe (v v' c : Nat → Nat) : Prop := ∀ k, v k ≤ v' k ∧ v' k ≤ v k + c k
theorem uGe.rf (v : Nat → Nat) : uGe v v (fun _ => 0) := fun k => ⟨Nat.le_refl _, Nat.le_refl _⟩
theorem uGe.tr {a b c x y : Nat → Nat} (h : uGe a b x) (g : uGe b c y) : uGe a c (fun k => x k + y k) := fun k => by
  have := h k
  have := g k
  show a k ≤ c k ∧ c k ≤ a k + (x k + y k)
  omega
theorem uGe.mo {a b x y : Nat → Nat} (h : uGe a b x) (g : ∀ k, x k ≤ y k) : uGe a b y := fun k => by
  have := h k
  have := g k
  omega
theorem uGe.ad (v : Nat → Nat) {r s f p r' s' f' p' : Nat} (h1 : r ≤ r') (h2 : s ≤ s') (h3 : f ≤ f') (h4 : p ≤ p') : uGe v (uAd v r s f p) (uAd (fun _ => 0) r' s' f' p') := fun k => by
  unfold uAd
  repeat' split
  all_goals omega
theorem uGe.up (v : Nat → Nat) (c : Nat) : uGe v (uUp v c) (uUp (fun _ => 0) c) := fun k => by
  unfold uUp
  split <;> omega
/-- measured NAMES, conditions of what is known -/
def scN (sc : List gEn) : List (gN × gTy) := sc.filterMap (fun e => match e with | .inl x => some x | .inr _ => none)
def scC (sc : List gEn) : List (gCd × Bool) := sc.filterMap (fun e => match e with | .inl _ => none | .inr x => some x)
/-- the chain of NAMES; none: one that is not measured -/
def uEv (Γ : uGm) (v : Nat → Nat) (τ : zSt) : List (Option (gN × gTy)) → Int32 → Prop
  | [], e => e = -1
  | o :: ch, e => ∃ i t, (e = nI i ∧ i < v 109) ∧ (τ.2.2.1 69 i = nI t ∧ t < v 75) ∧ (match o with | none => τ.2.2.1 42 t = 2 ∨ τ.2.2.1 42 t = 4 | some x => τ.2.2.1 68 i = nI (Γ.1 x.1) ∧ gMs (gSy x.2) = true ∧ uTy Γ v τ (gSy x.2) t x.2) ∧ uEv Γ v τ ch (τ.2.2.1 70 i)
/-- the chain of conditions; CD t m: the C t stands at node m -/
def uGo (CD : tT → Nat → Prop) (Γ : uGm) (v : Nat → Nat) (τ : zSt) : List (gCd × Bool) → Int32 → Prop
  | [], g => g = -1
  | x :: r, g => ∃ i, (g = nI i ∧ i < v 110) ∧ τ.2.2.1 72 i = b01 x.2 ∧ (match x.1 with | .inl c => ∃ m, τ.2.2.1 71 i = nI m ∧ m < 2100 ∧ CD c.1 m | .inr l => τ.2.2.1 71 i = (-2) - nI (Γ.1 (.inl l))) ∧ uGo CD Γ v τ r (τ.2.2.1 73 i)
/-- what is known at a place -/
def uSc (N : Nat) (CD : tT → Nat → Prop) (Γ : uGm) (v : Nat → Nat) (τ : zSt) (sc : List gEn) (e g : Int32) : Prop := (∃ ch, ch.filterMap id = scN sc ∧ ch.length ≤ N ∧ uEv Γ v τ ch e) ∧ uGo CD Γ v τ (scC sc) g
/-- what must FIT -/
def uFt (CD : tT → Nat → Prop) (Γ : uGm) (v : Nat → Nat) (τ : zSt) (i : Nat) (x : gFit) : Prop := i < v 116 ∧ ∃ a b, τ.2.2.1 75 i = nI a ∧ τ.2.2.1 76 i = nI b ∧ uTy Γ v τ (gSy x.2.1) a x.2.1 ∧ uTy Γ v τ (gSy x.2.2) b x.2.2 ∧ gSy x.2.1 = gSy x.2.2 ∧ gMs (gSy x.2.1) = true ∧ uSc 200 CD Γ v τ x.1 (τ.2.2.1 77 i) (τ.2.2.1 78 i)
section UEV
variable {Γ : uGm} {v v' : Nat → Nat} {τ τ' : zSt} {CD : tT → Nat → Prop}
theorem uEv.up (hv : ∀ k, v k ≤ v' k) (h : uFr v τ τ') : ∀ (ch : List (Option (gN × gTy))) (e : Int32), uEv Γ v τ ch e → uEv Γ v' τ' ch e
  | [], _, g => g
  | o :: ch, e, ⟨i, t, ⟨g1, g2⟩, ⟨g3, g4⟩, g5, g6⟩ => by
    have r : ∀ k, 68 ≤ k → k ≤ 70 → τ'.2.2.1 k i = τ.2.2.1 k i := fun k a b => h.r (c := 109) (by unfold uCo; rw [if_neg (by omega), if_neg (by omega), if_neg (by omega), if_neg (by omega), if_neg (by omega), if_neg (by omega), if_pos ⟨a, b⟩]) (by unfold uAy; omega) g2
    refine ⟨i, t, ⟨g1, Nat.lt_of_lt_of_le g2 (hv 109)⟩, ⟨(r 69 (by decide) (by decide)).trans g3, Nat.lt_of_lt_of_le g4 (hv 75)⟩, ?_, by rw [r 70 (by decide) (by decide)]; exact uEv.up hv h ch _ g6⟩
    cases o with
    | none => rw [h.r (k := 42) (c := 75) (by decide) (by unfold uAy; omega) g4]; exact g5
    | some x => exact ⟨(r 68 (by decide) (by decide)).trans g5.1, g5.2.1, uTy.up hv h _ _ _ g5.2.2⟩
theorem uGo.up (hv : ∀ k, v k ≤ v' k) (h : uFr v τ τ') : ∀ (r : List (gCd × Bool)) (g : Int32), uGo CD Γ v τ r g → uGo CD Γ v' τ' r g
  | [], _, g => g
  | x :: r, g, ⟨i, ⟨g1, g2⟩, g3, g4, g5⟩ => by
    have rr : ∀ k, 71 ≤ k → k ≤ 73 → τ'.2.2.1 k i = τ.2.2.1 k i := fun k a b => h.r (c := 110) (by unfold uCo; rw [if_neg (by omega), if_neg (by omega), if_neg (by omega), if_neg (by omega), if_neg (by omega), if_neg (by omega), if_neg (by omega), if_pos ⟨a, b⟩]) (by unfold uAy; omega) g2
    refine ⟨i, ⟨g1, Nat.lt_of_lt_of_le g2 (hv 110)⟩, (rr 72 (by decide) (by decide)).trans g3, ?_, by rw [rr 73 (by decide) (by decide)]; exact uGo.up hv h r _ g5⟩
    rw [rr 71 (by decide) (by decide)]
    exact g4
theorem uSc.up {N : Nat} {sc : List gEn} {e g : Int32} (hv : ∀ k, v k ≤ v' k) (h : uFr v τ τ') (w : uSc N CD Γ v τ sc e g) : uSc N CD Γ v' τ' sc e g := by
  obtain ⟨⟨ch, a1, a2, a3⟩, b⟩ := w
  exact ⟨⟨ch, a1, a2, uEv.up hv h ch e a3⟩, uGo.up hv h _ g b⟩
theorem uFt.up {i : Nat} {x : gFit} (hv : ∀ k, v k ≤ v' k) (h : uFr v τ τ') (w : uFt CD Γ v τ i x) : uFt CD Γ v' τ' i x := by
  obtain ⟨w1, a, b, w2, w3, w4, w5, w6, w7, w8⟩ := w
  have r : ∀ k, 75 ≤ k → k ≤ 78 → τ'.2.2.1 k i = τ.2.2.1 k i := fun k a b => h.r (c := 116) (by unfold uCo; rw [if_neg (by omega), if_neg (by omega), if_neg (by omega), if_neg (by omega), if_neg (by omega), if_neg (by omega), if_neg (by omega), if_neg (by omega), if_pos ⟨a, b⟩]) (by unfold uAy; omega) w1
  exact ⟨Nat.lt_of_lt_of_le w1 (hv 116), a, b, (r 75 (by decide) (by decide)).trans w2, (r 76 (by decide) (by decide)).trans w3, uTy.up hv h _ _ _ w4, uTy.up hv h _ _ _ w5, w6, w7, by rw [r 77 (by decide) (by decide), r 78 (by decide) (by decide)]; exact w8.up hv h⟩
end UEV
section RMF
variable {ks : Nat → Nat} {qs : List Nat} {T h0 : Nat} {Γ : uGm} {CD : tT → Nat → Prop}
theorem r_isSaid {n : Nat} {x : Int32} {τ : zSt} : zF h0 qs ks T (n + 1) 71 [.int x] τ = some (some (.int (b01 (x == 1 || x == 3 || x == 5))), τ) := by
  rw [zE_isSaid]
  unfold b_isSaid j_isSaid_15
  by_cases z1 : x = 1
  · rw [if_pos z1, z1]; rfl
  · rw [if_neg z1]
    by_cases z2 : x = 3
    · rw [if_pos z2, z2]; rfl
    · rw [if_neg z2]
      by_cases z3 : x = 5
      · rw [if_pos z3, z3]; rfl
      · rw [if_neg z3]
        have : (x == 1 || x == 3 || x == 5) = false := by simp [z1, z2, z3]
        rw [this]
        rfl
/-- lengths and sizes -/
def uLn (y : Int32) : Bool := y == 3 || y == 5
/-- knows() -/
theorem r_knows {n x t : Nat} {e : Int32} {v : Nat → Nat} {τ : zSt} (hV : uVn τ v) (hl : v 109 < 12000) (hx : x < 1501) (ht : t < v 75) : ∃ τ', zF h0 qs ks T (n + 1) 73 [.ref h0, .int e, .int (nI x), .int (nI t)] τ = some (some (.int (nI (v 109))), τ') ∧ uVn τ' (uUp v 109) ∧ uFr v τ τ' ∧ (τ'.2.2.1 68 (v 109) = nI x ∧ τ'.2.2.1 69 (v 109) = nI t ∧ τ'.2.2.1 70 (v 109) = e) ∧ (τ'.2.2.1 66 = upd (τ.2.2.1 66) x (b01 (uLn (τ.2.2.1 42 t))) ∧ τ'.2.2.1 67 = upd (τ.2.2.1 67) x (b01 (τ.2.2.1 42 t == 5))) ∧ (∀ k, uAy k → k ≠ 66 → k ≠ 67 → τ'.2.2.1 k = τ.2.2.1 k) ∧ τ'.1 126 = τ.1 126 ∧ τ'.1 63 = τ.1 63 ∧ τ'.2.1 64 = τ.2.1 64 := by
  obtain ⟨c1, c2⟩ := hV 109 (by decide)
  have l75 : v 75 ≤ 40000 := (hV 75 (by decide)).2
  have z1 : zin (τ.1 109) 12000 = true := by rw [c1]; exact zin_n hl (by decide)
  have cl : (τ.1 109).toNatClampNeg = v 109 := by rw [c1]; exact nI_clamp (by omega)
  have e1 : τ.1 109 + 1 - 1 = nI (v 109) := by rw [c1, nI_pm]
  have e2 : τ.1 109 + 1 = nI (v 109 + 1) := by rw [c1, nI_p1]
  have zt : zin (nI t) 40000 = true := zin_n (by omega) (by decide)
  have ct : (nI t).toNatClampNeg = t := nI_clamp (by omega)
  have zx : zin (nI x) 1501 = true := zin_n hx (by decide)
  have cx : (nI x).toNatClampNeg = x := nI_clamp (by omega)
  have n1 : vp_nar .boolean 1 = 1 := rfl
  have n0 : vp_nar .boolean 0 = 0 := rfl
  have key : ∀ a b : Int32, ∃ τ', τ' = zA (zA (zI (zA (zA (zA τ 68 (upd (τ.2.2.1 68) (v 109) (nI x))) 69 (upd (τ.2.2.1 69) (v 109) (nI t))) 70 (upd (τ.2.2.1 70) (v 109) e)) 109 (nI (v 109 + 1))) 66 (upd (τ.2.2.1 66) x a)) 67 (upd (τ.2.2.1 67) x b) ∧ uVn τ' (uUp v 109) ∧ uFr v τ τ' ∧ (τ'.2.2.1 68 (v 109) = nI x ∧ τ'.2.2.1 69 (v 109) = nI t ∧ τ'.2.2.1 70 (v 109) = e) ∧ (τ'.2.2.1 66 = upd (τ.2.2.1 66) x a ∧ τ'.2.2.1 67 = upd (τ.2.2.1 67) x b) ∧ (∀ k, uAy k → k ≠ 66 → k ≠ 67 → τ'.2.2.1 k = τ.2.2.1 k) ∧ τ'.1 126 = τ.1 126 ∧ τ'.1 63 = τ.1 63 ∧ τ'.2.1 64 = τ.2.1 64 := fun a b => by
    refine ⟨_, rfl, hV.up (by decide) rfl (by show v 109 + 1 ≤ 12000; omega) (fun k _ hk => if_neg hk), ⟨fun k h1 h2 h3 => if_neg (fun e => h1 (by rw [e]; decide)), fun _ _ => rfl, fun k h1 i h2 => ?_, fun k i h2 => rfl⟩, ⟨if_pos rfl, if_pos rfl, if_pos rfl⟩, ⟨rfl, rfl⟩, fun k hk h66 h67 => ?_, rfl, rfl, rfl⟩
    · have hx' : k = 68 ∨ k = 69 ∨ k = 70 → i ≠ v 109 := fun hk => by
        have := h2 109 (by rcases hk with rfl | rfl | rfl <;> decide)
        omega
      have n66 : k ≠ 66 := fun e => h1 (by rw [e]; unfold uAy; omega)
      have n67 : k ≠ 67 := fun e => h1 (by rw [e]; unfold uAy; omega)
      show (if k = 67 then _ else if k = 66 then _ else if k = 70 then _ else if k = 69 then _ else if k = 68 then _ else _ : Nat → Int32) i = _
      rw [if_neg n67, if_neg n66]
      by_cases e1 : k = 70
      · subst e1; rw [if_pos rfl]; exact if_neg (hx' (by decide))
      by_cases e2 : k = 69
      · subst e2; rw [if_neg (by decide), if_pos rfl]; exact if_neg (hx' (by decide))
      by_cases e3 : k = 68
      · subst e3; rw [if_neg (by decide), if_neg (by decide), if_pos rfl]; exact if_neg (hx' (by decide))
      rw [if_neg e1, if_neg e2, if_neg e3]
    · show (if k = 67 then _ else if k = 66 then _ else if k = 70 then _ else if k = 69 then _ else if k = 68 then _ else _ : Nat → Int32) = _
      have : k = 40 ∨ k = 41 ∨ k = 66 ∨ k = 67 ∨ k = 74 ∨ k = 85 ∨ k = 86 := hk
      rw [if_neg h67, if_neg h66, if_neg (by omega), if_neg (by omega), if_neg (by omega)]
  have q2 : nI (v 109 + 1) - 1 = nI (v 109) := by rw [← nI_p1, nI_pm]
  obtain ⟨τ', w1, w2⟩ := key (b01 (uLn (τ.2.2.1 42 t))) (b01 (τ.2.2.1 42 t == 5))
  refine ⟨τ', ?_, w2⟩
  rw [w1, zE_knows]
  unfold b_knows j_knows_65 j_knows_70 j_knows_91
  simp only [zgd, zlet, zA, zI, z1, cl, zt, ct, zx, cx, e2, q2, if_true, if_false, n1, n0, show ¬ (42 : Nat) = 66 by decide, show ¬ (42 : Nat) = 67 by decide, show ¬ (42 : Nat) = 68 by decide, show ¬ (42 : Nat) = 69 by decide, show ¬ (42 : Nat) = 70 by decide, show ¬ (66 : Nat) = 67 by decide, show ¬ (66 : Nat) = 68 by decide, show ¬ (66 : Nat) = 69 by decide, show ¬ (66 : Nat) = 70 by decide, show ¬ (67 : Nat) = 66 by decide, show ¬ (67 : Nat) = 68 by decide, show ¬ (67 : Nat) = 69 by decide, show ¬ (67 : Nat) = 70 by decide, show ¬ (68 : Nat) = 66 by decide, show ¬ (68 : Nat) = 67 by decide, show ¬ (68 : Nat) = 69 by decide, show ¬ (68 : Nat) = 70 by decide, show ¬ (69 : Nat) = 66 by decide, show ¬ (69 : Nat) = 67 by decide, show ¬ (69 : Nat) = 68 by decide, show ¬ (69 : Nat) = 70 by decide, show ¬ (70 : Nat) = 66 by decide, show ¬ (70 : Nat) = 67 by decide, show ¬ (70 : Nat) = 68 by decide, show ¬ (70 : Nat) = 69 by decide]
  by_cases h3 : τ.2.2.1 42 t = 3
  · rw [h3]
    rfl
  · rw [if_neg h3]
    by_cases h5 : τ.2.2.1 42 t = 5
    · rw [h5]
      rfl
    · rw [if_neg h5, if_neg h5]
      have a1 : uLn (τ.2.2.1 42 t) = false := by unfold uLn; simp [h3, h5]
      have a2 : (τ.2.2.1 42 t == 5) = false := by simp [h5]
      rw [a1, a2]
      rfl
end RMF
