/-! the reference's types that tell more: rows that only grow -/
/-- counters -/
def uCt : List Nat := [75, 79, 85, 91, 98, 99, 100, 109, 110, 116, 123]
/-- which counter a row of ints has -/
def uCo (k : Nat) : Option Nat := if 42 ≤ k ∧ k ≤ 46 then some 75 else if 47 ≤ k ∧ k ≤ 49 then some 79 else if 50 ≤ k ∧ k ≤ 53 then some 85 else if 55 ≤ k ∧ k ≤ 58 then some 91 else if 60 ≤ k ∧ k ≤ 62 then some 98 else if 63 ≤ k ∧ k ≤ 65 then some 99 else if 68 ≤ k ∧ k ≤ 70 then some 109 else if 71 ≤ k ∧ k ≤ 73 then some 110 else if 75 ≤ k ∧ k ≤ 78 then some 116 else if 79 ≤ k ∧ k ≤ 84 then some 123 else none
def uCl (k : Nat) : Option Nat := if k = 54 then some 85 else if k = 59 then some 91 else none
/-- rows that are written anywhere -/
def uAy (k : Nat) : Prop := k = 40 ∨ k = 41 ∨ k = 66 ∨ k = 67 ∨ k = 74 ∨ k = 85 ∨ k = 86
def uLm (k : Nat) : Nat := if k = 75 then 40000 else if k = 79 then 24000 else if k = 85 then 12000 else if k = 91 then 24000 else if k = 98 then 64 else if k = 99 then 8000 else if k = 100 then 800 else if k = 123 then 2100 else 12000
/-- the counters are v -/
def uVn (τ : zSt) (v : Nat → Nat) : Prop := ∀ k, k ∈ uCt → τ.1 k = nI (v k) ∧ v k ≤ uLm k
/-- nothing below the counters v changes -/
def uFr (v : Nat → Nat) (τ τ' : zSt) : Prop := (∀ k, k ∉ uCt → k ≠ 63 → k ≠ 126 → τ'.1 k = τ.1 k) ∧ (∀ k, k ≠ 64 → τ'.2.1 k = τ.2.1 k) ∧ (∀ k, ¬ uAy k → ∀ i, (∀ c, uCo k = some c → i < v c) → τ'.2.2.1 k i = τ.2.2.1 k i) ∧ (∀ k i, (∀ c, uCl k = some c → i < v c) → τ'.2.2.2 k i = τ.2.2.2 k i)
section GFR
variable {v v' : Nat → Nat} {τ τ' τ'' : zSt}
theorem uFr.rf (v : Nat → Nat) (τ : zSt) : uFr v τ τ := ⟨fun _ _ _ _ => rfl, fun _ _ => rfl, fun _ _ _ _ => rfl, fun _ _ _ => rfl⟩
theorem uFr.tr (h : uFr v τ τ') (g : uFr v' τ' τ'') (hv : ∀ k, v k ≤ v' k) : uFr v τ τ'' := ⟨fun k a b c => (g.1 k a b c).trans (h.1 k a b c), fun k a => (g.2.1 k a).trans (h.2.1 k a), fun k a i b => (g.2.2.1 k a i (fun c e => Nat.lt_of_lt_of_le (b c e) (hv c))).trans (h.2.2.1 k a i b), fun k i b => (g.2.2.2 k i (fun c e => Nat.lt_of_lt_of_le (b c e) (hv c))).trans (h.2.2.2 k i b)⟩
theorem uFr.mo (h : uFr v' τ τ') (hv : ∀ k, v k ≤ v' k) : uFr v τ τ' := (uFr.rf v τ).tr h hv
/-- a counter up by one -/
def uUp (v : Nat → Nat) (c : Nat) : Nat → Nat := fun k => if k = c then v k + 1 else v k
theorem uUp_le (v : Nat → Nat) (c : Nat) : ∀ k, v k ≤ uUp v c k := fun k => by unfold uUp; split <;> omega
theorem uUp_at (v : Nat → Nat) (c : Nat) : uUp v c c = v c + 1 := if_pos rfl
theorem uUp_ne (v : Nat → Nat) {c k : Nat} (h : k ≠ c) : uUp v c k = v k := if_neg h
theorem uVn.up {c : Nat} (h : uVn τ v) (hc : c ∈ uCt) (h1 : τ'.1 c = nI (v c + 1)) (hl : v c + 1 ≤ uLm c) (h2 : ∀ k, k ∈ uCt → k ≠ c → τ'.1 k = τ.1 k) : uVn τ' (uUp v c) := fun k hk => by
  by_cases z : k = c
  · subst z
    rw [uUp_at]
    exact ⟨h1, hl⟩
  · rw [uUp_ne v z, h2 k hk z]
    exact h k hk
end GFR
section GRI
variable {ks : Nat → Nat} {qs : List Nat} {T n h0 : Nat} {v : Nat → Nat} {τ : zSt}
theorem nI_pm (a : Nat) : nI a + 1 - 1 = nI a := by
  have : ∀ x : Int32, x + 1 - 1 = x := fun x => by rw [Int32.add_sub_cancel]
  exact this _
/-- rich() -/
theorem r_rich {x1 x2 x3 x4 x5 : Int32} (hV : uVn τ v) (hl : v 75 < 40000) : ∃ τ', zF h0 qs ks T (n + 1) 67 [.ref h0, .int x1, .int x2, .int x3, .int x4, .int x5] τ = some (some (.int (nI (v 75))), τ') ∧ uVn τ' (uUp v 75) ∧ uFr v τ τ' ∧ (τ'.2.2.1 42 (v 75) = x1 ∧ τ'.2.2.1 43 (v 75) = x2 ∧ τ'.2.2.1 44 (v 75) = x3 ∧ τ'.2.2.1 45 (v 75) = x4 ∧ τ'.2.2.1 46 (v 75) = x5) ∧ (∀ k, uAy k → τ'.2.2.1 k = τ.2.2.1 k) ∧ τ'.1 126 = τ.1 126 ∧ τ'.1 63 = τ.1 63 ∧ τ'.2.1 64 = τ.2.1 64 := by
  obtain ⟨c1, c2⟩ := hV 75 (by decide)
  have z1 : zin (τ.1 75) 40000 = true := by rw [c1]; exact zin_n hl (by decide)
  have cl : (τ.1 75).toNatClampNeg = v 75 := by rw [c1]; exact nI_clamp (by omega)
  have e1 : τ.1 75 + 1 - 1 = nI (v 75) := by rw [c1, nI_pm]
  have e2 : τ.1 75 + 1 = nI (v 75 + 1) := by rw [c1, nI_p1]
  rw [zE_rich]
  unfold b_rich
  simp only [zlet, zA, zI, zG, z1, zgd, if_true, cl, if_false, e1, show ¬ (42 : Nat) = 43 by decide, show ¬ (42 : Nat) = 44 by decide, show ¬ (42 : Nat) = 45 by decide, show ¬ (42 : Nat) = 46 by decide, show ¬ (43 : Nat) = 42 by decide, show ¬ (43 : Nat) = 44 by decide, show ¬ (43 : Nat) = 45 by decide, show ¬ (43 : Nat) = 46 by decide, show ¬ (44 : Nat) = 42 by decide, show ¬ (44 : Nat) = 43 by decide, show ¬ (44 : Nat) = 45 by decide, show ¬ (44 : Nat) = 46 by decide, show ¬ (45 : Nat) = 42 by decide, show ¬ (45 : Nat) = 43 by decide, show ¬ (45 : Nat) = 44 by decide, show ¬ (45 : Nat) = 46 by decide, show ¬ (46 : Nat) = 42 by decide, show ¬ (46 : Nat) = 43 by decide, show ¬ (46 : Nat) = 44 by decide, show ¬ (46 : Nat) = 45 by decide]
  refine ⟨_, rfl, ?_, ⟨fun k h1 h2 h3 => if_neg (fun e => h1 (by rw [e]; decide)), fun _ _ => rfl, fun k h1 i h2 => ?_, fun k i h2 => ?_⟩, ⟨?_, ?_, ?_, ?_, ?_⟩, fun k hk => ?_, rfl, rfl, rfl⟩
  · exact hV.up (by decide) e2 (by show v 75 + 1 ≤ 40000; omega) (fun k _ hk => if_neg hk)
  · have hx : k = 42 ∨ k = 43 ∨ k = 44 ∨ k = 45 ∨ k = 46 → i ≠ v 75 := fun hk => by
      have := h2 75 (by rcases hk with rfl | rfl | rfl | rfl | rfl <;> decide)
      omega
    show (if k = 46 then _ else if k = 45 then _ else if k = 44 then _ else if k = 43 then _ else if k = 42 then _ else _ : Nat → Int32) i = _
    by_cases e2 : k = 46
    · subst e2; rw [if_pos rfl]; exact if_neg (hx (by decide))
    by_cases e3 : k = 45
    · subst e3; rw [if_neg (by decide), if_pos rfl]; exact if_neg (hx (by decide))
    by_cases e4 : k = 44
    · subst e4; rw [if_neg (by decide), if_neg (by decide), if_pos rfl]; exact if_neg (hx (by decide))
    by_cases e5 : k = 43
    · subst e5; rw [if_neg (by decide), if_neg (by decide), if_neg (by decide), if_pos rfl]; exact if_neg (hx (by decide))
    by_cases e6 : k = 42
    · subst e6; rw [if_neg (by decide), if_neg (by decide), if_neg (by decide), if_neg (by decide), if_pos rfl]; exact if_neg (hx (by decide))
    rw [if_neg e2, if_neg e3, if_neg e4, if_neg e5, if_neg e6]
  · rfl
  · exact if_pos rfl
  · exact if_pos rfl
  · exact if_pos rfl
  · exact if_pos rfl
  · exact if_pos rfl
  · show (if k = 46 then _ else if k = 45 then _ else if k = 44 then _ else if k = 43 then _ else if k = 42 then _ else _ : Nat → Int32) = _
    have : k = 40 ∨ k = 41 ∨ k = 66 ∨ k = 67 ∨ k = 74 ∨ k = 85 ∨ k = 86 := hk
    rw [if_neg (by omega), if_neg (by omega), if_neg (by omega), if_neg (by omega), if_neg (by omega)]
/-- said() -/
theorem r_said {x1 x2 x3 : Int32} (hV : uVn τ v) (hl : v 79 < 24000) : ∃ τ', zF h0 qs ks T (n + 1) 68 [.ref h0, .int x1, .int x2, .int x3] τ = some (some (.int (nI (v 79))), τ') ∧ uVn τ' (uUp v 79) ∧ uFr v τ τ' ∧ (τ'.2.2.1 47 (v 79) = x1 ∧ τ'.2.2.1 48 (v 79) = x2 ∧ τ'.2.2.1 49 (v 79) = x3) ∧ (∀ k, uAy k → τ'.2.2.1 k = τ.2.2.1 k) ∧ τ'.1 126 = τ.1 126 ∧ τ'.1 63 = τ.1 63 ∧ τ'.2.1 64 = τ.2.1 64 := by
  obtain ⟨c1, c2⟩ := hV 79 (by decide)
  have z1 : zin (τ.1 79) 24000 = true := by rw [c1]; exact zin_n hl (by decide)
  have cl : (τ.1 79).toNatClampNeg = v 79 := by rw [c1]; exact nI_clamp (by omega)
  have e1 : τ.1 79 + 1 - 1 = nI (v 79) := by rw [c1, nI_pm]
  have e2 : τ.1 79 + 1 = nI (v 79 + 1) := by rw [c1, nI_p1]
  rw [zE_said]
  unfold b_said
  simp only [zlet, zA, zI, zG, z1, zgd, if_true, cl, if_false, e1, show ¬ (47 : Nat) = 48 by decide, show ¬ (47 : Nat) = 49 by decide, show ¬ (48 : Nat) = 47 by decide, show ¬ (48 : Nat) = 49 by decide, show ¬ (49 : Nat) = 47 by decide, show ¬ (49 : Nat) = 48 by decide]
  refine ⟨_, rfl, ?_, ⟨fun k h1 h2 h3 => if_neg (fun e => h1 (by rw [e]; decide)), fun _ _ => rfl, fun k h1 i h2 => ?_, fun k i h2 => ?_⟩, ⟨?_, ?_, ?_⟩, fun k hk => ?_, rfl, rfl, rfl⟩
  · exact hV.up (by decide) e2 (by show v 79 + 1 ≤ 24000; omega) (fun k _ hk => if_neg hk)
  · have hx : k = 47 ∨ k = 48 ∨ k = 49 → i ≠ v 79 := fun hk => by
      have := h2 79 (by rcases hk with rfl | rfl | rfl <;> decide)
      omega
    show (if k = 49 then _ else if k = 48 then _ else if k = 47 then _ else _ : Nat → Int32) i = _
    by_cases e2 : k = 49
    · subst e2; rw [if_pos rfl]; exact if_neg (hx (by decide))
    by_cases e3 : k = 48
    · subst e3; rw [if_neg (by decide), if_pos rfl]; exact if_neg (hx (by decide))
    by_cases e4 : k = 47
    · subst e4; rw [if_neg (by decide), if_neg (by decide), if_pos rfl]; exact if_neg (hx (by decide))
    rw [if_neg e2, if_neg e3, if_neg e4]
  · rfl
  · exact if_pos rfl
  · exact if_pos rfl
  · exact if_pos rfl
  · show (if k = 49 then _ else if k = 48 then _ else if k = 47 then _ else _ : Nat → Int32) = _
    have : k = 40 ∨ k = 41 ∨ k = 66 ∨ k = 67 ∨ k = 74 ∨ k = 85 ∨ k = 86 := hk
    rw [if_neg (by omega), if_neg (by omega), if_neg (by omega)]
/-- fact() -/
theorem r_fact {x1 x2 x3 x6 : Int32} {x4 : Int64} (hV : uVn τ v) (hl : v 85 < 12000) : ∃ τ', zF h0 qs ks T (n + 1) 69 [.ref h0, .int x1, .int x2, .int x3, .long x4, .int x6] τ = some (some (.int (nI (v 85))), τ') ∧ uVn τ' (uUp v 85) ∧ uFr v τ τ' ∧ (τ'.2.2.1 50 (v 85) = x1 ∧ τ'.2.2.1 51 (v 85) = x2 ∧ τ'.2.2.1 52 (v 85) = x3 ∧ τ'.2.2.1 53 (v 85) = x6 ∧ τ'.2.2.2 54 (v 85) = x4) ∧ (∀ k, uAy k → τ'.2.2.1 k = τ.2.2.1 k) ∧ τ'.1 126 = τ.1 126 ∧ τ'.1 63 = τ.1 63 ∧ τ'.2.1 64 = τ.2.1 64 := by
  obtain ⟨c1, c2⟩ := hV 85 (by decide)
  have z1 : zin (τ.1 85) 12000 = true := by rw [c1]; exact zin_n hl (by decide)
  have cl : (τ.1 85).toNatClampNeg = v 85 := by rw [c1]; exact nI_clamp (by omega)
  have e1 : τ.1 85 + 1 - 1 = nI (v 85) := by rw [c1, nI_pm]
  have e2 : τ.1 85 + 1 = nI (v 85 + 1) := by rw [c1, nI_p1]
  rw [zE_fact]
  unfold b_fact
  simp only [zlet, zA, zI, zG, z1, zgd, if_true, cl, if_false, e1, show ¬ (50 : Nat) = 51 by decide, show ¬ (50 : Nat) = 52 by decide, show ¬ (50 : Nat) = 53 by decide, show ¬ (51 : Nat) = 50 by decide, show ¬ (51 : Nat) = 52 by decide, show ¬ (51 : Nat) = 53 by decide, show ¬ (52 : Nat) = 50 by decide, show ¬ (52 : Nat) = 51 by decide, show ¬ (52 : Nat) = 53 by decide, show ¬ (53 : Nat) = 50 by decide, show ¬ (53 : Nat) = 51 by decide, show ¬ (53 : Nat) = 52 by decide]
  refine ⟨_, rfl, ?_, ⟨fun k h1 h2 h3 => if_neg (fun e => h1 (by rw [e]; decide)), fun _ _ => rfl, fun k h1 i h2 => ?_, fun k i h2 => ?_⟩, ⟨?_, ?_, ?_, ?_, ?_⟩, fun k hk => ?_, rfl, rfl, rfl⟩
  · exact hV.up (by decide) e2 (by show v 85 + 1 ≤ 12000; omega) (fun k _ hk => if_neg hk)
  · have hx : k = 50 ∨ k = 51 ∨ k = 52 ∨ k = 53 → i ≠ v 85 := fun hk => by
      have := h2 85 (by rcases hk with rfl | rfl | rfl | rfl <;> decide)
      omega
    show (if k = 53 then _ else if k = 52 then _ else if k = 51 then _ else if k = 50 then _ else _ : Nat → Int32) i = _
    by_cases e2 : k = 53
    · subst e2; rw [if_pos rfl]; exact if_neg (hx (by decide))
    by_cases e3 : k = 52
    · subst e3; rw [if_neg (by decide), if_pos rfl]; exact if_neg (hx (by decide))
    by_cases e4 : k = 51
    · subst e4; rw [if_neg (by decide), if_neg (by decide), if_pos rfl]; exact if_neg (hx (by decide))
    by_cases e5 : k = 50
    · subst e5; rw [if_neg (by decide), if_neg (by decide), if_neg (by decide), if_pos rfl]; exact if_neg (hx (by decide))
    rw [if_neg e2, if_neg e3, if_neg e4, if_neg e5]
  · show (if k = 54 then _ else _ : Nat → Int64) i = _
    by_cases e2 : k = 54
    · subst e2
      have := h2 85 (by decide)
      rw [if_pos rfl, vp_L, if_neg (by omega)]
    · rw [if_neg e2]
  · exact if_pos rfl
  · exact if_pos rfl
  · exact if_pos rfl
  · exact if_pos rfl
  · show vp_updL _ _ _ _ = _
    rw [vp_L, if_pos rfl]
  · show (if k = 53 then _ else if k = 52 then _ else if k = 51 then _ else if k = 50 then _ else _ : Nat → Int32) = _
    have : k = 40 ∨ k = 41 ∨ k = 66 ∨ k = 67 ∨ k = 74 ∨ k = 85 ∨ k = 86 := hk
    rw [if_neg (by omega), if_neg (by omega), if_neg (by omega), if_neg (by omega)]
/-- gone() -/
theorem r_gone {x1 x2 x3 : Int32} (hV : uVn τ v) (hl : v 110 < 12000) : ∃ τ', zF h0 qs ks T (n + 1) 74 [.ref h0, .int x1, .int x2, .int x3] τ = some (some (.int (nI (v 110))), τ') ∧ uVn τ' (uUp v 110) ∧ uFr v τ τ' ∧ (τ'.2.2.1 71 (v 110) = x2 ∧ τ'.2.2.1 72 (v 110) = x3 ∧ τ'.2.2.1 73 (v 110) = x1) ∧ (∀ k, uAy k → τ'.2.2.1 k = τ.2.2.1 k) ∧ τ'.1 126 = τ.1 126 ∧ τ'.1 63 = τ.1 63 ∧ τ'.2.1 64 = τ.2.1 64 := by
  obtain ⟨c1, c2⟩ := hV 110 (by decide)
  have z1 : zin (τ.1 110) 12000 = true := by rw [c1]; exact zin_n hl (by decide)
  have cl : (τ.1 110).toNatClampNeg = v 110 := by rw [c1]; exact nI_clamp (by omega)
  have e1 : τ.1 110 + 1 - 1 = nI (v 110) := by rw [c1, nI_pm]
  have e2 : τ.1 110 + 1 = nI (v 110 + 1) := by rw [c1, nI_p1]
  rw [zE_gone]
  unfold b_gone
  simp only [zlet, zA, zI, zG, z1, zgd, if_true, cl, if_false, e1, show ¬ (71 : Nat) = 72 by decide, show ¬ (71 : Nat) = 73 by decide, show ¬ (72 : Nat) = 71 by decide, show ¬ (72 : Nat) = 73 by decide, show ¬ (73 : Nat) = 71 by decide, show ¬ (73 : Nat) = 72 by decide]
  refine ⟨_, rfl, ?_, ⟨fun k h1 h2 h3 => if_neg (fun e => h1 (by rw [e]; decide)), fun _ _ => rfl, fun k h1 i h2 => ?_, fun k i h2 => ?_⟩, ⟨?_, ?_, ?_⟩, fun k hk => ?_, rfl, rfl, rfl⟩
  · exact hV.up (by decide) e2 (by show v 110 + 1 ≤ 12000; omega) (fun k _ hk => if_neg hk)
  · have hx : k = 71 ∨ k = 72 ∨ k = 73 → i ≠ v 110 := fun hk => by
      have := h2 110 (by rcases hk with rfl | rfl | rfl <;> decide)
      omega
    show (if k = 73 then _ else if k = 72 then _ else if k = 71 then _ else _ : Nat → Int32) i = _
    by_cases e2 : k = 73
    · subst e2; rw [if_pos rfl]; exact if_neg (hx (by decide))
    by_cases e3 : k = 72
    · subst e3; rw [if_neg (by decide), if_pos rfl]; exact if_neg (hx (by decide))
    by_cases e4 : k = 71
    · subst e4; rw [if_neg (by decide), if_neg (by decide), if_pos rfl]; exact if_neg (hx (by decide))
    rw [if_neg e2, if_neg e3, if_neg e4]
  · rfl
  · exact if_pos rfl
  · exact if_pos rfl
  · exact if_pos rfl
  · show (if k = 73 then _ else if k = 72 then _ else if k = 71 then _ else _ : Nat → Int32) = _
    have : k = 40 ∨ k = 41 ∨ k = 66 ∨ k = 67 ∨ k = 74 ∨ k = 85 ∨ k = 86 := hk
    rw [if_neg (by omega), if_neg (by omega), if_neg (by omega)]
/-- mustBeSo() -/
theorem r_mustBeSo {x1 x2 x3 x4 x5 x6 : Int32} (hV : uVn τ v) (hl : v 123 < 2100) : ∃ τ', zF h0 qs ks T (n + 1) 79 [.ref h0, .int x1, .int x2, .int x3, .int x4, .int x5, .int x6] τ = some (none, τ') ∧ uVn τ' (uUp v 123) ∧ uFr v τ τ' ∧ (τ'.2.2.1 79 (v 123) = x1 ∧ τ'.2.2.1 80 (v 123) = x2 ∧ τ'.2.2.1 81 (v 123) = x3 ∧ τ'.2.2.1 82 (v 123) = x4 ∧ τ'.2.2.1 83 (v 123) = x5 ∧ τ'.2.2.1 84 (v 123) = x6) ∧ (∀ k, uAy k → τ'.2.2.1 k = τ.2.2.1 k) ∧ τ'.1 126 = τ.1 126 ∧ τ'.1 63 = τ.1 63 ∧ τ'.2.1 64 = τ.2.1 64 := by
  obtain ⟨c1, c2⟩ := hV 123 (by decide)
  have z1 : zin (τ.1 123) 2100 = true := by rw [c1]; exact zin_n hl (by decide)
  have cl : (τ.1 123).toNatClampNeg = v 123 := by rw [c1]; exact nI_clamp (by omega)
  have e1 : τ.1 123 + 1 - 1 = nI (v 123) := by rw [c1, nI_pm]
  have e2 : τ.1 123 + 1 = nI (v 123 + 1) := by rw [c1, nI_p1]
  rw [zE_mustBeSo]
  unfold b_mustBeSo
  simp only [zlet, zA, zI, zG, z1, zgd, if_true, cl, if_false, e1, show ¬ (79 : Nat) = 80 by decide, show ¬ (79 : Nat) = 81 by decide, show ¬ (79 : Nat) = 82 by decide, show ¬ (79 : Nat) = 83 by decide, show ¬ (79 : Nat) = 84 by decide, show ¬ (80 : Nat) = 79 by decide, show ¬ (80 : Nat) = 81 by decide, show ¬ (80 : Nat) = 82 by decide, show ¬ (80 : Nat) = 83 by decide, show ¬ (80 : Nat) = 84 by decide, show ¬ (81 : Nat) = 79 by decide, show ¬ (81 : Nat) = 80 by decide, show ¬ (81 : Nat) = 82 by decide, show ¬ (81 : Nat) = 83 by decide, show ¬ (81 : Nat) = 84 by decide, show ¬ (82 : Nat) = 79 by decide, show ¬ (82 : Nat) = 80 by decide, show ¬ (82 : Nat) = 81 by decide, show ¬ (82 : Nat) = 83 by decide, show ¬ (82 : Nat) = 84 by decide, show ¬ (83 : Nat) = 79 by decide, show ¬ (83 : Nat) = 80 by decide, show ¬ (83 : Nat) = 81 by decide, show ¬ (83 : Nat) = 82 by decide, show ¬ (83 : Nat) = 84 by decide, show ¬ (84 : Nat) = 79 by decide, show ¬ (84 : Nat) = 80 by decide, show ¬ (84 : Nat) = 81 by decide, show ¬ (84 : Nat) = 82 by decide, show ¬ (84 : Nat) = 83 by decide]
  refine ⟨_, rfl, ?_, ⟨fun k h1 h2 h3 => if_neg (fun e => h1 (by rw [e]; decide)), fun _ _ => rfl, fun k h1 i h2 => ?_, fun k i h2 => ?_⟩, ⟨?_, ?_, ?_, ?_, ?_, ?_⟩, fun k hk => ?_, rfl, rfl, rfl⟩
  · exact hV.up (by decide) e2 (by show v 123 + 1 ≤ 2100; omega) (fun k _ hk => if_neg hk)
  · have hx : k = 79 ∨ k = 80 ∨ k = 81 ∨ k = 82 ∨ k = 83 ∨ k = 84 → i ≠ v 123 := fun hk => by
      have := h2 123 (by rcases hk with rfl | rfl | rfl | rfl | rfl | rfl <;> decide)
      omega
    show (if k = 84 then _ else if k = 83 then _ else if k = 82 then _ else if k = 81 then _ else if k = 80 then _ else if k = 79 then _ else _ : Nat → Int32) i = _
    by_cases e2 : k = 84
    · subst e2; rw [if_pos rfl]; exact if_neg (hx (by decide))
    by_cases e3 : k = 83
    · subst e3; rw [if_neg (by decide), if_pos rfl]; exact if_neg (hx (by decide))
    by_cases e4 : k = 82
    · subst e4; rw [if_neg (by decide), if_neg (by decide), if_pos rfl]; exact if_neg (hx (by decide))
    by_cases e5 : k = 81
    · subst e5; rw [if_neg (by decide), if_neg (by decide), if_neg (by decide), if_pos rfl]; exact if_neg (hx (by decide))
    by_cases e6 : k = 80
    · subst e6; rw [if_neg (by decide), if_neg (by decide), if_neg (by decide), if_neg (by decide), if_pos rfl]; exact if_neg (hx (by decide))
    by_cases e7 : k = 79
    · subst e7; rw [if_neg (by decide), if_neg (by decide), if_neg (by decide), if_neg (by decide), if_neg (by decide), if_pos rfl]; exact if_neg (hx (by decide))
    rw [if_neg e2, if_neg e3, if_neg e4, if_neg e5, if_neg e6, if_neg e7]
  · rfl
  · exact if_pos rfl
  · exact if_pos rfl
  · exact if_pos rfl
  · exact if_pos rfl
  · exact if_pos rfl
  · exact if_pos rfl
  · show (if k = 84 then _ else if k = 83 then _ else if k = 82 then _ else if k = 81 then _ else if k = 80 then _ else if k = 79 then _ else _ : Nat → Int32) = _
    have : k = 40 ∨ k = 41 ∨ k = 66 ∨ k = 67 ∨ k = 74 ∨ k = 85 ∨ k = 86 := hk
    rw [if_neg (by omega), if_neg (by omega), if_neg (by omega), if_neg (by omega), if_neg (by omega), if_neg (by omega)]
end GRI
