/-! the keywords, one by one -/
theorem kSame_iff {g : Nat → Int32} {s a l : Nat} : ∀ (m q : Nat), l ≤ q + m → (kSame g s a l m q = true ↔ ∀ j, q ≤ j → j < l → kL (s + j) = g (a + j))
  | 0, q, h => by
    rw [kSame]
    exact ⟨fun _ j h1 h2 => by omega, fun _ => rfl⟩
  | m + 1, q, h => by
    rw [kSame]
    by_cases c1 : q < l
    · rw [if_pos c1]
      by_cases c2 : kL (s + q) = g (a + q)
      · rw [if_pos c2, kSame_iff m (q + 1) (by omega)]
        refine ⟨fun h j h1 h2 => ?_, fun h j h1 h2 => h j (by omega) h2⟩
        by_cases c3 : j = q
        · rw [c3]; exact c2
        · exact h j (by omega) h2
      · rw [if_neg c2]
        exact ⟨fun h => (by cases h), fun h => absurd (h q (Nat.le_refl _) c1) c2⟩
    · rw [if_neg c1]
      exact ⟨fun _ j h1 h2 => by omega, fun _ => rfl⟩
/-- the letters from a on are l letters of a keyword's place s -/
def kEq (g : Nat → Int32) (a l : Nat) (x : Nat × Nat) : Prop := x.2 = l ∧ ∀ j, j < l → kL (x.1 + j) = g (a + j)
/-- starts and lengths of the keywords -/
def kTab : Nat → Nat → Nat → List (Nat × Nat)
  | 0, _, _ => []
  | m + 1, s, i => if i < 120 then (if kL i = 32 then (s, i - s) :: kTab m (i + 1) (i + 1) else kTab m s (i + 1)) else []
def kScan (g : Nat → Int32) (a l : Nat) : Nat → List (Nat × Nat) → Int32
  | _, [] => 1
  | k, x :: r => if x.2 = l ∧ kSame g x.1 a l l 0 = true then nI k else kScan g a l (k + 1) r
theorem kKind_scan {g : Nat → Int32} {a l : Nat} : ∀ (m k s i : Nat), kKind g a l m k s i = kScan g a l k (kTab m s i)
  | 0, k, s, i => by rw [kKind, kTab, kScan]
  | m + 1, k, s, i => by
    rw [kKind, kTab]
    split
    · split
      · rw [kScan, kKind_scan m (k + 1) (i + 1) (i + 1)]
      · exact kKind_scan m k s (i + 1)
    · rw [kScan]
theorem kTab_fuel : ∀ (m m' s i : Nat), 120 ≤ i + m → 120 ≤ i + m' → kTab m s i = kTab m' s i
  | 0, 0, _, _, _, _ => rfl
  | 0, m' + 1, s, i, h, _ => by rw [kTab, kTab, if_neg (by omega)]
  | m + 1, 0, s, i, _, h => by rw [kTab, kTab, if_neg (by omega)]
  | m + 1, m' + 1, s, i, h, h' => by
    rw [kTab, kTab, kTab_fuel m m' (i + 1) (i + 1) (by omega) (by omega), kTab_fuel m m' s (i + 1) (by omega) (by omega)]
/-- the table of the keywords -/
def kTb : List (Nat × Nat) := kTab 120 0 0
theorem kTb_len : kTb.length = 26 := by decide +kernel
/-- two keywords are not alike -/
def kNe (x y : Nat × Nat) : Bool := !(decide (x.2 = y.2) && (List.range x.2).all (fun j => decide (kL (x.1 + j) = kL (y.1 + j))))
theorem kTb_ne : (List.range 26).all (fun m => (List.range m).all (fun m' => kNe (kTb.getD m' (0, 0)) (kTb.getD m (0, 0)))) = true := by decide +kernel
theorem kScan_val {g : Nat → Int32} {a l : Nat} : ∀ (t : List (Nat × Nat)) (k : Nat), kScan g a l k t = 1 ∨ ∃ j, j < t.length ∧ kScan g a l k t = nI (k + j)
  | [], k => Or.inl (by rw [kScan])
  | x :: r, k => by
    rw [kScan]
    split
    · exact Or.inr ⟨0, Nat.succ_pos _, rfl⟩
    · rcases kScan_val (g := g) (a := a) (l := l) r (k + 1) with h | ⟨j, h1, h2⟩
      · exact Or.inl h
      · exact Or.inr ⟨j + 1, Nat.succ_lt_succ h1, by rw [h2, Nat.add_assoc, Nat.add_comm 1 j]⟩
theorem kEq_same {g : Nat → Int32} {a l : Nat} {x : Nat × Nat} : (x.2 = l ∧ kSame g x.1 a l l 0 = true) ↔ kEq g a l x := by
  unfold kEq
  rw [kSame_iff l 0 (by omega)]
  exact ⟨fun h => ⟨h.1, fun j hj => h.2 j (Nat.zero_le _) hj⟩, fun h => ⟨h.1, fun j _ hj => h.2 j hj⟩⟩
theorem kEq_ne {g : Nat → Int32} {a l : Nat} {x y : Nat × Nat} (h : kNe x y = true) (h1 : kEq g a l x) : ¬ kEq g a l y := fun h2 => by
  unfold kNe at h
  rw [decide_eq_true (h1.1.trans h2.1.symm), Bool.true_and] at h
  have : (List.range x.2).all (fun j => decide (kL (x.1 + j) = kL (y.1 + j))) = true := List.all_eq_true.mpr (fun j hj => by
    have hj' := List.mem_range.mp hj
    rw [h1.1] at hj'
    exact decide_eq_true ((h1.2 j hj').trans (h2.2 j hj').symm))
  rw [this] at h
  cases h
theorem kScan_iff {g : Nat → Int32} {a l : Nat} : ∀ (t : List (Nat × Nat)) (k m : Nat) (y : Nat × Nat), 200 ≤ k → k + t.length < 400 → t[m]? = some y → (∀ m', m' < m → ∀ x, t[m']? = some x → kNe x y = true) → (kScan g a l k t = nI (k + m) ↔ kEq g a l y)
  | [], k, m, y, _, _, h, _ => by cases h
  | x :: r, k, 0, y, hk, hl, h, hd => by
    rw [List.getElem?_cons_zero] at h
    have exy : x = y := Option.some.inj h
    subst exy
    rw [kScan]
    by_cases c : x.2 = l ∧ kSame g x.1 a l l 0 = true
    · rw [if_pos c]
      exact ⟨fun _ => kEq_same.mp c, fun _ => rfl⟩
    · rw [if_neg c]
      refine ⟨fun h => ?_, fun h => absurd (kEq_same.mpr h) c⟩
      rw [List.length_cons] at hl
      rcases kScan_val (g := g) (a := a) (l := l) r (k + 1) with h9 | ⟨j, h1, h2⟩
      · rw [h9] at h
        exact absurd h.symm (nI_k1 k hk (by omega))
      · rw [h2] at h
        have := nI_inj' (by omega) (by omega) h
        omega
  | x :: r, k, m + 1, y, hk, hl, h, hd => by
    rw [List.getElem?_cons_succ] at h
    rw [List.length_cons] at hl
    have hm : m < r.length := by
      by_cases c : m < r.length
      · exact c
      · rw [List.getElem?_eq_none (by omega)] at h
        cases h
    rw [kScan]
    by_cases c : x.2 = l ∧ kSame g x.1 a l l 0 = true
    · rw [if_pos c]
      refine ⟨fun h => ?_, fun h => absurd h (kEq_ne (hd 0 (Nat.succ_pos _) x rfl) (kEq_same.mp c))⟩
      have := nI_inj' (by omega) (by omega) h
      omega
    · rw [if_neg c, show k + (m + 1) = k + 1 + m by omega]
      exact kScan_iff r (k + 1) m y (by omega) (by omega) h (fun m' hm' z hz => hd (m' + 1) (by omega) z (by rw [List.getElem?_cons_succ]; exact hz))
/-- a word's kind is that of keyword m iff it is keyword m -/
theorem kKind_iff {g : Nat → Int32} {T a l m : Nat} {y : Nat × Nat} (hT : 2010 ≤ T) (hm : kTb[m]? = some y) : kKind g a l T 200 0 0 = nI (200 + m) ↔ kEq g a l y := by
  have hl : m < 26 := by
    by_cases c : m < 26
    · exact c
    · rw [List.getElem?_eq_none (by rw [kTb_len]; omega)] at hm
      cases hm
  rw [kKind_scan, kTab_fuel T 120 0 0 (by omega) (by omega)]
  refine kScan_iff kTb 200 m y (by omega) (by rw [kTb_len]; omega) hm (fun m' hm' x hx => ?_)
  have h1 := List.all_eq_true.mp (List.all_eq_true.mp kTb_ne m (List.mem_range.mpr hl)) m' (List.mem_range.mpr hm')
  rw [List.getD_eq_getElem?_getD, List.getD_eq_getElem?_getD, hx, hm] at h1
  exact h1
