/-! LETTERS: how many a text has at least, word by word -/
/-- words that begin with a letter -/
def cLt (c : Int32) : Bool := decide (c = 1) || (decide (200 ≤ c.toInt) && decide (c.toInt ≤ 225))
/-- words that want a space between them -/
def wSp (c c' : Int32) : Nat := if (cLt c = true ∧ (cLt c' = true ∨ c' = 2)) ∨ (c = 2 ∧ c' = 2) then 1 else 0
/-- letters of a word, at least -/
def wLn (c : Int32) : Nat := if 200 ≤ c.toInt ∧ c.toInt ≤ 225 then (kTb.getD (c.toInt.toNat - 200) (0, 0)).2 else if 300 ≤ c.toInt ∧ c.toInt ≤ 304 then 2 else 1
theorem wRun_st {len : Nat} {g : Nat → Int32} {nm : Bool} : ∀ (m i : Nat), len ≤ i + m → wRun len g nm m i < len → bC (g (wRun len g nm m i)) nm = false
  | 0, i, h, h2 => by
    have := wRun_ge len g nm 0 i
    omega
  | m + 1, i, h, h2 => by
    have e : wRun len g nm (m + 1) i = if i < len then (if bC (g i) nm = true then wRun len g nm m (i + 1) else i) else i := by rw [wRun]
    by_cases c : i < len
    · by_cases c2 : bC (g i) nm = true
      · rw [if_pos c, if_pos c2] at e
        rw [e] at h2 ⊢
        exact wRun_st m (i + 1) (by omega) h2
      · rw [if_pos c, if_neg c2] at e
        rw [e]
        exact Bool.eq_false_iff.mpr c2
    · rw [if_neg c] at e
      rw [e] at h2
      exact absurd h2 c
section WST
variable {T len cnt : Nat} {g kk pp ee : Nat → Int32}
theorem nI_tn {k : Nat} (h : k < 2 ^ 31) : (nI k).toNatClampNeg = k := nI_clamp h
theorem kTb_1 : ∀ m, m < 26 → ∃ y, kTb[m]? = some y ∧ kTb.getD m (0, 0) = y ∧ 1 ≤ y.2 := by
  intro m hm
  have h : (List.range 26).all (fun m => decide (1 ≤ (kTb.getD m (0, 0)).2)) = true := by decide +kernel
  have h1 := of_decide_eq_true (List.all_eq_true.mp h m (List.mem_range.mpr hm))
  have l : m < kTb.length := by rw [kTb_len]; exact hm
  generalize kTb = K at *
  refine ⟨K.getD m (0, 0), ?_, rfl, h1⟩
  rw [List.getD_eq_getElem?_getD, List.getElem?_eq_getElem l, Option.getD_some]
/-- what a word's kind tells of it -/
theorem wd_k (hT : 2010 ≤ T) {a : Nat} (h : a < wEnd len g a) : wLn (wKind T len g a (wEnd len g a)) ≤ wEnd len g a - a ∧ (cLt (wKind T len g a (wEnd len g a)) = true → bL (g a) = true) ∧ (wKind T len g a (wEnd len g a) = 2 → bL (g a) = false ∧ bD (g a) = true) := by
  rcases w_cases (T := T) h with ⟨h1, h2⟩ | ⟨h1, h2, h3⟩ | ⟨h1, h2, h3, h4, h5, h6⟩ | ⟨h1, h2, h3, h4, h5⟩
  · rw [h2]
    rcases kKind_val (g := g) (a := a) (l := wEnd len g a - a) hT with e | ⟨m, hm, e⟩
    · rw [e]
      exact ⟨by show 1 ≤ _; omega, fun _ => h1, fun z => absurd z (by decide)⟩
    · obtain ⟨y, y1, y2, y3⟩ := kTb_1 m hm
      have k := (kKind_iff (g := g) (a := a) (l := wEnd len g a - a) hT y1).mp e
      rw [e]
      have ti : (nI (200 + m)).toInt = ((200 + m : Nat) : Int) := nI_toInt (by omega)
      refine ⟨?_, fun _ => h1, fun z => ?_⟩
      · unfold wLn
        rw [ti, if_pos (by omega), show ((200 + m : Nat) : Int).toNat - 200 = m by omega, y2, k.1]
        exact Nat.le_refl _
      · have := congrArg Int32.toInt z
        rw [ti, show (2 : Int32).toInt = 2 from rfl] at this
        omega
  · rw [h3]
    exact ⟨by show 1 ≤ _; omega, fun z => absurd z (by decide), fun _ => ⟨h1, h2⟩⟩
  · rw [h6]
    obtain ⟨k, k1, k2, k3⟩ := bS_val h4
    have ti : (nI k).toInt = ((k : Nat) : Int) := nI_toInt (by omega)
    rw [k3]
    refine ⟨?_, fun z => ?_, fun z => ?_⟩
    · unfold wLn
      rw [ti, if_neg (by omega), if_neg (by omega)]
      omega
    · unfold cLt at z
      rw [ti] at z
      simp only [Bool.or_eq_true, Bool.and_eq_true, decide_eq_true_eq] at z
      rcases z with z | z
      · have := congrArg Int32.toInt z
        rw [ti, show (1 : Int32).toInt = 1 from rfl] at this
        omega
      · omega
    · have := congrArg Int32.toInt z
      rw [ti, show (2 : Int32).toInt = 2 from rfl] at this
      omega
  · rw [h5]
    obtain ⟨k, k1, k3⟩ := dSg_val h3
    have ti : (nI (300 + k)).toInt = ((300 + k : Nat) : Int) := nI_toInt (by omega)
    rw [k3]
    refine ⟨?_, fun z => ?_, fun z => ?_⟩
    · unfold wLn
      rw [ti, if_neg (by omega), if_pos (by omega)]
      omega
    · unfold cLt at z
      rw [ti] at z
      simp only [Bool.or_eq_true, Bool.and_eq_true, decide_eq_true_eq] at z
      rcases z with z | z
      · have := congrArg Int32.toInt z
        rw [ti, show (1 : Int32).toInt = 1 from rfl] at this
        omega
      · omega
    · have := congrArg Int32.toInt z
      rw [ti, show (2 : Int32).toInt = 2 from rfl] at this
      omega
/-- **from word to word** -/
theorem wd_st (hT : 2010 ≤ T) (hl : len ≤ 2000) (hw : wWell T len g kk pp ee cnt) (ho : oW pp ee cnt) (hc : kk cnt = 0 ∧ pp cnt = nI len) {j : Nat} (hj : j < cnt) : (pp j).toNatClampNeg + wLn (kk j) + wSp (kk j) (kk (j + 1)) ≤ (pp (j + 1)).toNatClampNeg := by
  obtain ⟨a, a1, a2, a3, a4, a5, a6⟩ := hw j hj
  obtain ⟨k1, k2, k3⟩ := wd_k (T := T) (len := len) (g := g) hT a2
  rw [← a6] at k1 k2 k3
  rw [a4, nI_tn (by omega)]
  by_cases he : j + 1 = cnt
  · rw [he, hc.1, hc.2, nI_tn (by omega)]
    have s0 : wSp (kk j) 0 = 0 := by
      unfold wSp
      refine if_neg (fun z => ?_)
      rcases z with ⟨-, z | z⟩ | ⟨-, z⟩
      · exact absurd z (by decide)
      · exact absurd z (by decide)
      · exact absurd z (by decide)
    omega
  · obtain ⟨b, b1, b2, b3, b4, b5, b6⟩ := hw (j + 1) (by omega)
    obtain ⟨-, l2, l3⟩ := wd_k (T := T) (len := len) (g := g) hT b2
    rw [← b6] at l2 l3
    have o := ho.1 j (by omega)
    rw [a5, b4, nI_tn (by omega), nI_tn (by omega)] at o
    rw [b4, nI_tn (by omega)]
    by_cases hs : wSp (kk j) (kk (j + 1)) = 0
    · omega
    · have s1 : wSp (kk j) (kk (j + 1)) = 1 := by
        unfold wSp at hs ⊢
        split
        · rfl
        · rename_i c
          rw [if_neg c] at hs
          exact absurd rfl hs
      have ne : wEnd len g a ≠ b := fun z => by
        unfold wSp at s1
        split at s1
        · rename_i c
          rcases c with ⟨c1, c2⟩ | ⟨c1, c2⟩
          · have f1 := k2 c1
            have e1 : wEnd len g a = wRun len g true len (a + 1) := by
              unfold wEnd at a2 ⊢
              rw [if_pos f1] at a2 ⊢
              split
              · rfl
              · rename_i c
                rw [if_neg c] at a2
                omega
            have st := wRun_st (len := len) (g := g) (nm := true) len (a + 1) (by omega) (by rw [← e1, z]; exact b1)
            rw [← e1, z] at st
            unfold bC at st
            rcases c2 with c2 | c2
            · rw [l2 c2] at st
              simp at st
            · rw [(l3 c2).2] at st
              simp at st
          · obtain ⟨f1, f2⟩ := k3 c1
            have e1 : wEnd len g a = wRun len g false len (a + 1) := by
              unfold wEnd at a2 ⊢
              rw [if_neg (by rw [f1]; decide), if_pos f2] at a2 ⊢
              split
              · rfl
              · rename_i c
                rw [if_neg c] at a2
                omega
            have st := wRun_st (len := len) (g := g) (nm := false) len (a + 1) (by omega) (by rw [← e1, z]; exact b1)
            rw [← e1, z] at st
            unfold bC at st
            rw [(l3 c2).2] at st
            simp at st
        · cases s1
      omega
end WST
