/-! the texts of the reference's parser and the class's codes -/
/-- number of the constant, text, the class's code -/
def zKp : List (Nat × String × Nat) := [(487, "qual", 218), (489, "array", 200), (491, "list", 213), (493, "int", 210), (495, ":", 58), (501, "v", 224), (457, "=", 61), (459, "<", 60), (461, "<=", 300), (463, ">", 62), (465, ">=", 301), (467, "#", 35), (506, "-", 45), (508, "*", 42), (510, "+", 43), (515, ";", 59), (517, "input", 209), (522, "bool", 202), (530, "let", 212), (532, "rec", 219), (541, "in", 208), (543, "fun", 206), (545, "->", 304), (547, "if", 207), (622, "not", 217), (582, "(", 40), (584, ")", 41), (578, "true", 223), (580, "false", 205), (609, "len", 211), (611, "size", 221), (620, "&&", 302), (615, "||", 303), (552, "then", 222), (554, "else", 204), (556, "assert", 201), (558, "set", 220), (560, "[", 91), (565, "]", 93), (567, "new", 215), (569, "nil", 216), (571, "cons", 203), (573, "match", 214), (589, "with", 225), (598, "/", 47), (600, "%", 37)]
/-- the letters of the signs of two letters -/
def dLt (k : Nat) : Nat × Nat := if k = 300 then (60, 61) else if k = 301 then (62, 61) else if k = 302 then (38, 38) else if k = 303 then (124, 124) else (45, 62)
/-- text and code are those of a keyword, a sign of one letter, a sign of two -/
def cdK (tx : String) (k : Nat) : Bool := decide (200 ≤ k) && (decide (k < 226) && (decide (tx.toList.length = (kTb.getD (k - 200) (0, 0)).2) && (List.range (kTb.getD (k - 200) (0, 0)).2).all (fun j => decide (zch tx j = kL ((kTb.getD (k - 200) (0, 0)).1 + j)))))
def cdS (tx : String) (k : Nat) : Bool := decide (35 ≤ k ∧ k < 94) && (decide (tx.toList.length = 1) && (decide (zch tx 0 = nI k) && (!bL (nI k) && !bD (nI k))))
def cdD (tx : String) (k : Nat) : Bool := decide (300 ≤ k ∧ k < 305) && (decide (tx.toList.length = 2) && (decide (zch tx 0 = nI (dLt k).1) && decide (zch tx 1 = nI (dLt k).2)))
theorem zKp_ok : zKp.all (fun p => cdK p.2.1 p.2.2 || (cdS p.2.1 p.2.2 || cdD p.2.1 p.2.2)) = true := by decide +kernel
theorem zKp_in : zKp.all (fun p => zKm.contains (p.1, p.2.1)) = true := by decide +kernel
theorem zKp_m {p : Nat × String × Nat} (hp : p ∈ zKp) : (p.1, p.2.1) ∈ zKm := by
  have := List.all_eq_true.mp zKp_in p hp
  exact List.contains_iff_mem.mp this
theorem isT_code {T len a : Nat} {f : Nat → Int32} {p : Nat × String × Nat} (hp : p ∈ zKp) (hT : 2010 ≤ T) (hb : ∀ j, j < len → sB (f j)) (ha : a < len) (hwe : a < wEnd len (fun j => f j &&& 255) a) (hle : wEnd len (fun j => f j &&& 255) a ≤ len) : isT p.2.1 f (kMap (wKind T len (fun j => f j &&& 255) a (wEnd len (fun j => f j &&& 255) a))) a (wEnd len (fun j => f j &&& 255) a) = decide (wKind T len (fun j => f j &&& 255) a (wEnd len (fun j => f j &&& 255) a) = nI p.2.2) := by
  have h := List.all_eq_true.mp zKp_ok p hp
  rw [Bool.or_eq_true, Bool.or_eq_true] at h
  rcases h with h | h | h
  · unfold cdK at h
    rw [Bool.and_eq_true, Bool.and_eq_true, Bool.and_eq_true] at h
    have h1 := of_decide_eq_true h.1
    have h2 := of_decide_eq_true h.2.1
    have h3 := of_decide_eq_true h.2.2.1
    have h4 := List.all_eq_true.mp h.2.2.2
    have hm : kTb[p.2.2 - 200]? = some (kTb.getD (p.2.2 - 200) (0, 0)) := by
      rw [List.getD_eq_getElem?_getD, List.getElem?_eq_getElem (by rw [kTb_len]; omega)]
      rfl
    have := isT_key (T := T) (tx := p.2.1) hT hb ha hwe hle hm h3 (fun j hj => of_decide_eq_true (h4 j (List.mem_range.mpr hj)))
    rw [show 200 + (p.2.2 - 200) = p.2.2 by omega] at this
    exact this
  · unfold cdS at h
    rw [Bool.and_eq_true, Bool.and_eq_true, Bool.and_eq_true, Bool.and_eq_true, Bool.not_eq_true', Bool.not_eq_true'] at h
    exact isT_sign (T := T) hT hb ha hwe (of_decide_eq_true h.2.1) (of_decide_eq_true h.2.2.1) (of_decide_eq_true h.1) h.2.2.2
  · unfold cdD at h
    rw [Bool.and_eq_true, Bool.and_eq_true, Bool.and_eq_true] at h
    have h1 := of_decide_eq_true h.1
    have h2 := of_decide_eq_true h.2.1
    have h3 := of_decide_eq_true h.2.2.1
    have h4 := of_decide_eq_true h.2.2.2
    have hk := dSg_k (len := len) (a := a) (g := fun j => f j &&& 255)
    generalize p.2.2 = k at h1 h3 h4 ⊢
    have ck : k = 300 ∨ k = 301 ∨ k = 302 ∨ k = 303 ∨ k = 304 := by omega
    rcases ck with rfl | rfl | rfl | rfl | rfl
    · exact isT_dbl (T := T) (c := 60) (d := 61) hT hb ha hwe hle h2 h3 h4 (by decide) (by decide) (by decide) (by decide) hk.1
    · exact isT_dbl (T := T) (c := 62) (d := 61) hT hb ha hwe hle h2 h3 h4 (by decide) (by decide) (by decide) (by decide) hk.2.1
    · exact isT_dbl (T := T) (c := 38) (d := 38) hT hb ha hwe hle h2 h3 h4 (by decide) (by decide) (by decide) (by decide) hk.2.2.1
    · exact isT_dbl (T := T) (c := 124) (d := 124) hT hb ha hwe hle h2 h3 h4 (by decide) (by decide) (by decide) (by decide) hk.2.2.2.1
    · exact isT_dbl (T := T) (c := 45) (d := 62) hT hb ha hwe hle h2 h3 h4 (by decide) (by decide) (by decide) (by decide) hk.2.2.2.2
/-- beyond the words the row of kinds is as it was -/
theorem wLex_out (T len : Nat) (g : Nat → Int32) : ∀ (m i : Nat) (kk pp ee : Nat → Int32) (cnt : Nat), cnt ≤ (wLex T len g m i kk pp ee cnt).2.2.2.1 ∧ ∀ j, (wLex T len g m i kk pp ee cnt).2.2.2.1 ≤ j → (wLex T len g m i kk pp ee cnt).1 j = kk j
  | 0, i, kk, pp, ee, cnt => by
    rw [wLex]
    exact ⟨Nat.le_refl _, fun _ _ => rfl⟩
  | m + 1, i, kk, pp, ee, cnt => by
    rw [wLex]
    split
    · split
      · exact wLex_out T len g m _ _ _ _ _
      · split
        · exact wLex_out T len g m _ _ _ _ _
        · split
          · exact ⟨Nat.le_refl _, fun _ _ => rfl⟩
          · have h := wLex_out T len g m (wEnd len g i) (upd kk cnt (wKind T len g i (wEnd len g i))) (upd pp cnt (nI i)) (upd ee cnt (nI (wEnd len g i))) (cnt + 1)
            refine ⟨by omega, fun j hj => ?_⟩
            rw [h.2 j hj]
            have : ¬ j = cnt := by omega
            simp only [upd, if_neg this]
    · exact ⟨Nat.le_refl _, fun _ _ => rfl⟩
