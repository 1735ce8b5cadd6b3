/-! numbers are the same to the class and to the reference; QUALS as they are read -/
section NAS
variable {kk pp ee f fc : Nat → Int32} {T len cnt : Nat} {V : zSt}
theorem nVal_cg {g g' : Nat → Int32} {e : Nat} : ∀ (m i : Nat) (v : Int32), (∀ j, i ≤ j → j < e → g j = g' j) → nVal g e m i v = nVal g' e m i v
  | 0, _, _, _ => rfl
  | m + 1, i, v, h => by
    show (if i < e then nVal g e m (i + 1) (10 * v + g i - 48) else v) = (if i < e then nVal g' e m (i + 1) (10 * v + g' i - 48) else v)
    by_cases c : i < e
    · rw [if_pos c, if_pos c, h i (Nat.le_refl _) c]
      exact nVal_cg m (i + 1) _ (fun j h1 h2 => h j (by omega) h2)
    · rw [if_neg c, if_neg c]
/-- a letter of a word is below 128 -/
def bA (c : Int32) : Bool := decide (¬ c < 0) && decide (c < 128)
theorem bA_L {c : Int32} (h : bL c = true) : bA c = true := by
  unfold bL at h
  rw [Bool.and_eq_true] at h
  have h1 := of_decide_eq_true h.1
  have h2 := of_decide_eq_true h.2
  rw [Int32.lt_iff_toInt_lt] at h1 h2
  have e1 : (97 : Int32).toInt = 97 := rfl
  have e2 : (122 : Int32).toInt = 122 := rfl
  have e3 : (0 : Int32).toInt = 0 := rfl
  have e4 : (128 : Int32).toInt = 128 := rfl
  unfold bA
  rw [decide_eq_true (show ¬ c < 0 by rw [Int32.lt_iff_toInt_lt]; omega), decide_eq_true (show c < 128 by rw [Int32.lt_iff_toInt_lt]; omega)]
  rfl
theorem bA_D {c : Int32} (h : bD c = true) : bA c = true := by
  unfold bD at h
  rw [Bool.and_eq_true] at h
  have h1 := of_decide_eq_true h.1
  have h2 := of_decide_eq_true h.2
  rw [Int32.lt_iff_toInt_lt] at h1 h2
  have e1 : (48 : Int32).toInt = 48 := rfl
  have e2 : (57 : Int32).toInt = 57 := rfl
  have e3 : (0 : Int32).toInt = 0 := rfl
  have e4 : (128 : Int32).toInt = 128 := rfl
  unfold bA
  rw [decide_eq_true (show ¬ c < 0 by rw [Int32.lt_iff_toInt_lt]; omega), decide_eq_true (show c < 128 by rw [Int32.lt_iff_toInt_lt]; omega)]
  rfl
theorem bA_C {c : Int32} {nm : Bool} (h : bC c nm = true) : bA c = true := by
  unfold bC at h
  rw [Bool.or_eq_true, Bool.and_eq_true, Bool.or_eq_true] at h
  rcases h with h | ⟨-, h | h⟩
  · exact bA_D h
  · exact bA_L h
  · rw [of_decide_eq_true h]; decide
theorem bA_S {c : Int32} (h : bS c = true) : bA c = true := by
  unfold bS at h
  have h := of_decide_eq_true h
  have d : ∀ x, x ∈ ([40, 41, 91, 93, 44, 59, 58, 61, 35, 60, 62, 43, 45, 42, 47, 37] : List Int32) → bA x = true := by decide
  exact d c h
theorem bA_w {g : Nat → Int32} {a j : Nat} (h1 : a ≤ j) (h2 : j < wEnd len g a) : bA (g j) = true := by
  unfold wEnd at h2
  split at h2
  · rename_i c
    split at h2
    · by_cases z : j = a
      · rw [z]; exact bA_L c
      · exact bA_C (wRun_in _ _ j (by omega) h2)
    · omega
  · split at h2
    · rename_i c
      split at h2
      · by_cases z : j = a
        · rw [z]; exact bA_D c
        · exact bA_C (wRun_in _ _ j (by omega) h2)
      · omega
    · split at h2
      · split at h2
        · rename_i c
          rw [show j = a by omega]
          exact bA_S c
        · omega
      · rename_i c
        have : j = a ∨ j = a + 1 := by omega
        unfold dSg at c
        split at c
        · split at c
          · rename_i q
            split at c
            · rename_i q'
              rcases this with rfl | rfl
              · rw [q]; decide
              · rw [q']; decide
            · exact absurd rfl c
          · split at c
            · rename_i q
              split at c
              · rename_i q'
                rcases this with rfl | rfl
                · rw [q]; decide
                · rw [q']; decide
              · exact absurd rfl c
            · split at c
              · rename_i q
                split at c
                · rename_i q'
                  rcases this with rfl | rfl
                  · rw [q]; decide
                  · rw [q']; decide
                · exact absurd rfl c
              · split at c
                · rename_i q
                  split at c
                  · rename_i q'
                    rcases this with rfl | rfl
                    · rw [q]; decide
                    · rw [q']; decide
                  · exact absurd rfl c
                · split at c
                  · rename_i q
                    split at c
                    · rename_i q'
                      rcases this with rfl | rfl
                      · rw [q]; decide
                      · rw [q']; decide
                    · exact absurd rfl c
                  · exact absurd rfl c
        · exact absurd rfl c
theorem sB_a {b : Int32} (h : sB b) (ha : bA (b &&& 255) = true) : b &&& 255 = b := by
  obtain ⟨k, hk, e1, e2⟩ := sB_k h
  have d : ∀ k, k < 256 → bA (nI k) = true → nI k = (nI k).toInt8.toInt32 := by decide +kernel
  rw [e1] at ha
  exact e1.trans ((d k hk ha).trans e2.symm)
/-- **numbers are the same** -/
theorem nW_a (hw : rW V T len cnt kk pp ee f) (hc : ∀ i, i < len → fc i = f i) (he : ∀ w, (ee w).toNatClampNeg ≤ len) (h0 : ∀ i, cnt < i → ee i = 0) (w : Nat) : nW T (fun j => fc j &&& 255) pp ee w = nW T f pp ee w := by
  obtain ⟨h1, h2, h3, h4, h5, ⟨h6, h6'⟩, h7, h8⟩ := hw
  unfold nW
  refine nVal_cg _ _ _ (fun j j1 j2 => ?_)
  have jl : j < len := Nat.lt_of_lt_of_le j2 (he w)
  rw [hc j jl]
  by_cases c : w < cnt
  · obtain ⟨a, b1, b2, b3, b4, b5, -⟩ := h5 w c
    rw [b4, nI_clamp (by omega)] at j1
    rw [b5, nI_clamp (by omega)] at j2
    exact sB_a (h2 j jl) (bA_w (g := fun j => f j &&& 255) j1 j2)
  · by_cases c' : w = cnt
    · rw [c', h6', nI_clamp (by omega)] at j1
      omega
    · rw [h0 w (by omega)] at j2
      exact absurd j2 (Nat.not_lt_zero _)
theorem sPl_a (hw : rW V T len cnt kk pp ee f) (hc : ∀ i, i < len → fc i = f i) (he : ∀ w, (ee w).toNatClampNeg ≤ len) (h0 : ∀ i, cnt < i → ee i = 0) (ps : List tP) : sPl T (fun j => fc j &&& 255) pp ee ps = sPl T f pp ee ps := by
  unfold sPl
  have : (fun (x : Int64) (p : tP) => if p.1 = 0 then x + (sg p.2.1 * nW T (fun j => fc j &&& 255) pp ee p.2.2).toInt64 else x) = fun x p => if p.1 = 0 then x + (sg p.2.1 * nW T f pp ee p.2.2).toInt64 else x := funext fun x => funext fun p => by rw [nW_a hw hc he h0]
  rw [this]
theorem zNu_a (hw : rW V T len cnt kk pp ee f) (hc : ∀ i, i < len → fc i = f i) (he : ∀ w, (ee w).toNatClampNeg ≤ len) (h0 : ∀ i, cnt < i → ee i = 0) (d : Option (Bool × Nat)) : zNu T fc pp ee d = nQ T f pp ee d := by
  cases d with
  | none => rfl
  | some q =>
    obtain ⟨g, w⟩ := q
    show sg g * nW T (fun j => fc j &&& 255) pp ee w = if g = true then -(nW T f pp ee w) else nW T f pp ee w
    rw [nW_a hw hc he h0]
    cases g with
    | true => rw [if_pos rfl]; show (-1 : Int32) * _ = _; rw [Int32.neg_mul, Int32.one_mul]
    | false => rw [if_neg (by decide)]; show (1 : Int32) * _ = _; rw [Int32.one_mul]
/-- a QUAL as it is read -/
def tQd (kk : Nat → Int32) (x : tQ) : Prop := x.1 ≤ 2 ∧ x.2.1 ≤ 4 ∧ ∀ g w, x.2.2.2.2 = some (g, w) → kk w = nI 2
theorem aQl_d {x : tQ} {i j : Nat} (h : aQl kk i = .inr (x, j)) : tQd kk x := by
  obtain ⟨i1, i2, i3, i4, h1, h2, h3, h4, h5, -⟩ := aQl_eq h
  refine ⟨?_, ?_, fun g w e => ?_⟩
  · unfold aBs at h1
    split at h1
    · injection h1 with h1; injection h1 with h1 _; omega
    · split at h1
      · injection h1 with h1; injection h1 with h1 _; omega
      · split at h1
        · injection h1 with h1; injection h1 with h1 _; omega
        · cases h1
  · unfold aRe at h4
    split at h4
    · injection h4 with h4; injection h4 with h4 _; omega
    · cases h4
  · unfold aQu at h5
    generalize (if aIs kk 45 (i3 + 1) = true then i3 + 1 + 1 else i3 + 1) = j1 at h5
    have h5 : (if aIs kk 42 j1 = true then _ else _) = _ := h5
    by_cases c1 : aIs kk 42 j1 = true
    · rw [if_pos c1] at h5
      by_cases c2 : (aIs kk 45 (j1 + 1) || aIs kk 43 (j1 + 1)) = true
      · rw [if_pos c2] at h5
        obtain ⟨_, _, q, h5⟩ := on_inr h5
        injection h5 with h5; injection h5 with h5 _
        rw [← h5] at e
        injection e with e; injection e with _ e
        rw [← e]
        exact (aMs_k q).1
      · rw [if_neg c2] at h5
        injection h5 with h5; injection h5 with h5 _
        rw [← h5] at e
        cases e
    · rw [if_neg c1] at h5
      obtain ⟨_, _, q, h5⟩ := on_inr h5
      injection h5 with h5; injection h5 with h5 _
      rw [← h5] at e
      injection e with e; injection e with _ e
      rw [← e]
      exact (aMs_k q).1
theorem aQs_d : ∀ (q i : Nat) {xs : List tQ} {j : Nat}, aQs kk q i = .inr (xs, j) → xs.length ≤ q ∧ ∀ x, x ∈ xs → tQd kk x
  | 0, i, xs, j, h => by
    unfold aQs at h
    split at h
    · cases h
    · injection h with h; injection h with h _
      rw [← h]
      exact ⟨Nat.le_refl _, fun x hx => by cases hx⟩
  | q + 1, i, xs, j, h => by
    unfold aQs at h
    split at h
    · obtain ⟨x, l, e1, h⟩ := on_inr h
      obtain ⟨ys, l2, e2, h⟩ := on_inr h
      injection h with h; injection h with h _
      obtain ⟨a1, a2⟩ := aQs_d q l e2
      rw [← h]
      refine ⟨by rw [List.length_cons]; omega, fun y hy => ?_⟩
      rcases List.mem_cons.mp hy with z | z
      · rw [z]; exact aQl_d e1
      · exact a2 y z
    · injection h with h; injection h with h _
      rw [← h]
      exact ⟨Nat.zero_le _, fun x hx => by cases hx⟩
theorem aPr_d {xs : List tQ} {is : List (Nat × Nat)} {e : tT} {j : Nat} (h : aPr kk T cnt = .inr ((xs, is, e), j)) : (xs.length ≤ 6 ∧ ∀ x, x ∈ xs → tQd kk x) ∧ ∃ j', aE kk T 31 j' = .inr (e, cnt) := by
  unfold aPr at h
  obtain ⟨ys, l, e1, h⟩ := on_inr h
  obtain ⟨is', l2, e2, h⟩ := on_inr h
  obtain ⟨t, l3, e3, h⟩ := on_inr h
  split at h
  · rename_i c
    injection h with h; injection h with h _; injection h with h1 h2; injection h2 with h2 h3
    rw [← h1, ← h3]
    exact ⟨aQs_d 6 0 e1, l2, by rw [e3, c]⟩
  · cases h
end NAS
