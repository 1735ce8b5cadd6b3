/-! the class's constructor, run on a heap that is a list of cells from sz on -/
def hS (sz : Nat) (l : List oC) (c s : Nat) : oSt := (fun a => if sz ≤ a then l[a - sz]? else none, sz + l.length, c, s)
theorem hS_at (sz k c s : Nat) (l : List oC) : (hS sz l c s).1 (sz + k) = l[k]? := by simp [hS]
theorem hS_new (sz c s n : Nat) (l : List oC) (x : oC) : onew (hS sz l c s) x n = hS sz (l ++ [x]) (c + 1) (s + n) := by
  have h2 : (onew (hS sz l c s) x n).2 = (hS sz (l ++ [x]) (c + 1) (s + n)).2 := by
    simp [onew, hS, Nat.add_assoc]
  refine oSt_ext (fun q => ?_) h2
  show (if q = sz + l.length then some x else if sz ≤ q then l[q - sz]? else none) = if sz ≤ q then (l ++ [x])[q - sz]? else none
  by_cases e : q = sz + l.length
  · subst e; simp
  · rw [if_neg e]
    by_cases e2 : sz ≤ q
    · rw [if_pos e2, if_pos e2]
      by_cases e3 : q - sz < l.length
      · rw [List.getElem?_append_left e3]
      · rw [List.getElem?_eq_none (by omega), List.getElem?_eq_none (by simp; omega)]
    · rw [if_neg e2, if_neg e2]
theorem hS_put (sz c s k : Nat) (l : List oC) (x : oC) (hk : k < l.length) : oput (hS sz l c s) (sz + k) x = hS sz (l.set k x) c s := by
  have h2 : (oput (hS sz l c s) (sz + k) x).2 = (hS sz (l.set k x) c s).2 := by simp [oput, hS]
  refine oSt_ext (fun q => ?_) h2
  show (if q = sz + k then some x else if sz ≤ q then l[q - sz]? else none) = if sz ≤ q then (l.set k x)[q - sz]? else none
  by_cases e : q = sz + k
  · subst e; simp [hk]
  · rw [if_neg e]
    by_cases e2 : sz ≤ q
    · rw [if_pos e2, if_pos e2, List.getElem?_set_ne (by omega)]
    · rw [if_neg e2, if_neg e2]
/-- the object that is made stands behind l, what it makes behind it -/
def hP (sz : Nat) (l : List oC) (a : oC) (m : List oC) (c s : Nat) : oSt := hS sz (l ++ a :: m) c s
theorem hP_nx (sz c s : Nat) (l : List oC) (a : oC) (m : List oC) : (hP sz l a m c s).2.1 = sz + l.length + 1 + m.length := by
  show sz + (l ++ a :: m).length = _
  simp; omega
theorem hP_new (sz c s n : Nat) (l : List oC) (a : oC) (m : List oC) (x : oC) : onew (hP sz l a m c s) x n = hP sz l a (m ++ [x]) (c + 1) (s + n) := by
  unfold hP
  rw [hS_new, List.append_assoc, List.cons_append]
theorem hP_at (sz c s : Nat) (l : List oC) (a : oC) (m : List oC) : (hP sz l a m c s).1 (sz + l.length) = some a := by
  unfold hP
  rw [hS_at]; simp
theorem hP_opf (sz c s ci k : Nat) (l : List oC) (fs : List Value) (m : List oC) (v : Value) (h : k < fs.length) : opf (hP sz l (.inr (ci, fs)) m c s) (some (sz + l.length)) ci k v = some (hP sz l (.inr (ci, fs.set k v)) m c s) := by
  rw [opf_at (hP_at sz c s l _ m) h]
  unfold hP
  rw [hS_put _ _ _ _ _ _ (by simp)]
  simp
theorem hP_sub (sz c s : Nat) (l : List oC) (a b : oC) (m M : List oC) : hP sz (l ++ a :: m) b M c s = hP sz l a (m ++ b :: M) c s := by
  unfold hP
  rw [List.append_assoc, List.cons_append]
theorem va_rfs (a : Nat) : va_rf (some a) = .ref a := rfl
theorem oq_n : (oq 1).2.2 = 3 ∧ (oq 3).2.2 = 10 ∧ (oq 5).2.2 = 18 ∧ (oq 8).2.2 = 5 ∧ (oq 14).2.2 = 13 := by decide
theorem odef_1 : odef 1 = [.int 0, .null, .int 0] := by decide +kernel
theorem odef_8 : odef 8 = [.null, .int 0, .int 0, .int 0, .int 0] := by decide +kernel
theorem odef_3 : odef 3 = [.null, .null, .null, .int 0, .null, .null, .int 0, .int 0, .null, .int 0] := by decide +kernel
theorem odef_5 : odef 5 = [.null, .int 0, .null, .null, .null, .int 0, .null, .null, .null, .int 0, .int 0, .int 0, .int 0, .int 0, .int 0, .long 0, .long 0, .int 0] := by decide +kernel
theorem odef_14 : odef 14 = [.null, .int 0, .null, .null, .null, .int 0, .null, .null, .int 0, .int 0, .null, .null, .null] := by decide +kernel
theorem h_AC (κ : oKv) (T n a : Nat) (σ : oSt) : oF κ T (n + 1) 226 [va_rf (some a)] σ = some (none, σ) := by
  rw [oE_Jxa1e45_init_da8c8]; rfl
theorem h_AL (κ : oKv) (T n sz c s : Nat) (l : List oC) : oF κ T (n + 2) 225 [va_rf (some (sz + l.length))] (hP sz l (.inr (1, odef 1)) [] c s) = some (none, hP sz l (.inr (1, odef 1)) [] c s) := by
  rw [oE_Jxc12de_init_da8c8]
  unfold ob_Jxc12de_init_da8c8
  rw [odef_1]
  simp only [obn, h_AC, ocv, hP_opf _ _ _ _ _ _ [.int 0, .null, .int 0] _ _ (show 0 < 3 by decide), List.set]
theorem h_list (κ : oKv) (T n sz c s : Nat) (l : List oC) : oF κ T (n + 3) 224 [va_rf (some (sz + l.length))] (hP sz l (.inr (1, odef 1)) [] c s) = some (none, hP sz l (.inr (1, [.int 0, .ref κ.2.2.1, .int 0])) [] c s) := by
  rw [oE_Jx4a65c_init_da8c8]
  unfold ob_Jx4a65c_init_da8c8
  simp only [obn, h_AL, ocv]
  rw [odef_1]
  simp only [hP_opf _ _ _ _ _ _ [.int 0, .null, .int 0] _ _ (show 1 < 3 by decide), List.set, obn]
  rfl
theorem onn_0 : onn 0 = true := by decide
theorem onn_6 : onn 6 = true := by decide
theorem onn_40 : onn 40 = true := by decide
theorem onn_64 : onn 64 = true := by decide
theorem onn_128 : onn 128 = true := by decide
theorem onn_1683 : onn 1683 = true := by decide
theorem onn_2000 : onn 2000 = true := by decide
theorem tnc_0 : (0 : Int32).toNatClampNeg = 0 := by decide
theorem tnc_6 : (6 : Int32).toNatClampNeg = 6 := by decide
theorem tnc_40 : (40 : Int32).toNatClampNeg = 40 := by decide
theorem tnc_64 : (64 : Int32).toNatClampNeg = 64 := by decide
theorem tnc_128 : (128 : Int32).toNatClampNeg = 128 := by decide
theorem tnc_1683 : (1683 : Int32).toNatClampNeg = 1683 := by decide
theorem tnc_2000 : (2000 : Int32).toNatClampNeg = 2000 := by decide
/-- the cells that the Octagon's start makes -/
def cOct (p : Nat) : oC := .inr (8, [.ref p, .int 0, .int 0, .int 0, .int 0])
def cL0 : oC := .inl (.long, 0, .inr (.inl (fun _ => 0)))
theorem h_oct (κ : oKv) (T n sz c s : Nat) (l : List oC) : oF κ T (n + 1) 69 [va_rf (some (sz + l.length))] (hP sz l (.inr (8, odef 8)) [] c s) = some (none, hP sz l (cOct (sz + l.length + 1)) [cL0] (c + 1) s) := by
  rw [oE_X6_init]
  unfold ob_X6_init
  rw [odef_8]
  simp only [obn, ogd, if_true, olet, ocv, onn_0, onn_6, onn_40, onn_64, onn_128, onn_1683, onn_2000, tnc_0, tnc_6, tnc_40, tnc_64, tnc_128, tnc_1683, tnc_2000, hP_new, hP_nx, List.nil_append, List.cons_append, List.length_nil, List.length_cons, va_rfs, Nat.zero_add, Nat.reduceAdd, Nat.add_zero]
  rw [hP_opf _ _ _ 8 0 _ [.null, .int 0, .int 0, .int 0, .int 0] _ _ (show 0 < 5 by decide)]
  rfl
def cQ (C : String) (n : Nat) : oC := .inl (.object C, n, .inr (.inr (.inr (.inr (fun _ => none)))))
def cZ (n : Nat) : oC := .inl (.boolean, n, .inl (fun _ => 0))
theorem h_judge (κ : oKv) (T n sz c s : Nat) (l : List oC) : oF κ T (n + 2) 70 [va_rf (some (sz + l.length))] (hP sz l (.inr (3, odef 3)) [] c s) = some (none, hP sz l (.inr (3, [.ref (sz + l.length + 1), .ref (sz + l.length + 1 + 2), .ref (sz + l.length + 1 + 3), .int 0, .ref (sz + l.length + 1 + 4), .ref (sz + l.length + 1 + 5), .int 0, .int 0, .null, .int 0])) [cOct (sz + l.length + 1 + 1), cL0, cQ (oq 7).1 40, cZ 40, cQ (oq 6).1 40, cZ 40] (c + 6) (s + 165)) := by
  rw [oE_X1_init]
  unfold ob_X1_init
  simp only [obn, olet, hP_new, List.nil_append, hP_nx, List.length_nil, Nat.add_zero, oq_n.2.2.2.1]
  have h1 := h_oct κ T n sz (c + 1) (s + 5) (l ++ [.inr (3, odef 3)])
  rw [hP_sub, hP_sub, List.length_append, List.length_singleton, ← Nat.add_assoc] at h1
  simp only [List.nil_append] at h1
  rw [h1]
  rw [odef_3]
  simp only [ocv]
  rw [hP_opf _ _ _ 3 0 _ [.null, .null, .null, .int 0, .null, .null, .int 0, .int 0, .null, .int 0] _ _ (show 0 < 10 by decide)]
  simp only [obn, ogd, if_true, olet, ocv, onn_0, onn_6, onn_40, onn_64, onn_128, onn_1683, onn_2000, tnc_0, tnc_6, tnc_40, tnc_64, tnc_128, tnc_1683, tnc_2000, hP_new, hP_nx, List.nil_append, List.cons_append, List.length_nil, List.length_cons, va_rfs, Nat.zero_add, Nat.reduceAdd, Nat.add_zero, List.set]
  rw [hP_opf _ _ _ 3 1 _ [.ref (sz + l.length + 1), .null, .null, .int 0, .null, .null, .int 0, .int 0, .null, .int 0] _ _ (show 1 < 10 by decide)]
  simp only [obn, ogd, if_true, olet, ocv, onn_0, onn_6, onn_40, onn_64, onn_128, onn_1683, onn_2000, tnc_0, tnc_6, tnc_40, tnc_64, tnc_128, tnc_1683, tnc_2000, hP_new, hP_nx, List.nil_append, List.cons_append, List.length_nil, List.length_cons, va_rfs, Nat.zero_add, Nat.reduceAdd, Nat.add_zero, List.set]
  rw [hP_opf _ _ _ 3 2 _ [.ref (sz + l.length + 1), .ref (sz + l.length + 1 + 2), .null, .int 0, .null, .null, .int 0, .int 0, .null, .int 0] _ _ (show 2 < 10 by decide)]
  simp only [obn, ogd, if_true, olet, ocv, onn_0, onn_6, onn_40, onn_64, onn_128, onn_1683, onn_2000, tnc_0, tnc_6, tnc_40, tnc_64, tnc_128, tnc_1683, tnc_2000, hP_new, hP_nx, List.nil_append, List.cons_append, List.length_nil, List.length_cons, va_rfs, Nat.zero_add, Nat.reduceAdd, Nat.add_zero, List.set]
  rw [hP_opf _ _ _ 3 4 _ [.ref (sz + l.length + 1), .ref (sz + l.length + 1 + 2), .ref (sz + l.length + 1 + 3), .int 0, .null, .null, .int 0, .int 0, .null, .int 0] _ _ (show 4 < 10 by decide)]
  simp only [obn, ogd, if_true, olet, ocv, onn_0, onn_6, onn_40, onn_64, onn_128, onn_1683, onn_2000, tnc_0, tnc_6, tnc_40, tnc_64, tnc_128, tnc_1683, tnc_2000, hP_new, hP_nx, List.nil_append, List.cons_append, List.length_nil, List.length_cons, va_rfs, Nat.zero_add, Nat.reduceAdd, Nat.add_zero, List.set]
  rw [hP_opf _ _ _ 3 5 _ [.ref (sz + l.length + 1), .ref (sz + l.length + 1 + 2), .ref (sz + l.length + 1 + 3), .int 0, .ref (sz + l.length + 1 + 4), .null, .int 0, .int 0, .null, .int 0] _ _ (show 5 < 10 by decide)]
  simp only [obn, ogd, if_true, olet, ocv, onn_0, onn_6, onn_40, onn_64, onn_128, onn_1683, onn_2000, tnc_0, tnc_6, tnc_40, tnc_64, tnc_128, tnc_1683, tnc_2000, hP_new, hP_nx, List.nil_append, List.cons_append, List.length_nil, List.length_cons, va_rfs, Nat.zero_add, Nat.reduceAdd, Nat.add_zero, List.set]
  rfl
def cJ (n : Nat) : oC := .inl (.long, n, .inr (.inl (fun _ => 0)))
def cI (n : Nat) : oC := .inl (.int, n, .inl (fun _ => 0))
def cB (n : Nat) : oC := .inl (.byte, n, .inl (fun _ => 0))
def cA (n : Nat) : oC := .inl (.array .int, n, .inr (.inr (.inr (.inr (fun _ => none)))))
theorem h_mach (κ : oKv) (T n sz c s : Nat) (l : List oC) : oF κ T (n + 1) 71 [va_rf (some (sz + l.length))] (hP sz l (.inr (5, odef 5)) [] c s) = some (none, hP sz l (.inr (5, [.null, .int 0, .ref (sz + l.length + 1), .ref (sz + l.length + 1 + 1), .ref (sz + l.length + 1 + 2), .int 0, .ref (sz + l.length + 1 + 3), .ref (sz + l.length + 1 + 4), .ref (sz + l.length + 1 + 5), .int 0, .int 0, .int 0, .int 0, .int 0, .int 0, .long 0, .long 0, .int 0])) [cJ 6, cA 6, cJ 64, cQ (oq 7).1 1683, cI 1683, cI 1683] (c + 6) (s + 5125)) := by
  rw [oE_X3_init]
  unfold ob_X3_init
  rw [odef_5]
  simp only [obn, ogd, if_true, olet, ocv, onn_0, onn_6, onn_40, onn_64, onn_128, onn_1683, onn_2000, tnc_0, tnc_6, tnc_40, tnc_64, tnc_128, tnc_1683, tnc_2000, hP_new, hP_nx, List.nil_append, List.cons_append, List.length_nil, List.length_cons, va_rfs, Nat.zero_add, Nat.reduceAdd, Nat.add_zero]
  rw [hP_opf _ _ _ 5 2 _ [.null, .int 0, .null, .null, .null, .int 0, .null, .null, .null, .int 0, .int 0, .int 0, .int 0, .int 0, .int 0, .long 0, .long 0, .int 0] _ _ (show 2 < 18 by decide)]
  simp only [obn, ogd, if_true, olet, ocv, onn_0, onn_6, onn_40, onn_64, onn_128, onn_1683, onn_2000, tnc_0, tnc_6, tnc_40, tnc_64, tnc_128, tnc_1683, tnc_2000, hP_new, hP_nx, List.nil_append, List.cons_append, List.length_nil, List.length_cons, va_rfs, Nat.zero_add, Nat.reduceAdd, Nat.add_zero, List.set]
  rw [hP_opf _ _ _ 5 3 _ [.null, .int 0, .ref (sz + l.length + 1), .null, .null, .int 0, .null, .null, .null, .int 0, .int 0, .int 0, .int 0, .int 0, .int 0, .long 0, .long 0, .int 0] _ _ (show 3 < 18 by decide)]
  simp only [obn, ogd, if_true, olet, ocv, onn_0, onn_6, onn_40, onn_64, onn_128, onn_1683, onn_2000, tnc_0, tnc_6, tnc_40, tnc_64, tnc_128, tnc_1683, tnc_2000, hP_new, hP_nx, List.nil_append, List.cons_append, List.length_nil, List.length_cons, va_rfs, Nat.zero_add, Nat.reduceAdd, Nat.add_zero, List.set]
  rw [hP_opf _ _ _ 5 4 _ [.null, .int 0, .ref (sz + l.length + 1), .ref (sz + l.length + 1 + 1), .null, .int 0, .null, .null, .null, .int 0, .int 0, .int 0, .int 0, .int 0, .int 0, .long 0, .long 0, .int 0] _ _ (show 4 < 18 by decide)]
  simp only [obn, ogd, if_true, olet, ocv, onn_0, onn_6, onn_40, onn_64, onn_128, onn_1683, onn_2000, tnc_0, tnc_6, tnc_40, tnc_64, tnc_128, tnc_1683, tnc_2000, hP_new, hP_nx, List.nil_append, List.cons_append, List.length_nil, List.length_cons, va_rfs, Nat.zero_add, Nat.reduceAdd, Nat.add_zero, List.set]
  rw [hP_opf _ _ _ 5 6 _ [.null, .int 0, .ref (sz + l.length + 1), .ref (sz + l.length + 1 + 1), .ref (sz + l.length + 1 + 2), .int 0, .null, .null, .null, .int 0, .int 0, .int 0, .int 0, .int 0, .int 0, .long 0, .long 0, .int 0] _ _ (show 6 < 18 by decide)]
  simp only [obn, ogd, if_true, olet, ocv, onn_0, onn_6, onn_40, onn_64, onn_128, onn_1683, onn_2000, tnc_0, tnc_6, tnc_40, tnc_64, tnc_128, tnc_1683, tnc_2000, hP_new, hP_nx, List.nil_append, List.cons_append, List.length_nil, List.length_cons, va_rfs, Nat.zero_add, Nat.reduceAdd, Nat.add_zero, List.set]
  rw [hP_opf _ _ _ 5 7 _ [.null, .int 0, .ref (sz + l.length + 1), .ref (sz + l.length + 1 + 1), .ref (sz + l.length + 1 + 2), .int 0, .ref (sz + l.length + 1 + 3), .null, .null, .int 0, .int 0, .int 0, .int 0, .int 0, .int 0, .long 0, .long 0, .int 0] _ _ (show 7 < 18 by decide)]
  simp only [obn, ogd, if_true, olet, ocv, onn_0, onn_6, onn_40, onn_64, onn_128, onn_1683, onn_2000, tnc_0, tnc_6, tnc_40, tnc_64, tnc_128, tnc_1683, tnc_2000, hP_new, hP_nx, List.nil_append, List.cons_append, List.length_nil, List.length_cons, va_rfs, Nat.zero_add, Nat.reduceAdd, Nat.add_zero, List.set]
  rw [hP_opf _ _ _ 5 8 _ [.null, .int 0, .ref (sz + l.length + 1), .ref (sz + l.length + 1 + 1), .ref (sz + l.length + 1 + 2), .int 0, .ref (sz + l.length + 1 + 3), .ref (sz + l.length + 1 + 4), .null, .int 0, .int 0, .int 0, .int 0, .int 0, .int 0, .long 0, .long 0, .int 0] _ _ (show 8 < 18 by decide)]
  simp only [obn, ogd, if_true, olet, ocv, onn_0, onn_6, onn_40, onn_64, onn_128, onn_1683, onn_2000, tnc_0, tnc_6, tnc_40, tnc_64, tnc_128, tnc_1683, tnc_2000, hP_new, hP_nx, List.nil_append, List.cons_append, List.length_nil, List.length_cons, va_rfs, Nat.zero_add, Nat.reduceAdd, Nat.add_zero, List.set]
  rfl
theorem h_class (κ : oKv) (T n sz c s : Nat) (l : List oC) : oF κ T (n + 4) 173 [va_rf (some (sz + l.length))] (hP sz l (.inr (14, odef 14)) [] c s) = some (none, hP sz l (.inr (14, [.ref (sz + l.length + 1), .int 0, .null, .null, .null, .int (-1), .ref (sz + l.length + 1 + 1), .ref (sz + l.length + 1 + 2), .int 0, .int 0, .ref (sz + l.length + 1 + 3), .ref (sz + l.length + 1 + 4), .ref (sz + l.length + 1 + 11)])) [cB 2000, cB 128, cB 128, .inr (1, [.int 0, .ref κ.2.2.1, .int 0]), .inr (3, [.ref (sz + l.length + 1 + 4 + 1), .ref (sz + l.length + 1 + 4 + 1 + 2), .ref (sz + l.length + 1 + 4 + 1 + 3), .int 0, .ref (sz + l.length + 1 + 4 + 1 + 4), .ref (sz + l.length + 1 + 4 + 1 + 5), .int 0, .int 0, .null, .int 0]), cOct (sz + l.length + 1 + 6), cL0, cQ (oq 7).1 40, cZ 40, cQ (oq 6).1 40, cZ 40, .inr (5, [.null, .int 0, .ref (sz + l.length + 1 + 11 + 1), .ref (sz + l.length + 1 + 11 + 1 + 1), .ref (sz + l.length + 1 + 11 + 1 + 2), .int 0, .ref (sz + l.length + 1 + 11 + 1 + 3), .ref (sz + l.length + 1 + 11 + 1 + 4), .ref (sz + l.length + 1 + 11 + 1 + 5), .int 0, .int 0, .int 0, .int 0, .int 0, .int 0, .long 0, .long 0, .int 0]), cJ 6, cA 6, cJ 64, cQ (oq 7).1 1683, cI 1683, cI 1683] (c + 18) (s + 7577)) := by
  rw [oE_X12_init]
  unfold ob_X12_init
  rw [odef_14]
  simp only [obn, ogd, if_true, olet, ocv, onn_0, onn_6, onn_40, onn_64, onn_128, onn_1683, onn_2000, tnc_0, tnc_6, tnc_40, tnc_64, tnc_128, tnc_1683, tnc_2000, hP_new, hP_nx, List.nil_append, List.cons_append, List.length_nil, List.length_cons, va_rfs, Nat.zero_add, Nat.reduceAdd, Nat.add_zero]
  rw [hP_opf _ _ _ 14 0 _ [.null, .int 0, .null, .null, .null, .int 0, .null, .null, .int 0, .int 0, .null, .null, .null] _ _ (show 0 < 13 by decide)]
  simp only [obn, ogd, if_true, olet, ocv, onn_0, onn_6, onn_40, onn_64, onn_128, onn_1683, onn_2000, tnc_0, tnc_6, tnc_40, tnc_64, tnc_128, tnc_1683, tnc_2000, hP_new, hP_nx, List.nil_append, List.cons_append, List.length_nil, List.length_cons, va_rfs, Nat.zero_add, Nat.reduceAdd, Nat.add_zero, List.set]
  rw [hP_opf _ _ _ 14 5 _ [.ref (sz + l.length + 1), .int 0, .null, .null, .null, .int 0, .null, .null, .int 0, .int 0, .null, .null, .null] _ _ (show 5 < 13 by decide)]
  simp only [obn, ogd, if_true, olet, ocv, onn_0, onn_6, onn_40, onn_64, onn_128, onn_1683, onn_2000, tnc_0, tnc_6, tnc_40, tnc_64, tnc_128, tnc_1683, tnc_2000, hP_new, hP_nx, List.nil_append, List.cons_append, List.length_nil, List.length_cons, va_rfs, Nat.zero_add, Nat.reduceAdd, Nat.add_zero, List.set]
  rw [hP_opf _ _ _ 14 6 _ [.ref (sz + l.length + 1), .int 0, .null, .null, .null, .int (-1), .null, .null, .int 0, .int 0, .null, .null, .null] _ _ (show 6 < 13 by decide)]
  simp only [obn, ogd, if_true, olet, ocv, onn_0, onn_6, onn_40, onn_64, onn_128, onn_1683, onn_2000, tnc_0, tnc_6, tnc_40, tnc_64, tnc_128, tnc_1683, tnc_2000, hP_new, hP_nx, List.nil_append, List.cons_append, List.length_nil, List.length_cons, va_rfs, Nat.zero_add, Nat.reduceAdd, Nat.add_zero, List.set]
  rw [hP_opf _ _ _ 14 7 _ [.ref (sz + l.length + 1), .int 0, .null, .null, .null, .int (-1), .ref (sz + l.length + 1 + 1), .null, .int 0, .int 0, .null, .null, .null] _ _ (show 7 < 13 by decide)]
  simp only [obn, ogd, if_true, olet, ocv, onn_0, onn_6, onn_40, onn_64, onn_128, onn_1683, onn_2000, tnc_0, tnc_6, tnc_40, tnc_64, tnc_128, tnc_1683, tnc_2000, hP_new, hP_nx, List.nil_append, List.cons_append, List.length_nil, List.length_cons, va_rfs, Nat.zero_add, Nat.reduceAdd, Nat.add_zero, List.set]
  simp only [oq_n.1]
  have h1 := h_list κ T n sz (c + 1 + 1 + 1 + 1) (s + 2000 + 128 + 128 + 3) (l ++ (.inr (14, [.ref (sz + l.length + 1), .int 0, .null, .null, .null, .int (-1), .ref (sz + l.length + 1 + 1), .ref (sz + l.length + 1 + 2), .int 0, .int 0, .null, .null, .null]) : oC) :: [cB 2000, cB 128, cB 128])
  rw [hP_sub, hP_sub, show sz + (l ++ (.inr (14, [.ref (sz + l.length + 1), .int 0, .null, .null, .null, .int (-1), .ref (sz + l.length + 1 + 1), .ref (sz + l.length + 1 + 2), .int 0, .int 0, .null, .null, .null]) : oC) :: [cB 2000, cB 128, cB 128]).length = sz + l.length + 1 + 3 by simp; omega] at h1
  simp only [List.cons_append, List.nil_append, va_rfs, cB] at h1
  rw [h1]
  simp only [obn, ogd, if_true, olet, ocv, onn_0, onn_6, onn_40, onn_64, onn_128, onn_1683, onn_2000, tnc_0, tnc_6, tnc_40, tnc_64, tnc_128, tnc_1683, tnc_2000, hP_new, hP_nx, List.nil_append, List.cons_append, List.length_nil, List.length_cons, va_rfs, Nat.zero_add, Nat.reduceAdd, Nat.add_zero, List.set]
  rw [hP_opf _ _ _ 14 10 _ [.ref (sz + l.length + 1), .int 0, .null, .null, .null, .int (-1), .ref (sz + l.length + 1 + 1), .ref (sz + l.length + 1 + 2), .int 0, .int 0, .null, .null, .null] _ _ (show 10 < 13 by decide)]
  simp only [obn, ogd, if_true, olet, ocv, onn_0, onn_6, onn_40, onn_64, onn_128, onn_1683, onn_2000, tnc_0, tnc_6, tnc_40, tnc_64, tnc_128, tnc_1683, tnc_2000, hP_new, hP_nx, List.nil_append, List.cons_append, List.length_nil, List.length_cons, va_rfs, Nat.zero_add, Nat.reduceAdd, Nat.add_zero, List.set]
  simp only [oq_n.2.1]
  have h2 := h_judge κ T (n + 1) sz (c + 1 + 1 + 1 + 1 + 1) (s + 2000 + 128 + 128 + 3 + 10) (l ++ (.inr (14, [.ref (sz + l.length + 1), .int 0, .null, .null, .null, .int (-1), .ref (sz + l.length + 1 + 1), .ref (sz + l.length + 1 + 2), .int 0, .int 0, .ref (sz + l.length + 1 + 3), .null, .null]) : oC) :: [cB 2000, cB 128, cB 128, .inr (1, [.int 0, .ref κ.2.2.1, .int 0])])
  rw [hP_sub, hP_sub, show sz + (l ++ (.inr (14, [.ref (sz + l.length + 1), .int 0, .null, .null, .null, .int (-1), .ref (sz + l.length + 1 + 1), .ref (sz + l.length + 1 + 2), .int 0, .int 0, .ref (sz + l.length + 1 + 3), .null, .null]) : oC) :: [cB 2000, cB 128, cB 128, .inr (1, [.int 0, .ref κ.2.2.1, .int 0])]).length = sz + l.length + 1 + 4 by simp; omega] at h2
  simp only [List.cons_append, List.nil_append, va_rfs, cB] at h2
  rw [h2]
  simp only [obn, ogd, if_true, olet, ocv, onn_0, onn_6, onn_40, onn_64, onn_128, onn_1683, onn_2000, tnc_0, tnc_6, tnc_40, tnc_64, tnc_128, tnc_1683, tnc_2000, hP_new, hP_nx, List.nil_append, List.cons_append, List.length_nil, List.length_cons, va_rfs, Nat.zero_add, Nat.reduceAdd, Nat.add_zero, List.set]
  rw [hP_opf _ _ _ 14 11 _ [.ref (sz + l.length + 1), .int 0, .null, .null, .null, .int (-1), .ref (sz + l.length + 1 + 1), .ref (sz + l.length + 1 + 2), .int 0, .int 0, .ref (sz + l.length + 1 + 3), .null, .null] _ _ (show 11 < 13 by decide)]
  simp only [obn, ogd, if_true, olet, ocv, onn_0, onn_6, onn_40, onn_64, onn_128, onn_1683, onn_2000, tnc_0, tnc_6, tnc_40, tnc_64, tnc_128, tnc_1683, tnc_2000, hP_new, hP_nx, List.nil_append, List.cons_append, List.length_nil, List.length_cons, va_rfs, Nat.zero_add, Nat.reduceAdd, Nat.add_zero, List.set]
  simp only [oq_n.2.2.1]
  have h3 := h_mach κ T (n + 2) sz (c + 1 + 1 + 1 + 1 + 1 + 6 + 1) (s + 2000 + 128 + 128 + 3 + 10 + 165 + 18) (l ++ (.inr (14, [.ref (sz + l.length + 1), .int 0, .null, .null, .null, .int (-1), .ref (sz + l.length + 1 + 1), .ref (sz + l.length + 1 + 2), .int 0, .int 0, .ref (sz + l.length + 1 + 3), .ref (sz + l.length + 1 + 4), .null]) : oC) :: [cB 2000, cB 128, cB 128, .inr (1, [.int 0, .ref κ.2.2.1, .int 0]), .inr (3, [.ref (sz + l.length + 1 + 4 + 1), .ref (sz + l.length + 1 + 4 + 1 + 2), .ref (sz + l.length + 1 + 4 + 1 + 3), .int 0, .ref (sz + l.length + 1 + 4 + 1 + 4), .ref (sz + l.length + 1 + 4 + 1 + 5), .int 0, .int 0, .null, .int 0]), cOct (sz + l.length + 1 + 4 + 1 + 1), cL0, cQ (oq 7).1 40, cZ 40, cQ (oq 6).1 40, cZ 40])
  rw [hP_sub, hP_sub, show sz + (l ++ (.inr (14, [.ref (sz + l.length + 1), .int 0, .null, .null, .null, .int (-1), .ref (sz + l.length + 1 + 1), .ref (sz + l.length + 1 + 2), .int 0, .int 0, .ref (sz + l.length + 1 + 3), .ref (sz + l.length + 1 + 4), .null]) : oC) :: [cB 2000, cB 128, cB 128, .inr (1, [.int 0, .ref κ.2.2.1, .int 0]), .inr (3, [.ref (sz + l.length + 1 + 4 + 1), .ref (sz + l.length + 1 + 4 + 1 + 2), .ref (sz + l.length + 1 + 4 + 1 + 3), .int 0, .ref (sz + l.length + 1 + 4 + 1 + 4), .ref (sz + l.length + 1 + 4 + 1 + 5), .int 0, .int 0, .null, .int 0]), cOct (sz + l.length + 1 + 4 + 1 + 1), cL0, cQ (oq 7).1 40, cZ 40, cQ (oq 6).1 40, cZ 40]).length = sz + l.length + 1 + 11 by simp; omega] at h3
  simp only [List.cons_append, List.nil_append, va_rfs, cB] at h3
  rw [h3]
  simp only [obn, ogd, if_true, olet, ocv, onn_0, onn_6, onn_40, onn_64, onn_128, onn_1683, onn_2000, tnc_0, tnc_6, tnc_40, tnc_64, tnc_128, tnc_1683, tnc_2000, hP_new, hP_nx, List.nil_append, List.cons_append, List.length_nil, List.length_cons, va_rfs, Nat.zero_add, Nat.reduceAdd, Nat.add_zero, List.set]
  rw [hP_opf _ _ _ 14 12 _ [.ref (sz + l.length + 1), .int 0, .null, .null, .null, .int (-1), .ref (sz + l.length + 1 + 1), .ref (sz + l.length + 1 + 2), .int 0, .int 0, .ref (sz + l.length + 1 + 3), .ref (sz + l.length + 1 + 4), .null] _ _ (show 12 < 13 by decide)]
  simp only [obn, ogd, if_true, olet, ocv, onn_0, onn_6, onn_40, onn_64, onn_128, onn_1683, onn_2000, tnc_0, tnc_6, tnc_40, tnc_64, tnc_128, tnc_1683, tnc_2000, hP_new, hP_nx, List.nil_append, List.cons_append, List.length_nil, List.length_cons, va_rfs, Nat.zero_add, Nat.reduceAdd, Nat.add_zero, List.set]
  rfl
