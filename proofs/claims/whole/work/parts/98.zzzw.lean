/-! the reference: namesOf = kT -/
section KNP
variable {ks : Nat → Nat} {qs : List Nat} {T h0 len cnt lo N S P A : Nat} {kk pp ee f : Nat → Int32}
theorem nm_2 (hT : 2110 ≤ T) (hN : N ≤ 2100) {τ : zSt} {q : kSt} {m : Nat} {d : Nat × Nat × Nat × tS × tS} {z : Unit} {a b : tT} (Ia : kE ks qs T h0 len cnt lo N S P A kk pp ee f a) (Ib : kE ks qs T h0 len cnt lo N S P A kk pp ee f b) (hw : rW τ T len cnt kk pp ee f) (hr : kR τ q) (ho : kOk cnt q) (hE : q.1.length + 5 * tH (.inner 2 d z a b) ≤ 400) (hM : q.2.1.length + (tW (.inner 2 d z a b)).length ≤ 700) (w0 : d.2.1 ≤ 4) (w1 : d.1 + 3 + d.2.1 ≤ cnt) (w2 : ∀ i, i < d.2.1 → aIs kk 1 (d.1 + 3 + i) = true) (w3 : aIs kk 1 (d.1 + 3 + d.2.1) = false) (wa : tWf kk cnt a 0) (wb : tWf kk cnt b 0) (ht : rTr pp τ lo N S P A (.inner 2 d z a b) 0 0 m) : k39 ks qs T h0 τ m (tD (.inner 2 d z a b)) (kT f pp ee (.inner 2 d z a b) q) := by
  have hE : q.1.length + 5 * (max (tH a) (tH b) + 1) ≤ 400 := hE
  have hM : q.2.1.length + ((d.1 + 2) :: (List.range' (d.1 + 3) d.2.1 ++ (tW a ++ tW b)) : List Nat).length ≤ 700 := hM
  simp only [List.length_cons, List.length_append, List.length_range'] at hM
  obtain ⟨t0, ⟨t3, t4⟩, x, y, ⟨t5, t6⟩, ta, tb⟩ := ht
  intro n hn
  have hn : max (tD a) (tD b) + 1 ≤ n := hn
  obtain ⟨n, rfl⟩ : ∃ n', n = n' + 1 := ⟨n - 1, by omega⟩
  have hcn := hw.cn
  have hm : m < 2100 := by have := t0.1.2; omega
  have h6 : τ.2.2.1 6 m = nI 2 := t0.2.1
  have h9 : τ.2.2.1 9 m = nI (d.1 + 2) := t3
  have h10 : τ.2.2.1 10 m = nI (d.1 + 3) := t4
  have h11 : τ.2.2.1 11 m = nI x := t5
  have h12 : τ.2.2.1 12 m = nI y := t6
  obtain ⟨s1, e1, r1, F1⟩ : ∃ τ', zF h0 qs ks T (n + 5) 33 [.ref h0, .int (nI (d.1 + 2))] τ = some (some (.int (nI q.2.1.length)), τ') ∧ kR τ' (kTell (d.1 + 2) q) ∧ kFm τ τ' := r_tell (n := n + 4) hw hr (by omega) (by omega)
  have O1 := ho.tell (show d.1 + 2 < cnt by omega) (by omega)
  have l1 : q.2.1.length < (kTell (d.1 + 2) q).2.1.length := by show _ < (q.2.1 ++ [d.1 + 2]).length; rw [List.length_append]; simp
  have W1 := F1.rows m
  have e2 : zF h0 qs ks T (n + 5) 38 [.ref h0, .int (nI m)] s1 = some (some (.int (nI d.2.1)), s1) := r_params (n := n + 4) (by omega) (F1.rw hw) hm (W1.2.1.trans h10) w2 w3 w1
  obtain ⟨s3, e3, r3, g3⟩ : ∃ τ', zF h0 qs ks T (n + 5) 34 [.ref h0, .int (nI q.2.1.length)] s1 = some (none, τ') ∧ kR τ' (kTc f pp ee (d.1 + 2) q) ∧ kFm s1 τ' := r_counts (n := n + 3) (by omega) (F1.rw hw) r1 O1 l1 (by show q.1.length < 400; omega)
  have F3 := F1.tr g3
  have c12 := kTc_12 (f := f) (pp := pp) (ee := ee) (d.1 + 2) q
  have O3 : kOk cnt (kTc f pp ee (d.1 + 2) q) := O1.app l1 (kCnt_12 _ _)
  have L3 : (kTc f pp ee (d.1 + 2) q).1.length = q.1.length + 1 := by rw [c12.1, List.length_append]; rfl
  have M3 : (kTc f pp ee (d.1 + 2) q).2.1.length = q.2.1.length + 1 := by rw [c12.2, List.length_append]; rfl
  obtain ⟨s4, e4, r4, F4, O4⟩ := r_parN (h0 := h0) (qs := qs) (ks := ks) (n := n) (x2 := nI q.1.length) hT hw hm h10 w0 w1 d.2.1 0 T s3 (kTc f pp ee (d.1 + 2) q) (Nat.zero_add _) (by omega) F3 r3 O3 (by omega) (by omega)
  have p12 := kPar_12 (f := f) (pp := pp) (ee := ee) d.2.1 (d.1 + 3 + 0) (kTc f pp ee (d.1 + 2) q)
  obtain ⟨q4, hq4⟩ : ∃ x, x = kPar f pp ee d.2.1 (d.1 + 3 + 0) (kTc f pp ee (d.1 + 2) q) := ⟨_, rfl⟩
  rw [← hq4] at r4 O4 p12
  have L4 : q4.1.length = q.1.length + 1 + d.2.1 := by rw [p12.1, List.length_append, L3, List.length_range']
  have M4 : q4.2.1.length = q.2.1.length + 1 + d.2.1 := by rw [p12.2, List.length_append, M3, List.length_range']
  have W4 := F4.rows m
  obtain ⟨s5, e5, r5, g5⟩ : ∃ τ', zF h0 qs ks T (n + 5) 39 [.ref h0, .int (nI x)] s4 = some (none, τ') ∧ kR τ' (kT f pp ee a q4) ∧ kFm s4 τ' := Ia s4 q4 x (F4.rw hw) r4 O4 (by omega) (by omega) wa (ta.fm F4) n (by omega)
  have t12 := kT_12 (f := f) (pp := pp) (ee := ee) a q4
  have O5 : kOk cnt (kT f pp ee a q4) := O4.tr t12 (tWf_tW a 0 wa) (by omega)
  obtain ⟨q5, hq5⟩ : ∃ x, x = kT f pp ee a q4 := ⟨_, rfl⟩
  rw [← hq5] at r5 t12 O5
  have F5 := F4.tr g5
  have A5 : q5.1 = (q.1 ++ [q.2.1.length]) ++ List.range' (kTc f pp ee (d.1 + 2) q).2.1.length d.2.1 := by rw [t12.1, p12.1, c12.1]
  have B := r5.bk (l := q.1 ++ [q.2.1.length]) A5
  have O6 := O5.bk (l := q.1 ++ [q.2.1.length]) A5
  have M5 : q5.2.1.length = q.2.1.length + 1 + d.2.1 + (tW a).length := by rw [t12.2, List.length_append, M4]
  obtain ⟨s6, hs6⟩ : ∃ x, x = zI s5 51 (nI (q.1 ++ [q.2.1.length]).length) := ⟨_, rfl⟩
  obtain ⟨q6, hq6⟩ : ∃ x, x = kBk (q.1 ++ [q.2.1.length]) q5 := ⟨_, rfl⟩
  rw [← hs6, ← hq6] at B
  rw [← hq6] at O6
  have M6 : q6.2.1.length = q.2.1.length + 1 + d.2.1 + (tW a).length := by rw [hq6]; exact M5
  have A6 : q6.1 = q.1 ++ [q.2.1.length] := by rw [hq6]; rfl
  have L6 : q6.1.length = q.1.length + 1 := by rw [A6, List.length_append]; rfl
  have F6 := F5.tr B.2
  have W6 := F6.rows m
  obtain ⟨s7, e7, r7, g7⟩ : ∃ τ', zF h0 qs ks T (n + 5) 39 [.ref h0, .int (nI y)] s6 = some (none, τ') ∧ kR τ' (kT f pp ee b q6) ∧ kFm s6 τ' := Ib s6 q6 y (F6.rw hw) B.1 O6 (by omega) (by omega) wb (tb.fm F6) n (by omega)
  have b12 := kT_12 (f := f) (pp := pp) (ee := ee) b q6
  have K := r7.bk (l := q.1) (r := [q.2.1.length]) (by rw [b12.1, A6])
  refine ⟨zI s7 51 (nI q.1.length), ?_, ?_, (F6.tr g7).tr K.2⟩
  · rw [zE_namesOf]
    unfold b_namesOf
    simp only [zgd, zin_n hm (by decide), if_true, nI_clamp (show m < 2 ^ 31 by omega), h6]
    rw [if_neg (by decide), if_pos (by decide)]
    simp only [h9, e1, zci, e2, e3, zcv, hr.2.1.1]
    refine e4.trans ?_
    obtain ⟨u, hu⟩ : ∃ u, T - d.2.1 = u + 1 := ⟨T - d.2.1 - 1, by omega⟩
    rw [hu, l_namesOf_165, if_pos (nI_le (Nat.le_refl _) (by omega))]
    have e51 : zI s5 51 (nI q.1.length + 1) = s6 := by
      rw [hs6, List.length_append]
      exact congrArg (zI s5 51) (nI_add _ 1 ▸ rfl)
    simp only [zgd, zin_n hm (by decide), if_true, nI_clamp (show m < 2 ^ 31 by omega), W4.2.2.1, h11, e5, zcv, zlet, e51, W6.2.2.2, h12, e7, j_namesOf_596]
  · have E : kT f pp ee (.inner 2 d z a b) q = kBk q.1 (kT f pp ee b q6) := by
      rw [hq6, hq5, hq4]; rfl
    rw [E]; exact K.1
/-- two E's behind one another -/
def kP (ks : Nat → Nat) (qs : List Nat) (T h0 len cnt lo N S P A : Nat) (kk pp ee f : Nat → Int32) (b : tT) : Prop := ∀ (τ : zSt) (q : kSt) (y z : Nat), rW τ T len cnt kk pp ee f → kR τ q → kOk cnt q → q.1.length + 5 * tH b ≤ 400 → q.2.1.length + (tW b).length ≤ 700 → tWf kk cnt b 1 → rTr pp τ lo N S P A b 0 y z → ∀ n, tD b ≤ n → ∃ υ υ', zF h0 qs ks T (n + 5) 39 [.ref h0, .int (nI y)] τ = some (none, υ) ∧ zF h0 qs ks T (n + 5) 39 [.ref h0, .int (nI z)] υ = some (none, υ') ∧ kR υ' (kT f pp ee b q) ∧ kFm τ υ ∧ kFm τ υ'
theorem nm_4 (hT : 2110 ≤ T) (hN : N ≤ 2100) (hS : S ≤ 2100) (hP : P ≤ 2100) {τ : zSt} {q : kSt} {m : Nat} {d : Nat × Nat × Nat × tS × tS} {z : Unit} {a b : tT} (Ib : kP ks qs T h0 len cnt lo N S P A kk pp ee f b) (hw : rW τ T len cnt kk pp ee f) (hr : kR τ q) (ho : kOk cnt q) (hE : q.1.length + 5 * tH (.inner 4 d z a b) ≤ 400) (hM : q.2.1.length + (tW (.inner 4 d z a b)).length ≤ 700) (wc : cWf cnt a false) (wb : tWf kk cnt b 1) (ht : rTr pp τ lo N S P A (.inner 4 d z a b) 0 0 m) : k39 ks qs T h0 τ m (tD (.inner 4 d z a b)) (kT f pp ee (.inner 4 d z a b) q) := by
  have hE : q.1.length + 5 * (tH b + 1) ≤ 400 := hE
  have hM : q.2.1.length + (tW b).length ≤ 700 := hM
  obtain ⟨t0, _, x, y, u, ⟨t3, t5, t6⟩, ta, tb⟩ := ht
  intro n hn
  have hn : max (kD a) (tD b) + 1 ≤ n := hn
  obtain ⟨n, rfl⟩ : ∃ n', n = n' + 1 := ⟨n - 1, by omega⟩
  have hm : m < 2100 := by have := t0.1.2; omega
  have h6 : τ.2.2.1 6 m = nI 4 := t0.2.1
  have h9 : τ.2.2.1 9 m = nI x := t3
  have h11 : τ.2.2.1 11 m = nI y := t5
  have h12 : τ.2.2.1 12 m = nI u := t6
  obtain ⟨s1, e1, r1, F1⟩ : ∃ τ', zF h0 qs ks T (n + 5) 37 [.ref h0, .int (nI x)] τ = some (none, τ') ∧ kR τ' (kCt f pp ee a q) ∧ kFm τ τ' := (r_ncond hT hN hS hP a).1 τ q x hw hr ho (by omega) wc ta (n + 1) (by omega)
  have c12 := kCt_12 (f := f) (pp := pp) (ee := ee) a q
  obtain ⟨s2, s3, e2, e3, r3, F2, F3⟩ := Ib s1 (kCt f pp ee a q) y u (F1.rw hw) r1 (ho.of c12) (by rw [c12.1]; omega) (by rw [c12.2]; omega) wb (tb.fm F1) n (by omega)
  have K := r3.bk (l := q.1) (r := []) (by rw [(kT_12 _ _).1, c12.1, List.append_nil])
  have W1 := F1.rows m
  have W2 := (F1.tr F2).rows m
  refine ⟨zI s3 51 (nI q.1.length), ?_, ?_, (F1.tr F3).tr K.2⟩
  · rw [zE_namesOf]
    unfold b_namesOf
    simp only [zgd, zin_n hm (by decide), if_true, nI_clamp (show m < 2 ^ 31 by omega), h6]
    rw [if_neg (by decide), if_neg (by decide), if_neg (by decide), if_pos (by decide)]
    simp only [h9, e1, zcv, W1.2.2.1, h11, e2, W2.2.2.2, h12, e3, j_namesOf_596, zlet, hr.2.1.1]
  · have Z : kBk q.1 (kT f pp ee b (kCt f pp ee a q)) = kT f pp ee b (kCt f pp ee a q) := by
      have : (kT f pp ee b (kCt f pp ee a q)).1 = q.1 := by rw [(kT_12 _ _).1, c12.1]
      rw [← this]; rfl
    rw [Z] at K
    exact K.1
/-- ARGS -/
def kA (ks : Nat → Nat) (qs : List Nat) (T h0 len cnt lo N S P A : Nat) (kk pp ee f : Nat → Int32) (a : tT) : Prop := ∀ (υ : zSt) (q : kSt) (m x Q i t n : Nat) (x2 : Int32), rW υ T len cnt kk pp ee f → kR υ q → kOk cnt q → q.1.length + 5 * tH a ≤ 400 → q.2.1.length + (tW a).length ≤ 700 → tWf kk cnt a 2 → rTr pp υ lo N S P A a 0 (x + i) (x + Q) → m < 2100 → υ.2.2.1 10 m = nI x → υ.2.2.1 11 m = nI Q → Q < i + t → tD a ≤ n → ∃ υ', l_namesOf_422 T (zF h0 qs ks T (n + 5)) h0 qs ks t (nI m) x2 (nI i) υ = some (none, zI υ' 51 x2) ∧ kR υ' (kT f pp ee a q) ∧ kFm υ υ'
theorem nm_15 (hT : 2110 ≤ T) (hN : N ≤ 2100) (hA : A ≤ 2100) {τ : zSt} {q : kSt} {m : Nat} {d : Nat × Nat × Nat × tS × tS} {z : Unit} {a b : tT} (Ia : kA ks qs T h0 len cnt lo N S P A kk pp ee f a) (hw : rW τ T len cnt kk pp ee f) (hr : kR τ q) (ho : kOk cnt q) (hE : q.1.length + 5 * tH (.inner 15 d z a b) ≤ 400) (hM : q.2.1.length + (tW (.inner 15 d z a b)).length ≤ 700) (w1 : d.1 < cnt) (wa : tWf kk cnt a 2) (ht : rTr pp τ lo N S P A (.inner 15 d z a b) 0 0 m) : k39 ks qs T h0 τ m (tD (.inner 15 d z a b)) (kT f pp ee (.inner 15 d z a b) q) := by
  have hE : q.1.length + 5 * (max (tH a) (tH b) + 1) ≤ 400 := hE
  have hM : q.2.1.length + (tW a).length ≤ 700 := hM
  obtain ⟨t0, t3, x, Q, ⟨t4, t5⟩, ta⟩ := ht
  intro n hn
  have hn : max (tD a) (tD b) + 1 ≤ n := hn
  obtain ⟨n, rfl⟩ : ∃ n', n = n' + 1 := ⟨n - 1, by omega⟩
  have hm : m < 2100 := by have := t0.1.2; omega
  have h6 : τ.2.2.1 6 m = nI 15 := t0.2.1
  have h9 : τ.2.2.1 9 m = nI d.1 := t3
  have h10 : τ.2.2.1 10 m = nI x := t4
  have h11 : τ.2.2.1 11 m = nI Q := t5
  obtain ⟨s1, e1, r1, F1⟩ : ∃ τ', zF h0 qs ks T (n + 5) 35 [.ref h0, .int (nI d.1)] τ = some (none, τ') ∧ kR τ' (kUse f pp ee d.1 q) ∧ kFm τ τ' := r_uses (n := n + 3) (by omega) hw hr ho w1 (by omega)
  have c12 := kUse_12 (f := f) (pp := pp) (ee := ee) d.1 q
  have W1 := F1.rows m
  have hQ : Q < 0 + T := by
    cases a with
    | leaf => have h : x + Q = x := ta; omega
    | inner g' d' z' a' b' =>
      have h0 : x < A := by
        rcases wa with ⟨c, _⟩ | ⟨-, -, hb, hf⟩ | ⟨c, _⟩
        · cases c
        · rcases hf with ⟨rfl, -, -⟩ | ⟨rfl, -, -⟩ | ⟨rfl, -, -, -⟩
          · exact ta.1.1
          · exact ta.1.1
          · exact ta.1.1
        · cases c
      have := (rTr_args _ _ _ wa ta).2 (by omega)
      omega
  obtain ⟨s2, e2, r2, F2⟩ := Ia s1 (kUse f pp ee d.1 q) m x Q 0 T n (nI q.1.length) (F1.rw hw) r1 (ho.of c12) (by rw [c12.1]; omega) (by rw [c12.2]; exact hM) wa (ta.fm F1) hm (W1.2.1.trans h10) (W1.2.2.1.trans h11) hQ (by omega)
  have K := r2.bk (l := q.1) (r := []) (by rw [(kT_12 _ _).1, c12.1, List.append_nil])
  refine ⟨zI s2 51 (nI q.1.length), ?_, ?_, (F1.tr F2).tr K.2⟩
  · rw [zE_namesOf]
    unfold b_namesOf
    simp only [zgd, zin_n hm (by decide), if_true, nI_clamp (show m < 2 ^ 31 by omega), h6]
    rw [if_neg (by decide), if_neg (by decide), if_neg (by decide), if_neg (by decide), if_neg (by decide), if_neg (by decide), if_neg (by decide), if_neg (by decide), if_neg (by decide), if_neg (by decide), if_neg (by decide), if_neg (by decide), if_neg (by decide), if_neg (by decide), if_pos (by decide)]
    simp only [h9, e1, zcv, hr.2.1.1]
    exact e2
  · have Z : kBk q.1 (kT f pp ee a (kUse f pp ee d.1 q)) = kT f pp ee a (kUse f pp ee d.1 q) := by
      have : (kT f pp ee a (kUse f pp ee d.1 q)).1 = q.1 := by rw [(kT_12 _ _).1, c12.1]
      rw [← this]; rfl
    rw [Z] at K
    exact K.1
theorem nm_A0 : kA ks qs T h0 len cnt lo N S P A kk pp ee f .leaf := fun υ q m x Q i t n x2 hw hr ho _ _ _ ht hm h10 h11 hQ _ => by
  have e : x + Q = x + i := ht
  have e : Q = i := by omega
  subst e
  obtain ⟨t, rfl⟩ : ∃ t', t = t' + 1 := ⟨t - 1, by omega⟩
  refine ⟨υ, ?_, hr, kFm.rf υ⟩
  rw [l_namesOf_422]
  simp only [zgd, zin_n hm (by decide), if_true, nI_clamp (show m < 2 ^ 31 by omega), h11]
  rw [if_pos (Int32.le_refl _)]
  rfl
theorem kA.go {υ0 υ : zSt} {q : kSt} {m x Q i t n : Nat} {x2 : Int32} {b : tT} (Ib : kA ks qs T h0 len cnt lo N S P A kk pp ee f b) (hw : rW υ0 T len cnt kk pp ee f) (F : kFm υ0 υ) (hr : kR υ q) (ho : kOk cnt q) (hE : q.1.length + 5 * tH b ≤ 400) (hM : q.2.1.length + (tW b).length ≤ 700) (wb : tWf kk cnt b 2) (hb : rTr pp υ0 lo N S P A b 0 (x + i + 1) (x + Q)) (hm : m < 2100) (h10 : υ0.2.2.1 10 m = nI x) (h11 : υ0.2.2.1 11 m = nI Q) (hQ : Q < i + (t + 1)) (hn : tD b ≤ n) : ∃ υ', j_namesOf_488 T (zF h0 qs ks T (n + 5)) h0 qs ks (l_namesOf_422 T (zF h0 qs ks T (n + 5)) h0 qs ks t) (nI m) x2 (nI i) υ = some (none, zI υ' 51 x2) ∧ kR υ' (kT f pp ee b q) ∧ kFm υ0 υ' := by
  have W := F.rows m
  obtain ⟨υ', e, r, g⟩ := Ib υ q m x Q (i + 1) t n x2 (F.rw hw) hr ho hE hM wb (hb.fm F) hm (W.2.1.trans h10) (W.2.2.1.trans h11) (by omega) hn
  refine ⟨υ', ?_, r, F.tr g⟩
  unfold j_namesOf_488
  rw [show nI i + 1 = nI (i + 1) from nI_add i 1 ▸ rfl]
  exact e
set_option maxHeartbeats 1000000 in
theorem nm_A1 (hT : 2110 ≤ T) (hS : S ≤ 2100) (hP : P ≤ 2100) (hA : A ≤ 2100) {g : Nat} {d : Nat × Nat × Nat × tS × tS} {z : Unit} {a b : tT} (Ia : kE ks qs T h0 len cnt lo N S P A kk pp ee f a) (Ib : kA ks qs T h0 len cnt lo N S P A kk pp ee f b) : kA ks qs T h0 len cnt lo N S P A kk pp ee f (.inner g d z a b) := fun υ q m x Q i t n x2 hw hr ho hE hM hf ht hm h10 h11 hQ hn => by
  have ag := rTr_args _ _ _ hf ht
  rcases hf with ⟨c, _⟩ | ⟨-, e2, hb, hf⟩ | ⟨c, _⟩
  · cases c
  · have key : ∀ (hx : x + i < A) (hiQ : x + i + 1 ≤ x + Q), (∀ t, l_namesOf_422 T (zF h0 qs ks T (n + 5)) h0 qs ks (t + 1) (nI m) x2 (nI i) υ = (if υ.2.2.1 19 (x + i) = 0 then zcv (zF h0 qs ks T (n + 5) 36 [.ref h0, .int (υ.2.2.1 20 (x + i))] υ) fun s => j_namesOf_488 T (zF h0 qs ks T (n + 5)) h0 qs ks (l_namesOf_422 T (zF h0 qs ks T (n + 5)) h0 qs ks t) (nI m) x2 (nI i) s else if υ.2.2.1 19 (x + i) = 1 then zcv (zF h0 qs ks T (n + 5) 39 [.ref h0, .int (υ.2.2.1 20 (x + i))] υ) fun s => j_namesOf_488 T (zF h0 qs ks T (n + 5)) h0 qs ks (l_namesOf_422 T (zF h0 qs ks T (n + 5)) h0 qs ks t) (nI m) x2 (nI i) s else j_namesOf_488 T (zF h0 qs ks T (n + 5)) h0 qs ks (l_namesOf_422 T (zF h0 qs ks T (n + 5)) h0 qs ks t) (nI m) x2 (nI i) υ)) := fun hx hiQ t => by
      have := ag.2 (by omega)
      rw [l_namesOf_422]
      simp only [zgd, zin_n hm (by decide), if_true, nI_clamp (show m < 2 ^ 31 by omega), h10, h11, nI_add, zin_n (show x + i < 2100 by omega) (by decide), nI_clamp (show x + i < 2 ^ 31 by omega)]
      rw [if_neg (nI_ge (show i < Q by omega) (by omega))]
    rcases hf with ⟨rfl, p1, rfl⟩ | ⟨rfl, e1, ha⟩ | ⟨rfl, e1, rfl, h1⟩
    · have hE : q.1.length + 5 * max 0 (tH b) ≤ 400 := hE
      have hM : q.2.1.length + ([] ++ tW b).length ≤ 700 := hM
      have hn : max 0 (tD b) + 1 ≤ n := hn
      rw [List.nil_append] at hM
      obtain ⟨⟨t1, t2, t3, s, t4, t5⟩, tb⟩ := ht
      have bg := rTr_args _ _ _ hb tb
      obtain ⟨t, rfl⟩ : ∃ t', t = t' + 1 := ⟨t - 1, by omega⟩
      have h19 : υ.2.2.1 19 (x + i) = 0 := t2
      have h20 : υ.2.2.1 20 (x + i) = nI s := t4
      obtain ⟨s1, e1, r1, F1⟩ : ∃ τ', zF h0 qs ks T (n + 5) 36 [.ref h0, .int (nI s)] υ = some (none, τ') ∧ kR τ' (kPs f pp ee d.2.2.2.1.2 q) ∧ kFm υ τ' := r_nsum (n := n + 2) (by omega) hS hP hw hr ho (by omega) p1 t5
      have c12 := kPs_12 (f := f) (pp := pp) (ee := ee) d.2.2.2.1.2 q
      obtain ⟨υ', u1, u2, u3⟩ := Ib.go (x2 := x2) (n := n) hw F1 r1 (ho.of c12) (by rw [c12.1]; omega) (by rw [c12.2]; exact hM) hb tb hm h10 h11 hQ (by omega)
      refine ⟨υ', ?_, ?_, u3⟩
      · rw [key t1 bg.1, h19, if_pos rfl, h20, e1]
        exact u1
      · have E : kT f pp ee (.inner 33 d z .leaf b) q = kT f pp ee b (kPs f pp ee d.2.2.2.1.2 q) := by
          show kT f pp ee b (kPs f pp ee d.2.2.2.2.2 (kPs f pp ee d.2.2.2.1.2 q)) = _
          rw [e2]; rfl
        rw [E]; exact u2
    · have hE : q.1.length + 5 * max (tH a) (tH b) ≤ 400 := hE
      have hM : q.2.1.length + (tW a ++ tW b).length ≤ 700 := hM
      have hn : max (tD a) (tD b) + 1 ≤ n := hn
      rw [List.length_append] at hM
      obtain ⟨⟨t1, t2, t3, s, t4, t5⟩, tb⟩ := ht
      have bg := rTr_args _ _ _ hb tb
      obtain ⟨t, rfl⟩ : ∃ t', t = t' + 1 := ⟨t - 1, by omega⟩
      have h19 : υ.2.2.1 19 (x + i) = 1 := t2
      have h20 : υ.2.2.1 20 (x + i) = nI s := t4
      obtain ⟨s1, e3, r1, F1⟩ : ∃ τ', zF h0 qs ks T (n + 5) 39 [.ref h0, .int (nI s)] υ = some (none, τ') ∧ kR τ' (kT f pp ee a q) ∧ kFm υ τ' := Ia υ q s hw hr ho (by omega) (by omega) ha t5 n (by omega)
      have c12 := kT_12 (f := f) (pp := pp) (ee := ee) a q
      obtain ⟨υ', u1, u2, u3⟩ := Ib.go (x2 := x2) (n := n) hw F1 r1 (ho.tr c12 (tWf_tW a 0 ha) (by omega)) (by rw [c12.1]; omega) (by rw [c12.2, List.length_append]; omega) hb tb hm h10 h11 hQ (by omega)
      refine ⟨υ', ?_, ?_, u3⟩
      · rw [key t1 bg.1, h19, if_neg (by decide), if_pos rfl, h20, e3]
        exact u1
      · have E : kT f pp ee (.inner 34 d z a b) q = kT f pp ee b (kT f pp ee a q) := by
          show kT f pp ee b (kT f pp ee a (kPs f pp ee d.2.2.2.2.2 (kPs f pp ee d.2.2.2.1.2 q))) = _
          rw [e1, e2]; rfl
        rw [E]; exact u2
    · have hE : q.1.length + 5 * max 0 (tH b) ≤ 400 := hE
      have hM : q.2.1.length + ([] ++ tW b).length ≤ 700 := hM
      have hn : max 0 (tD b) + 1 ≤ n := hn
      rw [List.nil_append] at hM
      obtain ⟨⟨t1, t2, t3⟩, tb⟩ := ht
      have bg := rTr_args _ _ _ hb tb
      obtain ⟨t, rfl⟩ : ∃ t', t = t' + 1 := ⟨t - 1, by omega⟩
      have h19 : υ.2.2.1 19 (x + i) = nI (3 - d.2.1) := t2
      obtain ⟨υ', u1, u2, u3⟩ := Ib.go (x2 := x2) (n := n) hw (kFm.rf υ) hr ho (by omega) hM hb tb hm h10 h11 hQ (by omega)
      refine ⟨υ', ?_, ?_, u3⟩
      · have z01 : ¬ nI (3 - d.2.1) = 0 ∧ ¬ nI (3 - d.2.1) = 1 := by
          rcases (show d.2.1 = 0 ∨ d.2.1 = 1 by omega) with e | e <;> rw [e] <;> decide
        rw [key t1 bg.1, h19, if_neg z01.1, if_neg z01.2]
        exact u1
      · have E : kT f pp ee (.inner 35 d z .leaf b) q = kT f pp ee b q := by
          show kT f pp ee b (kPs f pp ee d.2.2.2.2.2 (kPs f pp ee d.2.2.2.1.2 q)) = _
          rw [e1, e2]; rfl
        rw [E]; exact u2
  · cases c
theorem nm_31 {g : Nat} {d : Nat × Nat × Nat × tS × tS} {z : Unit} {a b : tT} (Ia : kE ks qs T h0 len cnt lo N S P A kk pp ee f a) (Ib : kE ks qs T h0 len cnt lo N S P A kk pp ee f b) : kP ks qs T h0 len cnt lo N S P A kk pp ee f (.inner g d z a b) := fun τ q y u hw hr ho hE hM hf ht n hn => by
  rcases hf with ⟨-, rfl, ⟨e1, e2⟩, ha, hb⟩ | ⟨c, _⟩ | ⟨c, _⟩
  · have hE : q.1.length + 5 * max (tH a) (tH b) ≤ 400 := hE
    have hM : q.2.1.length + (tW a ++ tW b).length ≤ 700 := hM
    have hn : max (tD a) (tD b) + 1 ≤ n := hn
    rw [List.length_append] at hM
    obtain ⟨ta, tb⟩ := ht
    obtain ⟨s1, u1, r1, F1⟩ := Ia τ q y hw hr ho (by omega) (by omega) ha ta n (by omega)
    have c12 := kT_12 (f := f) (pp := pp) (ee := ee) a q
    obtain ⟨s2, u2, r2, F2⟩ := Ib s1 _ u (F1.rw hw) r1 (ho.tr c12 (tWf_tW a 0 ha) (by omega)) (by rw [c12.1]; omega) (by rw [c12.2, List.length_append]; omega) hb (tb.fm F1) n (by omega)
    refine ⟨s1, s2, u1, u2, ?_, F1, F1.tr F2⟩
    have E : kT f pp ee (.inner 31 d z a b) q = kT f pp ee b (kT f pp ee a q) := by
      show kT f pp ee b (kT f pp ee a (kPs f pp ee d.2.2.2.2.2 (kPs f pp ee d.2.2.2.1.2 q))) = _
      rw [e1, e2]; rfl
    rw [E]; exact r2
  · cases c
  · cases c
/-- **namesOf over an E** -/
theorem r_names (hT : 2110 ≤ T) (hN : N ≤ 2100) (hS : S ≤ 2100) (hP : P ≤ 2100) (hA : A ≤ 2100) (t : tT) : kE ks qs T h0 len cnt lo N S P A kk pp ee f t ∧ kP ks qs T h0 len cnt lo N S P A kk pp ee f t ∧ kA ks qs T h0 len cnt lo N S P A kk pp ee f t := by
  induction t with
  | leaf => exact ⟨fun τ q m _ _ _ _ _ h _ => (by cases h), fun τ q y z _ _ _ _ _ h _ => (by cases h), nm_A0⟩
  | inner g d z a b Ia Ib =>
    refine ⟨fun τ q m hw hr ho hE hM h ht => ?_, nm_31 Ia.1 Ib.1, nm_A1 hT hS hP hA Ia.1 Ib.2.2⟩
    rcases h with ⟨c, _⟩ | ⟨c, _⟩ | ⟨-, h⟩
    · cases c
    · cases c
    · rcases h with ⟨rfl, h1, ha, hb⟩ | ⟨rfl, ⟨h1, h2, h3, h4⟩, ha, hb⟩ | ⟨rfl, h1, ha⟩ | ⟨rfl, h1, hb⟩ | ⟨rfl, h1, hb⟩ | ⟨rfl, h1, ⟨h2, h3⟩, ha⟩ | ⟨hg, h1, h2, h3, h4⟩ | ⟨hg, ⟨h1, h2⟩, h3, h4⟩ | ⟨hg, ⟨h1, h2⟩, h3, h4⟩ | ⟨rfl, h1, h2⟩ | ⟨rfl, h1, ha⟩ | ⟨rfl, ⟨h1, h2⟩, ha, h3⟩ | ⟨rfl, h1, h2⟩ | ⟨rfl, ⟨h1, h2⟩, ha, hb⟩
      · exact nm_1 hT hN hS hP Ia.1 Ib.1 hw hr ho hE hM h1 ha hb ht
      · exact nm_2 hT hN Ia.1 Ib.1 hw hr ho hE hM h1 h2 h3 h4 ha hb ht
      · exact nm_3 hT hN hS hP Ia.1 hw hr ho hE hM h1 ha ht
      · exact nm_4 hT hN hS hP Ib.2.1 hw hr ho hE hM h1 hb ht
      · exact nm_5 hT hN hS hP Ib.1 hw hr ho hE hM h1 hb ht
      · exact nm_6 hT hN hS hP Ia.1 hw hr ho hE hM h1 h2 h3 ha ht
      · rcases hg with rfl | rfl
        · exact nm_7 hT hN hS hP hw hr ho hE hM h1 h2 h3 h4 ht
        · exact nm_10 hT hN hS hP hw hr ho hE hM h1 h2 h3 h4 ht
      · rcases hg with rfl | rfl | rfl
        · exact nm_8 hT hN hS hP hw hr ho hE hM h1 h2 h3 h4 ht
        · exact nm_9 hT hN hS hP hw hr ho hE hM h1 h2 h3 h4 ht
        · exact nm_17 hT hN hS hP hw hr ho hE hM h1 h2 h3 h4 ht
      · rcases hg with rfl | rfl | rfl
        · exact nm_11 hT hN hS hP hw hr ho hE hM h1 h2 h3 h4 ht
        · exact nm_12 hT hN hS hP hw hr ho hE hM h1 h2 h3 h4 ht
        · exact nm_13 hT hN hS hP hw hr ho hE hM h1 h2 h3 h4 ht
      · exact nm_14 hT hN hS hP hw hr ho hE hM h1 h2 ht
      · exact nm_15 hT hN hA Ia.2.2 hw hr ho hE hM h1 ha ht
      · exact nm_16 hT hN hS hP Ia.1 hw hr ho hE hM h1 h2 ha h3 ht
      · exact nm_18 hT hN hS hP hw hr ho hE hM h1 h2 ht
      · exact nm_19 hT hN hS hP Ia.1 Ib.1 hw hr ho hE hM h1 h2 ha hb ht
end KNP
