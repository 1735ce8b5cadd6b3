/-! the reference: namesOf -/
section KNO
variable {ks : Nat → Nat} {qs : List Nat} {T h0 len cnt lo N S P A : Nat} {kk pp ee f : Nat → Int32}
/-- a call of 39 at node m gives q' -/
def k39 (ks : Nat → Nat) (qs : List Nat) (T h0 : Nat) (τ : zSt) (m D : Nat) (q' : kSt) : Prop := ∀ n, D ≤ n → ∃ τ', zF h0 qs ks T (n + 5) 39 [.ref h0, .int (nI m)] τ = some (none, τ') ∧ kR τ' q' ∧ kFm τ τ'
/-- the contract of 39 for an E -/
def kE (ks : Nat → Nat) (qs : List Nat) (T h0 len cnt lo N S P A : Nat) (kk pp ee f : Nat → Int32) (a : tT) : Prop := ∀ (τ : zSt) (q : kSt) (m : Nat), rW τ T len cnt kk pp ee f → kR τ q → kOk cnt q → q.1.length + 5 * tH a ≤ 400 → q.2.1.length + (tW a).length ≤ 700 → tWf kk cnt a 0 → rTr pp τ lo N S P A a 0 0 m → k39 ks qs T h0 τ m (tD a) (kT f pp ee a q)
theorem kOk.tell {q : kSt} {w : Nat} (h : kOk cnt q) (hw : w < cnt) (hl : q.2.1.length < 700) : kOk cnt (kTell w q) := by
  refine ⟨fun u hu => ?_, fun d hd => ?_, ?_⟩
  · rcases List.mem_append.mp hu with h1 | h1
    · exact h.1 u h1
    · rw [List.mem_singleton.mp h1]; exact hw
  · show d < (q.2.1 ++ [w]).length
    have := h.2.1 d hd
    rw [List.length_append]; omega
  · show (q.2.1 ++ [w]).length ≤ 700
    rw [List.length_append]; show q.2.1.length + 1 ≤ 700; omega
theorem kOk.app {q q' : kSt} {d : Nat} (h : kOk cnt q) (hd : d < q.2.1.length) (e : q'.1 = q.1 ++ [d] ∧ q'.2.1 = q.2.1) : kOk cnt q' := by
  refine ⟨fun u hu => ?_, fun u hu => ?_, ?_⟩
  · rw [e.2] at hu; exact h.1 u hu
  · rw [e.1] at hu
    rw [e.2]
    rcases List.mem_append.mp hu with h1 | h1
    · exact h.2.1 u h1
    · rw [List.mem_singleton.mp h1]; exact hd
  · rw [e.2]; exact h.2.2
theorem kOk.tr {q q' : kSt} {l : List Nat} (h : kOk cnt q) (e : q'.1 = q.1 ∧ q'.2.1 = q.2.1 ++ l) (hl : ∀ w ∈ l, w < cnt) (hn : q.2.1.length + l.length ≤ 700) : kOk cnt q' := by
  refine ⟨fun u hu => ?_, fun u hu => ?_, ?_⟩
  · rw [e.2] at hu
    rcases List.mem_append.mp hu with h1 | h1
    · exact h.1 u h1
    · exact hl u h1
  · rw [e.1] at hu
    have := h.2.1 u hu
    rw [e.2, List.length_append]; omega
  · rw [e.2, List.length_append]; exact hn
theorem kOk.bk {q : kSt} {l r : List Nat} (h : kOk cnt q) (e : q.1 = l ++ r) : kOk cnt (kBk l q) := ⟨h.1, fun d hd => h.2.1 d (by rw [e]; exact List.mem_append_left _ hd), h.2.2⟩
theorem kR.bk {τ : zSt} {q : kSt} {l r : List Nat} (h : kR τ q) (e : q.1 = l ++ r) : kR (zI τ 51 (nI l.length)) (kBk l q) ∧ kFm τ (zI τ 51 (nI l.length)) := by
  refine ⟨⟨h.1, ⟨rfl, fun i d hd => ?_⟩, h.2.2.1, h.2.2.2⟩, ⟨fun k _ c _ => zIn τ _ c, rfl, fun _ _ _ _ => rfl, rfl⟩⟩
  have hd : l[i]? = some d := hd
  refine h.2.1.2 i d ?_
  rw [e]
  have hi : i < l.length := by
    by_cases c : i < l.length
    · exact c
    · rw [List.getElem?_eq_none (by omega)] at hd; cases hd
  rw [List.getElem?_append_left hi]
  exact hd
theorem kFm.rows {τ υ : zSt} (g : kFm τ υ) (m : Nat) : υ.2.2.1 9 m = τ.2.2.1 9 m ∧ υ.2.2.1 10 m = τ.2.2.1 10 m ∧ υ.2.2.1 11 m = τ.2.2.1 11 m ∧ υ.2.2.1 12 m = τ.2.2.1 12 m := ⟨congrFun (g.2.2.1 9 (by decide) (by decide) (by decide)) m, congrFun (g.2.2.1 10 (by decide) (by decide) (by decide)) m, congrFun (g.2.2.1 11 (by decide) (by decide) (by decide)) m, congrFun (g.2.2.1 12 (by decide) (by decide) (by decide)) m⟩
theorem rSm.fm {τ υ : zSt} {s : Nat} {t : tS} (h : rSm pp τ S P s t) (g : kFm τ υ) : rSm pp υ S P s t := (g.at 0 0 S P 0).sm h (Nat.le_refl _) (Nat.le_refl _)
/-- the parameters of a let rec are told and counted -/
theorem r_parN {m v k : Nat} {x2 : Int32} {τ : zSt} {n : Nat} (hT : 2110 ≤ T) (hw : rW τ T len cnt kk pp ee f) (hm : m < 2100) (h10 : τ.2.2.1 10 m = nI v) (hk : k ≤ 4) (hc : v + k ≤ cnt) : ∀ (j i t : Nat) (υ : zSt) (q : kSt), i + j = k → j < t → kFm τ υ → kR υ q → kOk cnt q → q.1.length + j ≤ 400 → q.2.1.length + j ≤ 700 → ∃ υ', l_namesOf_165 T (zF h0 qs ks T (n + 5)) h0 qs ks t (nI m) x2 (nI k) (nI i) υ = l_namesOf_165 T (zF h0 qs ks T (n + 5)) h0 qs ks (t - j) (nI m) x2 (nI k) (nI k) υ' ∧ kR υ' (kPar f pp ee j (v + i) q) ∧ kFm τ υ' ∧ kOk cnt (kPar f pp ee j (v + i) q)
  | 0, i, t, υ, q, hi, ht, g, hr, ho, _, _ => by
    have : i = k := hi
    subst this
    exact ⟨υ, rfl, hr, g, ho⟩
  | j + 1, i, t, υ, q, hi, ht, g, hr, ho, hE, hM => by
    obtain ⟨t, rfl⟩ : ∃ t', t = t' + 1 := ⟨t - 1, by omega⟩
    have hcn := hw.cn
    obtain ⟨s1, e1, r1, f1⟩ : ∃ τ', zF h0 qs ks T (n + 5) 33 [.ref h0, .int (nI (v + i))] υ = some (some (.int (nI q.2.1.length)), τ') ∧ kR τ' (kTell (v + i) q) ∧ kFm υ τ' := r_tell (n := n + 4) (g.rw hw) hr (by omega) (by omega)
    have o1 := ho.tell (show v + i < cnt by omega) (by omega)
    have l1 : q.2.1.length < (kTell (v + i) q).2.1.length := by show _ < (q.2.1 ++ [v + i]).length; rw [List.length_append]; simp
    obtain ⟨s2, e2, r2, f2⟩ : ∃ τ', zF h0 qs ks T (n + 5) 34 [.ref h0, .int (nI q.2.1.length)] s1 = some (none, τ') ∧ kR τ' (kTc f pp ee (v + i) q) ∧ kFm s1 τ' := r_counts (n := n + 3) (by omega) ((g.tr f1).rw hw) r1 o1 l1 (by show q.1.length < 400; omega)
    have c12 := kTc_12 (f := f) (pp := pp) (ee := ee) (v + i) q
    have o2 : kOk cnt (kTc f pp ee (v + i) q) := o1.app l1 (kCnt_12 _ _)
    obtain ⟨υ', u1, u2, u3, u4⟩ := r_parN hT hw hm h10 hk hc j (i + 1) t s2 (kTc f pp ee (v + i) q) (by omega) (by omega) ((g.tr f1).tr f2) r2 o2 (by rw [c12.1, List.length_append]; show q.1.length + 1 + j ≤ 400; omega) (by rw [c12.2, List.length_append]; show q.2.1.length + 1 + j ≤ 700; omega)
    refine ⟨υ', ?_, u2, u3, u4⟩
    rw [show t + 1 - (j + 1) = t - j by omega, ← u1, l_namesOf_165, if_neg (nI_ge (show i < k by omega) (by omega))]
    have r10 : υ.2.2.1 10 m = nI v := (g.rows m).2.1.trans h10
    simp only [zgd, zin_n hm (by decide), if_true, nI_clamp (show m < 2 ^ 31 by omega), r10, nI_add, e1, zci, e2, zcv]
    rw [show nI i + 1 = nI (i + 1) from nI_add i 1 ▸ rfl]
/-- ARGS of a call end no lower than they begin -/
theorem rTr_args {τ : zSt} : ∀ (a : tT) (m0 m : Nat), tWf kk cnt a 2 → rTr pp τ lo N S P A a 0 m0 m → m0 ≤ m ∧ (m0 ≤ A → m ≤ A)
  | .leaf, m0, m, _, h => by
    have : m = m0 := h
    omega
  | .inner g d z a b, m0, m, hf, h => by
    rcases hf with ⟨c, _⟩ | ⟨-, -, hb, hf⟩ | ⟨c, _⟩
    · cases c
    · rcases hf with ⟨rfl, -, -⟩ | ⟨rfl, -, -⟩ | ⟨rfl, -, -, -⟩
      · obtain ⟨⟨h1, -⟩, h2⟩ := h
        have := rTr_args b (m0 + 1) m hb h2
        omega
      · obtain ⟨⟨h1, -⟩, h2⟩ := h
        have := rTr_args b (m0 + 1) m hb h2
        omega
      · obtain ⟨⟨h1, -⟩, h2⟩ := h
        have := rTr_args b (m0 + 1) m hb h2
        omega
    · cases c
theorem nm_1 (hT : 2110 ≤ T) (hN : N ≤ 2100) (hS : S ≤ 2100) (hP : P ≤ 2100) {τ : zSt} {q : kSt} {m : Nat} {d : Nat × Nat × Nat × tS × tS} {z : Unit} {a b : tT} (Ia : kE ks qs T h0 len cnt lo N S P A kk pp ee f a) (Ib : kE ks qs T h0 len cnt lo N S P A kk pp ee f b) (hw : rW τ T len cnt kk pp ee f) (hr : kR τ q) (ho : kOk cnt q) (hE : q.1.length + 5 * tH (.inner 1 d z a b) ≤ 400) (hM : q.2.1.length + (tW (.inner 1 d z a b)).length ≤ 700) (w1 : d.1 + 1 < cnt) (wa : tWf kk cnt a 0) (wb : tWf kk cnt b 0) (ht : rTr pp τ lo N S P A (.inner 1 d z a b) 0 0 m) : k39 ks qs T h0 τ m (tD (.inner 1 d z a b)) (kT f pp ee (.inner 1 d z a b) q) := by
  have hE : q.1.length + 5 * (max (tH a) (tH b) + 1) ≤ 400 := hE
  have hM : q.2.1.length + ((d.1 + 1) :: (tW a ++ tW b) : List Nat).length ≤ 700 := hM
  try simp only [List.length_cons, List.length_append, List.length_range', List.length_nil] at hM
  obtain ⟨t0, t3, x, y, ⟨t5, t6⟩, ta, tb⟩ := ht
  intro n hn
  have hn : max (tD a) (tD b) + 1 ≤ n := hn
  obtain ⟨n, rfl⟩ : ∃ n', n = n' + 1 := ⟨n - 1, by omega⟩
  have hcn := hw.cn
  have hm : m < 2100 := by have := t0.1.2; omega
  have h6 : τ.2.2.1 6 m = nI 1 := t0.2.1
  have h9 : τ.2.2.1 9 m = nI (d.1 + 1) := t3
  have h11 : τ.2.2.1 11 m = nI x := t5
  have h12 : τ.2.2.1 12 m = nI y := t6
  have A0 : q.1 = q.1 := rfl
  have L0 : q.1.length = q.1.length := rfl
  have M0 : q.2.1.length = q.2.1.length := rfl
  have F0 : kFm τ τ := kFm.rf τ
  have hq0 : q = q := rfl
  obtain ⟨s1, e1, r1, g1⟩ : ∃ τ', zF h0 qs ks T (n + 5) 33 [.ref h0, .int (nI (d.1 + 1))] τ = some (some (.int (nI q.2.1.length)), τ') ∧ kR τ' (kTell (d.1 + 1) q) ∧ kFm τ τ' := r_tell (n := n + 4) (F0.rw hw) hr (by omega) (by omega)
  obtain ⟨q1, hq1⟩ : ∃ x, x = kTell (d.1 + 1) q := ⟨_, rfl⟩
  have O1 : kOk cnt q1 := by rw [hq1]; exact ho.tell (by omega) (by omega)
  have A1 : q1.1 = q.1 := by rw [hq1]; exact A0
  have M1 : q1.2.1.length = q.2.1.length + 1 := by rw [hq1]; show (q.2.1 ++ [d.1 + 1]).length = _; rw [List.length_append, M0]; rfl
  rw [← hq1] at r1
  have L1 : q1.1.length = q.1.length + 0 := by rw [A1]; simp
  have F1 : kFm τ s1 := F0.tr g1
  have W1 := F1.rows m
  obtain ⟨s2, e2, r2, g2⟩ : ∃ τ', zF h0 qs ks T (n + 5) 39 [.ref h0, .int (nI x)] s1 = some (none, τ') ∧ kR τ' (kT f pp ee a q1) ∧ kFm s1 τ' := Ia s1 q1 x (F1.rw hw) r1 O1 (by omega) (by omega) wa (ta.fm F1) n (by omega)
  obtain ⟨q2, hq2⟩ : ∃ x, x = kT f pp ee a q1 := ⟨_, rfl⟩
  have O2 : kOk cnt q2 := by rw [hq2]; exact O1.tr (kT_12 a q1) (tWf_tW a 0 wa) (by omega)
  have A2 : q2.1 = q.1 := by rw [hq2]; exact (kT_12 _ _).1.trans A1
  have M2 : q2.2.1.length = q.2.1.length + 1 + (tW a).length := by rw [hq2, (kT_12 _ _).2, List.length_append, M1]
  rw [← hq2] at r2
  have L2 : q2.1.length = q.1.length + 0 := by rw [A2]; simp
  have F2 : kFm τ s2 := F1.tr g2
  have W2 := F2.rows m
  obtain ⟨s3, e3, r3, g3⟩ : ∃ τ', zF h0 qs ks T (n + 5) 34 [.ref h0, .int (nI (q.2.1.length))] s2 = some (none, τ') ∧ kR τ' (kCnt f pp ee (q.2.1.length) q2) ∧ kFm s2 τ' := r_counts (n := n + 3) (by omega) (F2.rw hw) r2 O2 (by omega) (by omega)
  obtain ⟨q3, hq3⟩ : ∃ x, x = kCnt f pp ee (q.2.1.length) q2 := ⟨_, rfl⟩
  have O3 : kOk cnt q3 := by rw [hq3]; exact O2.app (by omega) (kCnt_12 _ _)
  have A3 : q3.1 = q.1 ++ [q.2.1.length] := by rw [hq3, (kCnt_12 _ _).1, A2]
  have M3 : q3.2.1.length = q.2.1.length + 1 + (tW a).length := by rw [hq3, (kCnt_12 _ _).2]; exact M2
  rw [← hq3] at r3
  have L3 : q3.1.length = q.1.length + 1 := by rw [A3]; simp [Nat.add_assoc]
  have F3 : kFm τ s3 := F2.tr g3
  have W3 := F3.rows m
  obtain ⟨s4, e4, r4, g4⟩ : ∃ τ', zF h0 qs ks T (n + 5) 39 [.ref h0, .int (nI y)] s3 = some (none, τ') ∧ kR τ' (kT f pp ee b q3) ∧ kFm s3 τ' := Ib s3 q3 y (F3.rw hw) r3 O3 (by omega) (by omega) wb (tb.fm F3) n (by omega)
  obtain ⟨q4, hq4⟩ : ∃ x, x = kT f pp ee b q3 := ⟨_, rfl⟩
  have O4 : kOk cnt q4 := by rw [hq4]; exact O3.tr (kT_12 b q3) (tWf_tW b 0 wb) (by omega)
  have A4 : q4.1 = q.1 ++ [q.2.1.length] := by rw [hq4]; exact (kT_12 _ _).1.trans A3
  have M4 : q4.2.1.length = q.2.1.length + 1 + (tW a).length + (tW b).length := by rw [hq4, (kT_12 _ _).2, List.length_append, M3]
  rw [← hq4] at r4
  have L4 : q4.1.length = q.1.length + 1 := by rw [A4]; simp [Nat.add_assoc]
  have F4 : kFm τ s4 := F3.tr g4
  have W4 := F4.rows m
  have K := r4.bk (l := q.1) (r := [q.2.1.length]) A4
  refine ⟨zI s4 51 (nI q.1.length), ?_, ?_, F4.tr K.2⟩
  · rw [zE_namesOf]
    unfold b_namesOf
    simp only [zgd, zin_n hm (by decide), if_true, nI_clamp (show m < 2 ^ 31 by omega), h6]
    rw [if_pos (by decide)]
    simp only [h9, h11, h12, W1.1, W1.2.1, W1.2.2.1, W1.2.2.2, W2.1, W2.2.1, W2.2.2.1, W2.2.2.2, W3.1, W3.2.1, W3.2.2.1, W3.2.2.2, W4.1, W4.2.1, W4.2.2.1, W4.2.2.2, e1, zci, e2, zcv, e3, e4, j_namesOf_596, zlet, hr.2.1.1]
  · have E : kT f pp ee (.inner 1 d z a b) q = kBk q.1 q4 := by
      rw [hq4, hq3, hq2, hq1]; rfl
    rw [E]; exact K.1
theorem nm_3 (hT : 2110 ≤ T) (hN : N ≤ 2100) (hS : S ≤ 2100) (hP : P ≤ 2100) {τ : zSt} {q : kSt} {m : Nat} {d : Nat × Nat × Nat × tS × tS} {z : Unit} {a b : tT} (Ia : kE ks qs T h0 len cnt lo N S P A kk pp ee f a) (hw : rW τ T len cnt kk pp ee f) (hr : kR τ q) (ho : kOk cnt q) (hE : q.1.length + 5 * tH (.inner 3 d z a b) ≤ 400) (hM : q.2.1.length + (tW (.inner 3 d z a b)).length ≤ 700) (w1 : d.1 + 1 < cnt) (wa : tWf kk cnt a 0) (ht : rTr pp τ lo N S P A (.inner 3 d z a b) 0 0 m) : k39 ks qs T h0 τ m (tD (.inner 3 d z a b)) (kT f pp ee (.inner 3 d z a b) q) := by
  have hE : q.1.length + 5 * (max (tH a) (tH b) + 1) ≤ 400 := hE
  have hM : q.2.1.length + ((d.1 + 1) :: tW a : List Nat).length ≤ 700 := hM
  try simp only [List.length_cons, List.length_append, List.length_range', List.length_nil] at hM
  obtain ⟨t0, t3, x, t5, ta⟩ := ht
  intro n hn
  have hn : max (tD a) (tD b) + 1 ≤ n := hn
  obtain ⟨n, rfl⟩ : ∃ n', n = n' + 1 := ⟨n - 1, by omega⟩
  have hcn := hw.cn
  have hm : m < 2100 := by have := t0.1.2; omega
  have h6 : τ.2.2.1 6 m = nI 3 := t0.2.1
  have h9 : τ.2.2.1 9 m = nI (d.1 + 1) := t3
  have h11 : τ.2.2.1 11 m = nI x := t5
  have A0 : q.1 = q.1 := rfl
  have L0 : q.1.length = q.1.length := rfl
  have M0 : q.2.1.length = q.2.1.length := rfl
  have F0 : kFm τ τ := kFm.rf τ
  have hq0 : q = q := rfl
  obtain ⟨s1, e1, r1, g1⟩ : ∃ τ', zF h0 qs ks T (n + 5) 33 [.ref h0, .int (nI (d.1 + 1))] τ = some (some (.int (nI q.2.1.length)), τ') ∧ kR τ' (kTell (d.1 + 1) q) ∧ kFm τ τ' := r_tell (n := n + 4) (F0.rw hw) hr (by omega) (by omega)
  obtain ⟨q1, hq1⟩ : ∃ x, x = kTell (d.1 + 1) q := ⟨_, rfl⟩
  have O1 : kOk cnt q1 := by rw [hq1]; exact ho.tell (by omega) (by omega)
  have A1 : q1.1 = q.1 := by rw [hq1]; exact A0
  have M1 : q1.2.1.length = q.2.1.length + 1 := by rw [hq1]; show (q.2.1 ++ [d.1 + 1]).length = _; rw [List.length_append, M0]; rfl
  rw [← hq1] at r1
  have L1 : q1.1.length = q.1.length + 0 := by rw [A1]; simp
  have F1 : kFm τ s1 := F0.tr g1
  have W1 := F1.rows m
  obtain ⟨s2, e2, r2, g2⟩ : ∃ τ', zF h0 qs ks T (n + 5) 34 [.ref h0, .int (nI (q.2.1.length))] s1 = some (none, τ') ∧ kR τ' (kCnt f pp ee (q.2.1.length) q1) ∧ kFm s1 τ' := r_counts (n := n + 3) (by omega) (F1.rw hw) r1 O1 (by omega) (by omega)
  obtain ⟨q2, hq2⟩ : ∃ x, x = kCnt f pp ee (q.2.1.length) q1 := ⟨_, rfl⟩
  have O2 : kOk cnt q2 := by rw [hq2]; exact O1.app (by omega) (kCnt_12 _ _)
  have A2 : q2.1 = q.1 ++ [q.2.1.length] := by rw [hq2, (kCnt_12 _ _).1, A1]
  have M2 : q2.2.1.length = q.2.1.length + 1 := by rw [hq2, (kCnt_12 _ _).2]; exact M1
  rw [← hq2] at r2
  have L2 : q2.1.length = q.1.length + 1 := by rw [A2]; simp [Nat.add_assoc]
  have F2 : kFm τ s2 := F1.tr g2
  have W2 := F2.rows m
  obtain ⟨s3, e3, r3, g3⟩ : ∃ τ', zF h0 qs ks T (n + 5) 39 [.ref h0, .int (nI x)] s2 = some (none, τ') ∧ kR τ' (kT f pp ee a q2) ∧ kFm s2 τ' := Ia s2 q2 x (F2.rw hw) r2 O2 (by omega) (by omega) wa (ta.fm F2) n (by omega)
  obtain ⟨q3, hq3⟩ : ∃ x, x = kT f pp ee a q2 := ⟨_, rfl⟩
  have O3 : kOk cnt q3 := by rw [hq3]; exact O2.tr (kT_12 a q2) (tWf_tW a 0 wa) (by omega)
  have A3 : q3.1 = q.1 ++ [q.2.1.length] := by rw [hq3]; exact (kT_12 _ _).1.trans A2
  have M3 : q3.2.1.length = q.2.1.length + 1 + (tW a).length := by rw [hq3, (kT_12 _ _).2, List.length_append, M2]
  rw [← hq3] at r3
  have L3 : q3.1.length = q.1.length + 1 := by rw [A3]; simp [Nat.add_assoc]
  have F3 : kFm τ s3 := F2.tr g3
  have W3 := F3.rows m
  have K := r3.bk (l := q.1) (r := [q.2.1.length]) A3
  refine ⟨zI s3 51 (nI q.1.length), ?_, ?_, F3.tr K.2⟩
  · rw [zE_namesOf]
    unfold b_namesOf
    simp only [zgd, zin_n hm (by decide), if_true, nI_clamp (show m < 2 ^ 31 by omega), h6]
    rw [if_neg (by decide), if_neg (by decide), if_pos (by decide)]
    simp only [h9, h11, W1.1, W1.2.1, W1.2.2.1, W1.2.2.2, W2.1, W2.2.1, W2.2.2.1, W2.2.2.2, W3.1, W3.2.1, W3.2.2.1, W3.2.2.2, e1, zci, e2, zcv, e3, j_namesOf_596, zlet, hr.2.1.1]
  · have E : kT f pp ee (.inner 3 d z a b) q = kBk q.1 q3 := by
      rw [hq3, hq2, hq1]; rfl
    rw [E]; exact K.1
theorem nm_5 (hT : 2110 ≤ T) (hN : N ≤ 2100) (hS : S ≤ 2100) (hP : P ≤ 2100) {τ : zSt} {q : kSt} {m : Nat} {d : Nat × Nat × Nat × tS × tS} {z : Unit} {a b : tT} (Ib : kE ks qs T h0 len cnt lo N S P A kk pp ee f b) (hw : rW τ T len cnt kk pp ee f) (hr : kR τ q) (ho : kOk cnt q) (hE : q.1.length + 5 * tH (.inner 5 d z a b) ≤ 400) (hM : q.2.1.length + (tW (.inner 5 d z a b)).length ≤ 700) (wc : cWf cnt a false) (wb : tWf kk cnt b 0) (ht : rTr pp τ lo N S P A (.inner 5 d z a b) 0 0 m) : k39 ks qs T h0 τ m (tD (.inner 5 d z a b)) (kT f pp ee (.inner 5 d z a b) q) := by
  have hE : q.1.length + 5 * (tH b + 1) ≤ 400 := hE
  have hM : q.2.1.length + (tW b : List Nat).length ≤ 700 := hM
  try simp only [List.length_cons, List.length_append, List.length_range', List.length_nil] at hM
  obtain ⟨t0, _, x, y, ⟨t3, t5⟩, ta, tb⟩ := ht
  intro n hn
  have hn : max (kD a) (tD b) + 1 ≤ n := hn
  obtain ⟨n, rfl⟩ : ∃ n', n = n' + 1 := ⟨n - 1, by omega⟩
  have hcn := hw.cn
  have hm : m < 2100 := by have := t0.1.2; omega
  have h6 : τ.2.2.1 6 m = nI 5 := t0.2.1
  have h9 : τ.2.2.1 9 m = nI x := t3
  have h11 : τ.2.2.1 11 m = nI y := t5
  have A0 : q.1 = q.1 := rfl
  have L0 : q.1.length = q.1.length := rfl
  have M0 : q.2.1.length = q.2.1.length := rfl
  have F0 : kFm τ τ := kFm.rf τ
  have hq0 : q = q := rfl
  obtain ⟨s1, e1, r1, g1⟩ : ∃ τ', zF h0 qs ks T (n + 5) 37 [.ref h0, .int (nI x)] τ = some (none, τ') ∧ kR τ' (kCt f pp ee a q) ∧ kFm τ τ' := (r_ncond hT hN hS hP a).1 τ q x (F0.rw hw) hr ho (by omega) wc (ta.fm F0) (n + 1) (by omega)
  obtain ⟨q1, hq1⟩ : ∃ x, x = kCt f pp ee a q := ⟨_, rfl⟩
  have O1 : kOk cnt q1 := by rw [hq1]; exact ho.of (kCt_12 _ _)
  have A1 : q1.1 = q.1 := by rw [hq1]; exact (kCt_12 _ _).1.trans A0
  have M1 : q1.2.1.length = q.2.1.length := by rw [hq1]; exact (congrArg List.length (kCt_12 _ _).2).trans M0
  rw [← hq1] at r1
  have L1 : q1.1.length = q.1.length + 0 := by rw [A1]; simp
  have F1 : kFm τ s1 := F0.tr g1
  have W1 := F1.rows m
  obtain ⟨s2, e2, r2, g2⟩ : ∃ τ', zF h0 qs ks T (n + 5) 39 [.ref h0, .int (nI y)] s1 = some (none, τ') ∧ kR τ' (kT f pp ee b q1) ∧ kFm s1 τ' := Ib s1 q1 y (F1.rw hw) r1 O1 (by omega) (by omega) wb (tb.fm F1) n (by omega)
  obtain ⟨q2, hq2⟩ : ∃ x, x = kT f pp ee b q1 := ⟨_, rfl⟩
  have O2 : kOk cnt q2 := by rw [hq2]; exact O1.tr (kT_12 b q1) (tWf_tW b 0 wb) (by omega)
  have A2 : q2.1 = q.1 := by rw [hq2]; exact (kT_12 _ _).1.trans A1
  have M2 : q2.2.1.length = q.2.1.length + (tW b).length := by rw [hq2, (kT_12 _ _).2, List.length_append, M1]
  rw [← hq2] at r2
  have L2 : q2.1.length = q.1.length + 0 := by rw [A2]; simp
  have F2 : kFm τ s2 := F1.tr g2
  have W2 := F2.rows m
  have K := r2.bk (l := q.1) (r := []) (A2.trans (List.append_nil _).symm)
  refine ⟨zI s2 51 (nI q.1.length), ?_, ?_, F2.tr K.2⟩
  · rw [zE_namesOf]
    unfold b_namesOf
    simp only [zgd, zin_n hm (by decide), if_true, nI_clamp (show m < 2 ^ 31 by omega), h6]
    rw [if_neg (by decide), if_neg (by decide), if_neg (by decide), if_neg (by decide), if_pos (by decide)]
    simp only [h9, h11, W1.1, W1.2.1, W1.2.2.1, W1.2.2.2, W2.1, W2.2.1, W2.2.2.1, W2.2.2.2, e1, zcv, e2, j_namesOf_596, zlet, hr.2.1.1]
  · have E : kT f pp ee (.inner 5 d z a b) q = kBk q.1 q2 := by
      have Z : kBk q.1 q2 = q2 := by rw [← A2]; rfl
      rw [Z, hq2, hq1]; rfl
    rw [E]; exact K.1
theorem nm_6 (hT : 2110 ≤ T) (hN : N ≤ 2100) (hS : S ≤ 2100) (hP : P ≤ 2100) {τ : zSt} {q : kSt} {m : Nat} {d : Nat × Nat × Nat × tS × tS} {z : Unit} {a b : tT} (Ia : kE ks qs T h0 len cnt lo N S P A kk pp ee f a) (hw : rW τ T len cnt kk pp ee f) (hr : kR τ q) (ho : kOk cnt q) (hE : q.1.length + 5 * tH (.inner 6 d z a b) ≤ 400) (hM : q.2.1.length + (tW (.inner 6 d z a b)).length ≤ 700) (w1 : d.1 + 1 < cnt) (p1 : pOk cnt d.2.2.2.1.2) (p2 : pOk cnt d.2.2.2.2.2) (wa : tWf kk cnt a 0) (ht : rTr pp τ lo N S P A (.inner 6 d z a b) 0 0 m) : k39 ks qs T h0 τ m (tD (.inner 6 d z a b)) (kT f pp ee (.inner 6 d z a b) q) := by
  have hE : q.1.length + 5 * (max (tH a) (tH b) + 1) ≤ 400 := hE
  have hM : q.2.1.length + (tW a : List Nat).length ≤ 700 := hM
  try simp only [List.length_cons, List.length_append, List.length_range', List.length_nil] at hM
  obtain ⟨t0, ⟨_, t3⟩, x, y, u, ⟨t4, t5, t6⟩, c1, c2, ta⟩ := ht
  intro n hn
  have hn : max (tD a) (tD b) + 1 ≤ n := hn
  obtain ⟨n, rfl⟩ : ∃ n', n = n' + 1 := ⟨n - 1, by omega⟩
  have hcn := hw.cn
  have hm : m < 2100 := by have := t0.1.2; omega
  have h6 : τ.2.2.1 6 m = nI 6 := t0.2.1
  have h9 : τ.2.2.1 9 m = nI (d.1 + 1) := t3
  have h10 : τ.2.2.1 10 m = nI x := t4
  have h11 : τ.2.2.1 11 m = nI y := t5
  have h12 : τ.2.2.1 12 m = nI u := t6
  have A0 : q.1 = q.1 := rfl
  have L0 : q.1.length = q.1.length := rfl
  have M0 : q.2.1.length = q.2.1.length := rfl
  have F0 : kFm τ τ := kFm.rf τ
  have hq0 : q = q := rfl
  obtain ⟨s1, e1, r1, g1⟩ : ∃ τ', zF h0 qs ks T (n + 5) 35 [.ref h0, .int (nI (d.1 + 1))] τ = some (none, τ') ∧ kR τ' (kUse f pp ee (d.1 + 1) q) ∧ kFm τ τ' := r_uses (n := n + 3) (by omega) (F0.rw hw) hr ho (by omega) (by omega)
  obtain ⟨q1, hq1⟩ : ∃ x, x = kUse f pp ee (d.1 + 1) q := ⟨_, rfl⟩
  have O1 : kOk cnt q1 := by rw [hq1]; exact ho.of (kUse_12 _ _)
  have A1 : q1.1 = q.1 := by rw [hq1]; exact (kUse_12 _ _).1.trans A0
  have M1 : q1.2.1.length = q.2.1.length := by rw [hq1]; exact (congrArg List.length (kUse_12 _ _).2).trans M0
  rw [← hq1] at r1
  have L1 : q1.1.length = q.1.length + 0 := by rw [A1]; simp
  have F1 : kFm τ s1 := F0.tr g1
  have W1 := F1.rows m
  obtain ⟨s2, e2, r2, g2⟩ : ∃ τ', zF h0 qs ks T (n + 5) 36 [.ref h0, .int (nI x)] s1 = some (none, τ') ∧ kR τ' (kPs f pp ee d.2.2.2.1.2 q1) ∧ kFm s1 τ' := r_nsum (n := n + 2) (by omega) hS hP (F1.rw hw) r1 O1 (by omega) p1 (c1.fm F1)
  obtain ⟨q2, hq2⟩ : ∃ x, x = kPs f pp ee d.2.2.2.1.2 q1 := ⟨_, rfl⟩
  have O2 : kOk cnt q2 := by rw [hq2]; exact O1.of (kPs_12 _ _)
  have A2 : q2.1 = q.1 := by rw [hq2]; exact (kPs_12 _ _).1.trans A1
  have M2 : q2.2.1.length = q.2.1.length := by rw [hq2]; exact (congrArg List.length (kPs_12 _ _).2).trans M1
  rw [← hq2] at r2
  have L2 : q2.1.length = q.1.length + 0 := by rw [A2]; simp
  have F2 : kFm τ s2 := F1.tr g2
  have W2 := F2.rows m
  obtain ⟨s3, e3, r3, g3⟩ : ∃ τ', zF h0 qs ks T (n + 5) 36 [.ref h0, .int (nI y)] s2 = some (none, τ') ∧ kR τ' (kPs f pp ee d.2.2.2.2.2 q2) ∧ kFm s2 τ' := r_nsum (n := n + 2) (by omega) hS hP (F2.rw hw) r2 O2 (by omega) p2 (c2.fm F2)
  obtain ⟨q3, hq3⟩ : ∃ x, x = kPs f pp ee d.2.2.2.2.2 q2 := ⟨_, rfl⟩
  have O3 : kOk cnt q3 := by rw [hq3]; exact O2.of (kPs_12 _ _)
  have A3 : q3.1 = q.1 := by rw [hq3]; exact (kPs_12 _ _).1.trans A2
  have M3 : q3.2.1.length = q.2.1.length := by rw [hq3]; exact (congrArg List.length (kPs_12 _ _).2).trans M2
  rw [← hq3] at r3
  have L3 : q3.1.length = q.1.length + 0 := by rw [A3]; simp
  have F3 : kFm τ s3 := F2.tr g3
  have W3 := F3.rows m
  obtain ⟨s4, e4, r4, g4⟩ : ∃ τ', zF h0 qs ks T (n + 5) 39 [.ref h0, .int (nI u)] s3 = some (none, τ') ∧ kR τ' (kT f pp ee a q3) ∧ kFm s3 τ' := Ia s3 q3 u (F3.rw hw) r3 O3 (by omega) (by omega) wa (ta.fm F3) n (by omega)
  obtain ⟨q4, hq4⟩ : ∃ x, x = kT f pp ee a q3 := ⟨_, rfl⟩
  have O4 : kOk cnt q4 := by rw [hq4]; exact O3.tr (kT_12 a q3) (tWf_tW a 0 wa) (by omega)
  have A4 : q4.1 = q.1 := by rw [hq4]; exact (kT_12 _ _).1.trans A3
  have M4 : q4.2.1.length = q.2.1.length + (tW a).length := by rw [hq4, (kT_12 _ _).2, List.length_append, M3]
  rw [← hq4] at r4
  have L4 : q4.1.length = q.1.length + 0 := by rw [A4]; simp
  have F4 : kFm τ s4 := F3.tr g4
  have W4 := F4.rows m
  have K := r4.bk (l := q.1) (r := []) (A4.trans (List.append_nil _).symm)
  refine ⟨zI s4 51 (nI q.1.length), ?_, ?_, F4.tr K.2⟩
  · rw [zE_namesOf]
    unfold b_namesOf
    simp only [zgd, zin_n hm (by decide), if_true, nI_clamp (show m < 2 ^ 31 by omega), h6]
    rw [if_neg (by decide), if_neg (by decide), if_neg (by decide), if_neg (by decide), if_neg (by decide), if_pos (by decide)]
    simp only [h9, h10, h11, h12, W1.1, W1.2.1, W1.2.2.1, W1.2.2.2, W2.1, W2.2.1, W2.2.2.1, W2.2.2.2, W3.1, W3.2.1, W3.2.2.1, W3.2.2.2, W4.1, W4.2.1, W4.2.2.1, W4.2.2.2, e1, zcv, e2, e3, e4, j_namesOf_596, zlet, hr.2.1.1]
  · have E : kT f pp ee (.inner 6 d z a b) q = kBk q.1 q4 := by
      have Z : kBk q.1 q4 = q4 := by rw [← A4]; rfl
      rw [Z, hq4, hq3, hq2, hq1]; rfl
    rw [E]; exact K.1
theorem nm_7 (hT : 2110 ≤ T) (hN : N ≤ 2100) (hS : S ≤ 2100) (hP : P ≤ 2100) {τ : zSt} {q : kSt} {m : Nat} {d : Nat × Nat × Nat × tS × tS} {z : Unit} {a b : tT} (hw : rW τ T len cnt kk pp ee f) (hr : kR τ q) (ho : kOk cnt q) (hE : q.1.length + 5 * tH (.inner 7 d z a b) ≤ 400) (hM : q.2.1.length + (tW (.inner 7 d z a b)).length ≤ 700) (p1 : pOk cnt d.2.2.2.1.2) (z2 : d.2.2.2.2.2 = []) (ea : a = .leaf) (eb : b = .leaf) (ht : rTr pp τ lo N S P A (.inner 7 d z a b) 0 0 m) : k39 ks qs T h0 τ m (tD (.inner 7 d z a b)) (kT f pp ee (.inner 7 d z a b) q) := by
  have hE : q.1.length + 5 * (max (tH a) (tH b) + 1) ≤ 400 := hE
  have hM : q.2.1.length + (tW a ++ tW b : List Nat).length ≤ 700 := hM
  try simp only [List.length_cons, List.length_append, List.length_range', List.length_nil] at hM
  obtain ⟨t0, x, t4, c1⟩ := ht
  intro n hn
  have hn : max (tD a) (tD b) + 1 ≤ n := hn
  obtain ⟨n, rfl⟩ : ∃ n', n = n' + 1 := ⟨n - 1, by omega⟩
  have hcn := hw.cn
  have hm : m < 2100 := by have := t0.1.2; omega
  have h6 : τ.2.2.1 6 m = nI 7 := t0.2.1
  have h10 : τ.2.2.1 10 m = nI x := t4
  have A0 : q.1 = q.1 := rfl
  have L0 : q.1.length = q.1.length := rfl
  have M0 : q.2.1.length = q.2.1.length := rfl
  have F0 : kFm τ τ := kFm.rf τ
  have hq0 : q = q := rfl
  obtain ⟨s1, e1, r1, g1⟩ : ∃ τ', zF h0 qs ks T (n + 5) 36 [.ref h0, .int (nI x)] τ = some (none, τ') ∧ kR τ' (kPs f pp ee d.2.2.2.1.2 q) ∧ kFm τ τ' := r_nsum (n := n + 2) (by omega) hS hP (F0.rw hw) hr ho (by omega) p1 (c1.fm F0)
  obtain ⟨q1, hq1⟩ : ∃ x, x = kPs f pp ee d.2.2.2.1.2 q := ⟨_, rfl⟩
  have O1 : kOk cnt q1 := by rw [hq1]; exact ho.of (kPs_12 _ _)
  have A1 : q1.1 = q.1 := by rw [hq1]; exact (kPs_12 _ _).1.trans A0
  have M1 : q1.2.1.length = q.2.1.length := by rw [hq1]; exact (congrArg List.length (kPs_12 _ _).2).trans M0
  rw [← hq1] at r1
  have L1 : q1.1.length = q.1.length + 0 := by rw [A1]; simp
  have F1 : kFm τ s1 := F0.tr g1
  have W1 := F1.rows m
  have K := r1.bk (l := q.1) (r := []) (A1.trans (List.append_nil _).symm)
  refine ⟨zI s1 51 (nI q.1.length), ?_, ?_, F1.tr K.2⟩
  · rw [zE_namesOf]
    unfold b_namesOf
    simp only [zgd, zin_n hm (by decide), if_true, nI_clamp (show m < 2 ^ 31 by omega), h6]
    rw [if_neg (by decide), if_neg (by decide), if_neg (by decide), if_neg (by decide), if_neg (by decide), if_neg (by decide), if_pos (by decide)]
    simp only [h10, W1.1, W1.2.1, W1.2.2.1, W1.2.2.2, e1, zcv, j_namesOf_596, zlet, hr.2.1.1]
  · have E : kT f pp ee (.inner 7 d z a b) q = kBk q.1 q1 := by
      have Z : kBk q.1 q1 = q1 := by rw [← A1]; rfl
      rw [Z, hq1]; show kT f pp ee b (kT f pp ee a (kPs f pp ee d.2.2.2.2.2 (kPs f pp ee d.2.2.2.1.2 q))) = _; rw [z2, ea, eb]; rfl
    rw [E]; exact K.1
theorem nm_10 (hT : 2110 ≤ T) (hN : N ≤ 2100) (hS : S ≤ 2100) (hP : P ≤ 2100) {τ : zSt} {q : kSt} {m : Nat} {d : Nat × Nat × Nat × tS × tS} {z : Unit} {a b : tT} (hw : rW τ T len cnt kk pp ee f) (hr : kR τ q) (ho : kOk cnt q) (hE : q.1.length + 5 * tH (.inner 10 d z a b) ≤ 400) (hM : q.2.1.length + (tW (.inner 10 d z a b)).length ≤ 700) (p1 : pOk cnt d.2.2.2.1.2) (z2 : d.2.2.2.2.2 = []) (ea : a = .leaf) (eb : b = .leaf) (ht : rTr pp τ lo N S P A (.inner 10 d z a b) 0 0 m) : k39 ks qs T h0 τ m (tD (.inner 10 d z a b)) (kT f pp ee (.inner 10 d z a b) q) := by
  have hE : q.1.length + 5 * (max (tH a) (tH b) + 1) ≤ 400 := hE
  have hM : q.2.1.length + (tW a ++ tW b : List Nat).length ≤ 700 := hM
  try simp only [List.length_cons, List.length_append, List.length_range', List.length_nil] at hM
  obtain ⟨t0, x, t4, c1⟩ := ht
  intro n hn
  have hn : max (tD a) (tD b) + 1 ≤ n := hn
  obtain ⟨n, rfl⟩ : ∃ n', n = n' + 1 := ⟨n - 1, by omega⟩
  have hcn := hw.cn
  have hm : m < 2100 := by have := t0.1.2; omega
  have h6 : τ.2.2.1 6 m = nI 10 := t0.2.1
  have h10 : τ.2.2.1 10 m = nI x := t4
  have A0 : q.1 = q.1 := rfl
  have L0 : q.1.length = q.1.length := rfl
  have M0 : q.2.1.length = q.2.1.length := rfl
  have F0 : kFm τ τ := kFm.rf τ
  have hq0 : q = q := rfl
  obtain ⟨s1, e1, r1, g1⟩ : ∃ τ', zF h0 qs ks T (n + 5) 36 [.ref h0, .int (nI x)] τ = some (none, τ') ∧ kR τ' (kPs f pp ee d.2.2.2.1.2 q) ∧ kFm τ τ' := r_nsum (n := n + 2) (by omega) hS hP (F0.rw hw) hr ho (by omega) p1 (c1.fm F0)
  obtain ⟨q1, hq1⟩ : ∃ x, x = kPs f pp ee d.2.2.2.1.2 q := ⟨_, rfl⟩
  have O1 : kOk cnt q1 := by rw [hq1]; exact ho.of (kPs_12 _ _)
  have A1 : q1.1 = q.1 := by rw [hq1]; exact (kPs_12 _ _).1.trans A0
  have M1 : q1.2.1.length = q.2.1.length := by rw [hq1]; exact (congrArg List.length (kPs_12 _ _).2).trans M0
  rw [← hq1] at r1
  have L1 : q1.1.length = q.1.length + 0 := by rw [A1]; simp
  have F1 : kFm τ s1 := F0.tr g1
  have W1 := F1.rows m
  have K := r1.bk (l := q.1) (r := []) (A1.trans (List.append_nil _).symm)
  refine ⟨zI s1 51 (nI q.1.length), ?_, ?_, F1.tr K.2⟩
  · rw [zE_namesOf]
    unfold b_namesOf
    simp only [zgd, zin_n hm (by decide), if_true, nI_clamp (show m < 2 ^ 31 by omega), h6]
    rw [if_neg (by decide), if_neg (by decide), if_neg (by decide), if_neg (by decide), if_neg (by decide), if_neg (by decide), if_neg (by decide), if_neg (by decide), if_neg (by decide), if_pos (by decide)]
    simp only [h10, W1.1, W1.2.1, W1.2.2.1, W1.2.2.2, e1, zcv, j_namesOf_596, zlet, hr.2.1.1]
  · have E : kT f pp ee (.inner 10 d z a b) q = kBk q.1 q1 := by
      have Z : kBk q.1 q1 = q1 := by rw [← A1]; rfl
      rw [Z, hq1]; show kT f pp ee b (kT f pp ee a (kPs f pp ee d.2.2.2.2.2 (kPs f pp ee d.2.2.2.1.2 q))) = _; rw [z2, ea, eb]; rfl
    rw [E]; exact K.1
theorem nm_8 (hT : 2110 ≤ T) (hN : N ≤ 2100) (hS : S ≤ 2100) (hP : P ≤ 2100) {τ : zSt} {q : kSt} {m : Nat} {d : Nat × Nat × Nat × tS × tS} {z : Unit} {a b : tT} (hw : rW τ T len cnt kk pp ee f) (hr : kR τ q) (ho : kOk cnt q) (hE : q.1.length + 5 * tH (.inner 8 d z a b) ≤ 400) (hM : q.2.1.length + (tW (.inner 8 d z a b)).length ≤ 700) (z1 : d.2.2.2.1.2 = []) (z2 : d.2.2.2.2.2 = []) (ea : a = .leaf) (eb : b = .leaf) (ht : rTr pp τ lo N S P A (.inner 8 d z a b) 0 0 m) : k39 ks qs T h0 τ m (tD (.inner 8 d z a b)) (kT f pp ee (.inner 8 d z a b) q) := by
  have hE : q.1.length + 5 * (max (tH a) (tH b) + 1) ≤ 400 := hE
  have hM : q.2.1.length + (tW a ++ tW b : List Nat).length ≤ 700 := hM
  try simp only [List.length_cons, List.length_append, List.length_range', List.length_nil] at hM
  have t0 := ht
  intro n hn
  have hn : max (tD a) (tD b) + 1 ≤ n := hn
  obtain ⟨n, rfl⟩ : ∃ n', n = n' + 1 := ⟨n - 1, by omega⟩
  have hcn := hw.cn
  have hm : m < 2100 := by have := t0.1.2; omega
  have h6 : τ.2.2.1 6 m = nI 8 := t0.2.1
  have A0 : q.1 = q.1 := rfl
  have L0 : q.1.length = q.1.length := rfl
  have M0 : q.2.1.length = q.2.1.length := rfl
  have F0 : kFm τ τ := kFm.rf τ
  have hq0 : q = q := rfl
  have K := hr.bk (l := q.1) (r := []) (List.append_nil _).symm
  refine ⟨zI τ 51 (nI q.1.length), ?_, ?_, F0.tr K.2⟩
  · rw [zE_namesOf]
    unfold b_namesOf
    simp only [zgd, zin_n hm (by decide), if_true, nI_clamp (show m < 2 ^ 31 by omega), h6]
    rw [if_neg (by decide), if_neg (by decide), if_neg (by decide), if_neg (by decide), if_neg (by decide), if_neg (by decide), if_neg (by decide), if_pos (by decide)]
    simp only [j_namesOf_596, zlet, hr.2.1.1]
  · have E : kT f pp ee (.inner 8 d z a b) q = kBk q.1 q := by
      have Z : kBk q.1 q = q := rfl
      rw [Z]; show kT f pp ee b (kT f pp ee a (kPs f pp ee d.2.2.2.2.2 (kPs f pp ee d.2.2.2.1.2 q))) = _; rw [z1, z2, ea, eb]; rfl
    rw [E]; exact K.1
theorem nm_9 (hT : 2110 ≤ T) (hN : N ≤ 2100) (hS : S ≤ 2100) (hP : P ≤ 2100) {τ : zSt} {q : kSt} {m : Nat} {d : Nat × Nat × Nat × tS × tS} {z : Unit} {a b : tT} (hw : rW τ T len cnt kk pp ee f) (hr : kR τ q) (ho : kOk cnt q) (hE : q.1.length + 5 * tH (.inner 9 d z a b) ≤ 400) (hM : q.2.1.length + (tW (.inner 9 d z a b)).length ≤ 700) (z1 : d.2.2.2.1.2 = []) (z2 : d.2.2.2.2.2 = []) (ea : a = .leaf) (eb : b = .leaf) (ht : rTr pp τ lo N S P A (.inner 9 d z a b) 0 0 m) : k39 ks qs T h0 τ m (tD (.inner 9 d z a b)) (kT f pp ee (.inner 9 d z a b) q) := by
  have hE : q.1.length + 5 * (max (tH a) (tH b) + 1) ≤ 400 := hE
  have hM : q.2.1.length + (tW a ++ tW b : List Nat).length ≤ 700 := hM
  try simp only [List.length_cons, List.length_append, List.length_range', List.length_nil] at hM
  have t0 := ht
  intro n hn
  have hn : max (tD a) (tD b) + 1 ≤ n := hn
  obtain ⟨n, rfl⟩ : ∃ n', n = n' + 1 := ⟨n - 1, by omega⟩
  have hcn := hw.cn
  have hm : m < 2100 := by have := t0.1.2; omega
  have h6 : τ.2.2.1 6 m = nI 9 := t0.2.1
  have A0 : q.1 = q.1 := rfl
  have L0 : q.1.length = q.1.length := rfl
  have M0 : q.2.1.length = q.2.1.length := rfl
  have F0 : kFm τ τ := kFm.rf τ
  have hq0 : q = q := rfl
  have K := hr.bk (l := q.1) (r := []) (List.append_nil _).symm
  refine ⟨zI τ 51 (nI q.1.length), ?_, ?_, F0.tr K.2⟩
  · rw [zE_namesOf]
    unfold b_namesOf
    simp only [zgd, zin_n hm (by decide), if_true, nI_clamp (show m < 2 ^ 31 by omega), h6]
    rw [if_neg (by decide), if_neg (by decide), if_neg (by decide), if_neg (by decide), if_neg (by decide), if_neg (by decide), if_neg (by decide), if_neg (by decide), if_pos (by decide)]
    simp only [j_namesOf_596, zlet, hr.2.1.1]
  · have E : kT f pp ee (.inner 9 d z a b) q = kBk q.1 q := by
      have Z : kBk q.1 q = q := rfl
      rw [Z]; show kT f pp ee b (kT f pp ee a (kPs f pp ee d.2.2.2.2.2 (kPs f pp ee d.2.2.2.1.2 q))) = _; rw [z1, z2, ea, eb]; rfl
    rw [E]; exact K.1
theorem nm_17 (hT : 2110 ≤ T) (hN : N ≤ 2100) (hS : S ≤ 2100) (hP : P ≤ 2100) {τ : zSt} {q : kSt} {m : Nat} {d : Nat × Nat × Nat × tS × tS} {z : Unit} {a b : tT} (hw : rW τ T len cnt kk pp ee f) (hr : kR τ q) (ho : kOk cnt q) (hE : q.1.length + 5 * tH (.inner 17 d z a b) ≤ 400) (hM : q.2.1.length + (tW (.inner 17 d z a b)).length ≤ 700) (z1 : d.2.2.2.1.2 = []) (z2 : d.2.2.2.2.2 = []) (ea : a = .leaf) (eb : b = .leaf) (ht : rTr pp τ lo N S P A (.inner 17 d z a b) 0 0 m) : k39 ks qs T h0 τ m (tD (.inner 17 d z a b)) (kT f pp ee (.inner 17 d z a b) q) := by
  have hE : q.1.length + 5 * (max (tH a) (tH b) + 1) ≤ 400 := hE
  have hM : q.2.1.length + (tW a ++ tW b : List Nat).length ≤ 700 := hM
  try simp only [List.length_cons, List.length_append, List.length_range', List.length_nil] at hM
  have t0 := ht
  intro n hn
  have hn : max (tD a) (tD b) + 1 ≤ n := hn
  obtain ⟨n, rfl⟩ : ∃ n', n = n' + 1 := ⟨n - 1, by omega⟩
  have hcn := hw.cn
  have hm : m < 2100 := by have := t0.1.2; omega
  have h6 : τ.2.2.1 6 m = nI 17 := t0.2.1
  have A0 : q.1 = q.1 := rfl
  have L0 : q.1.length = q.1.length := rfl
  have M0 : q.2.1.length = q.2.1.length := rfl
  have F0 : kFm τ τ := kFm.rf τ
  have hq0 : q = q := rfl
  have K := hr.bk (l := q.1) (r := []) (List.append_nil _).symm
  refine ⟨zI τ 51 (nI q.1.length), ?_, ?_, F0.tr K.2⟩
  · rw [zE_namesOf]
    unfold b_namesOf
    simp only [zgd, zin_n hm (by decide), if_true, nI_clamp (show m < 2 ^ 31 by omega), h6]
    rw [if_neg (by decide), if_neg (by decide), if_neg (by decide), if_neg (by decide), if_neg (by decide), if_neg (by decide), if_neg (by decide), if_neg (by decide), if_neg (by decide), if_neg (by decide), if_neg (by decide), if_neg (by decide), if_neg (by decide), if_neg (by decide), if_neg (by decide), if_neg (by decide), if_pos (by decide)]
    simp only [j_namesOf_596, zlet, hr.2.1.1]
  · have E : kT f pp ee (.inner 17 d z a b) q = kBk q.1 q := by
      have Z : kBk q.1 q = q := rfl
      rw [Z]; show kT f pp ee b (kT f pp ee a (kPs f pp ee d.2.2.2.2.2 (kPs f pp ee d.2.2.2.1.2 q))) = _; rw [z1, z2, ea, eb]; rfl
    rw [E]; exact K.1
theorem nm_11 (hT : 2110 ≤ T) (hN : N ≤ 2100) (hS : S ≤ 2100) (hP : P ≤ 2100) {τ : zSt} {q : kSt} {m : Nat} {d : Nat × Nat × Nat × tS × tS} {z : Unit} {a b : tT} (hw : rW τ T len cnt kk pp ee f) (hr : kR τ q) (ho : kOk cnt q) (hE : q.1.length + 5 * tH (.inner 11 d z a b) ≤ 400) (hM : q.2.1.length + (tW (.inner 11 d z a b)).length ≤ 700) (p1 : pOk cnt d.2.2.2.1.2) (p2 : pOk cnt d.2.2.2.2.2) (ea : a = .leaf) (eb : b = .leaf) (ht : rTr pp τ lo N S P A (.inner 11 d z a b) 0 0 m) : k39 ks qs T h0 τ m (tD (.inner 11 d z a b)) (kT f pp ee (.inner 11 d z a b) q) := by
  have hE : q.1.length + 5 * (max (tH a) (tH b) + 1) ≤ 400 := hE
  have hM : q.2.1.length + (tW a ++ tW b : List Nat).length ≤ 700 := hM
  try simp only [List.length_cons, List.length_append, List.length_range', List.length_nil] at hM
  obtain ⟨t0, _, x, y, ⟨t4, t5⟩, c1, c2⟩ := ht
  intro n hn
  have hn : max (tD a) (tD b) + 1 ≤ n := hn
  obtain ⟨n, rfl⟩ : ∃ n', n = n' + 1 := ⟨n - 1, by omega⟩
  have hcn := hw.cn
  have hm : m < 2100 := by have := t0.1.2; omega
  have h6 : τ.2.2.1 6 m = nI 11 := t0.2.1
  have h10 : τ.2.2.1 10 m = nI x := t4
  have h11 : τ.2.2.1 11 m = nI y := t5
  have A0 : q.1 = q.1 := rfl
  have L0 : q.1.length = q.1.length := rfl
  have M0 : q.2.1.length = q.2.1.length := rfl
  have F0 : kFm τ τ := kFm.rf τ
  have hq0 : q = q := rfl
  obtain ⟨s1, e1, r1, g1⟩ : ∃ τ', zF h0 qs ks T (n + 5) 36 [.ref h0, .int (nI x)] τ = some (none, τ') ∧ kR τ' (kPs f pp ee d.2.2.2.1.2 q) ∧ kFm τ τ' := r_nsum (n := n + 2) (by omega) hS hP (F0.rw hw) hr ho (by omega) p1 (c1.fm F0)
  obtain ⟨q1, hq1⟩ : ∃ x, x = kPs f pp ee d.2.2.2.1.2 q := ⟨_, rfl⟩
  have O1 : kOk cnt q1 := by rw [hq1]; exact ho.of (kPs_12 _ _)
  have A1 : q1.1 = q.1 := by rw [hq1]; exact (kPs_12 _ _).1.trans A0
  have M1 : q1.2.1.length = q.2.1.length := by rw [hq1]; exact (congrArg List.length (kPs_12 _ _).2).trans M0
  rw [← hq1] at r1
  have L1 : q1.1.length = q.1.length + 0 := by rw [A1]; simp
  have F1 : kFm τ s1 := F0.tr g1
  have W1 := F1.rows m
  obtain ⟨s2, e2, r2, g2⟩ : ∃ τ', zF h0 qs ks T (n + 5) 36 [.ref h0, .int (nI y)] s1 = some (none, τ') ∧ kR τ' (kPs f pp ee d.2.2.2.2.2 q1) ∧ kFm s1 τ' := r_nsum (n := n + 2) (by omega) hS hP (F1.rw hw) r1 O1 (by omega) p2 (c2.fm F1)
  obtain ⟨q2, hq2⟩ : ∃ x, x = kPs f pp ee d.2.2.2.2.2 q1 := ⟨_, rfl⟩
  have O2 : kOk cnt q2 := by rw [hq2]; exact O1.of (kPs_12 _ _)
  have A2 : q2.1 = q.1 := by rw [hq2]; exact (kPs_12 _ _).1.trans A1
  have M2 : q2.2.1.length = q.2.1.length := by rw [hq2]; exact (congrArg List.length (kPs_12 _ _).2).trans M1
  rw [← hq2] at r2
  have L2 : q2.1.length = q.1.length + 0 := by rw [A2]; simp
  have F2 : kFm τ s2 := F1.tr g2
  have W2 := F2.rows m
  have K := r2.bk (l := q.1) (r := []) (A2.trans (List.append_nil _).symm)
  refine ⟨zI s2 51 (nI q.1.length), ?_, ?_, F2.tr K.2⟩
  · rw [zE_namesOf]
    unfold b_namesOf
    simp only [zgd, zin_n hm (by decide), if_true, nI_clamp (show m < 2 ^ 31 by omega), h6]
    rw [if_neg (by decide), if_neg (by decide), if_neg (by decide), if_neg (by decide), if_neg (by decide), if_neg (by decide), if_neg (by decide), if_neg (by decide), if_neg (by decide), if_neg (by decide), if_pos (by decide)]
    simp only [h10, h11, W1.1, W1.2.1, W1.2.2.1, W1.2.2.2, W2.1, W2.2.1, W2.2.2.1, W2.2.2.2, e1, zcv, e2, j_namesOf_596, zlet, hr.2.1.1]
  · have E : kT f pp ee (.inner 11 d z a b) q = kBk q.1 q2 := by
      have Z : kBk q.1 q2 = q2 := by rw [← A2]; rfl
      rw [Z, hq2, hq1]; show kT f pp ee b (kT f pp ee a (kPs f pp ee d.2.2.2.2.2 (kPs f pp ee d.2.2.2.1.2 q))) = _; rw [ea, eb]; rfl
    rw [E]; exact K.1
theorem nm_12 (hT : 2110 ≤ T) (hN : N ≤ 2100) (hS : S ≤ 2100) (hP : P ≤ 2100) {τ : zSt} {q : kSt} {m : Nat} {d : Nat × Nat × Nat × tS × tS} {z : Unit} {a b : tT} (hw : rW τ T len cnt kk pp ee f) (hr : kR τ q) (ho : kOk cnt q) (hE : q.1.length + 5 * tH (.inner 12 d z a b) ≤ 400) (hM : q.2.1.length + (tW (.inner 12 d z a b)).length ≤ 700) (p1 : pOk cnt d.2.2.2.1.2) (p2 : pOk cnt d.2.2.2.2.2) (ea : a = .leaf) (eb : b = .leaf) (ht : rTr pp τ lo N S P A (.inner 12 d z a b) 0 0 m) : k39 ks qs T h0 τ m (tD (.inner 12 d z a b)) (kT f pp ee (.inner 12 d z a b) q) := by
  have hE : q.1.length + 5 * (max (tH a) (tH b) + 1) ≤ 400 := hE
  have hM : q.2.1.length + (tW a ++ tW b : List Nat).length ≤ 700 := hM
  try simp only [List.length_cons, List.length_append, List.length_range', List.length_nil] at hM
  obtain ⟨t0, _, x, y, ⟨t4, t5⟩, c1, c2⟩ := ht
  intro n hn
  have hn : max (tD a) (tD b) + 1 ≤ n := hn
  obtain ⟨n, rfl⟩ : ∃ n', n = n' + 1 := ⟨n - 1, by omega⟩
  have hcn := hw.cn
  have hm : m < 2100 := by have := t0.1.2; omega
  have h6 : τ.2.2.1 6 m = nI 12 := t0.2.1
  have h10 : τ.2.2.1 10 m = nI x := t4
  have h11 : τ.2.2.1 11 m = nI y := t5
  have A0 : q.1 = q.1 := rfl
  have L0 : q.1.length = q.1.length := rfl
  have M0 : q.2.1.length = q.2.1.length := rfl
  have F0 : kFm τ τ := kFm.rf τ
  have hq0 : q = q := rfl
  obtain ⟨s1, e1, r1, g1⟩ : ∃ τ', zF h0 qs ks T (n + 5) 36 [.ref h0, .int (nI x)] τ = some (none, τ') ∧ kR τ' (kPs f pp ee d.2.2.2.1.2 q) ∧ kFm τ τ' := r_nsum (n := n + 2) (by omega) hS hP (F0.rw hw) hr ho (by omega) p1 (c1.fm F0)
  obtain ⟨q1, hq1⟩ : ∃ x, x = kPs f pp ee d.2.2.2.1.2 q := ⟨_, rfl⟩
  have O1 : kOk cnt q1 := by rw [hq1]; exact ho.of (kPs_12 _ _)
  have A1 : q1.1 = q.1 := by rw [hq1]; exact (kPs_12 _ _).1.trans A0
  have M1 : q1.2.1.length = q.2.1.length := by rw [hq1]; exact (congrArg List.length (kPs_12 _ _).2).trans M0
  rw [← hq1] at r1
  have L1 : q1.1.length = q.1.length + 0 := by rw [A1]; simp
  have F1 : kFm τ s1 := F0.tr g1
  have W1 := F1.rows m
  obtain ⟨s2, e2, r2, g2⟩ : ∃ τ', zF h0 qs ks T (n + 5) 36 [.ref h0, .int (nI y)] s1 = some (none, τ') ∧ kR τ' (kPs f pp ee d.2.2.2.2.2 q1) ∧ kFm s1 τ' := r_nsum (n := n + 2) (by omega) hS hP (F1.rw hw) r1 O1 (by omega) p2 (c2.fm F1)
  obtain ⟨q2, hq2⟩ : ∃ x, x = kPs f pp ee d.2.2.2.2.2 q1 := ⟨_, rfl⟩
  have O2 : kOk cnt q2 := by rw [hq2]; exact O1.of (kPs_12 _ _)
  have A2 : q2.1 = q.1 := by rw [hq2]; exact (kPs_12 _ _).1.trans A1
  have M2 : q2.2.1.length = q.2.1.length := by rw [hq2]; exact (congrArg List.length (kPs_12 _ _).2).trans M1
  rw [← hq2] at r2
  have L2 : q2.1.length = q.1.length + 0 := by rw [A2]; simp
  have F2 : kFm τ s2 := F1.tr g2
  have W2 := F2.rows m
  have K := r2.bk (l := q.1) (r := []) (A2.trans (List.append_nil _).symm)
  refine ⟨zI s2 51 (nI q.1.length), ?_, ?_, F2.tr K.2⟩
  · rw [zE_namesOf]
    unfold b_namesOf
    simp only [zgd, zin_n hm (by decide), if_true, nI_clamp (show m < 2 ^ 31 by omega), h6]
    rw [if_neg (by decide), if_neg (by decide), if_neg (by decide), if_neg (by decide), if_neg (by decide), if_neg (by decide), if_neg (by decide), if_neg (by decide), if_neg (by decide), if_neg (by decide), if_neg (by decide), if_pos (by decide)]
    simp only [h10, h11, W1.1, W1.2.1, W1.2.2.1, W1.2.2.2, W2.1, W2.2.1, W2.2.2.1, W2.2.2.2, e1, zcv, e2, j_namesOf_596, zlet, hr.2.1.1]
  · have E : kT f pp ee (.inner 12 d z a b) q = kBk q.1 q2 := by
      have Z : kBk q.1 q2 = q2 := by rw [← A2]; rfl
      rw [Z, hq2, hq1]; show kT f pp ee b (kT f pp ee a (kPs f pp ee d.2.2.2.2.2 (kPs f pp ee d.2.2.2.1.2 q))) = _; rw [ea, eb]; rfl
    rw [E]; exact K.1
theorem nm_13 (hT : 2110 ≤ T) (hN : N ≤ 2100) (hS : S ≤ 2100) (hP : P ≤ 2100) {τ : zSt} {q : kSt} {m : Nat} {d : Nat × Nat × Nat × tS × tS} {z : Unit} {a b : tT} (hw : rW τ T len cnt kk pp ee f) (hr : kR τ q) (ho : kOk cnt q) (hE : q.1.length + 5 * tH (.inner 13 d z a b) ≤ 400) (hM : q.2.1.length + (tW (.inner 13 d z a b)).length ≤ 700) (p1 : pOk cnt d.2.2.2.1.2) (p2 : pOk cnt d.2.2.2.2.2) (ea : a = .leaf) (eb : b = .leaf) (ht : rTr pp τ lo N S P A (.inner 13 d z a b) 0 0 m) : k39 ks qs T h0 τ m (tD (.inner 13 d z a b)) (kT f pp ee (.inner 13 d z a b) q) := by
  have hE : q.1.length + 5 * (max (tH a) (tH b) + 1) ≤ 400 := hE
  have hM : q.2.1.length + (tW a ++ tW b : List Nat).length ≤ 700 := hM
  try simp only [List.length_cons, List.length_append, List.length_range', List.length_nil] at hM
  obtain ⟨t0, _, x, y, ⟨t4, t5⟩, c1, c2⟩ := ht
  intro n hn
  have hn : max (tD a) (tD b) + 1 ≤ n := hn
  obtain ⟨n, rfl⟩ : ∃ n', n = n' + 1 := ⟨n - 1, by omega⟩
  have hcn := hw.cn
  have hm : m < 2100 := by have := t0.1.2; omega
  have h6 : τ.2.2.1 6 m = nI 13 := t0.2.1
  have h10 : τ.2.2.1 10 m = nI x := t4
  have h11 : τ.2.2.1 11 m = nI y := t5
  have A0 : q.1 = q.1 := rfl
  have L0 : q.1.length = q.1.length := rfl
  have M0 : q.2.1.length = q.2.1.length := rfl
  have F0 : kFm τ τ := kFm.rf τ
  have hq0 : q = q := rfl
  obtain ⟨s1, e1, r1, g1⟩ : ∃ τ', zF h0 qs ks T (n + 5) 36 [.ref h0, .int (nI x)] τ = some (none, τ') ∧ kR τ' (kPs f pp ee d.2.2.2.1.2 q) ∧ kFm τ τ' := r_nsum (n := n + 2) (by omega) hS hP (F0.rw hw) hr ho (by omega) p1 (c1.fm F0)
  obtain ⟨q1, hq1⟩ : ∃ x, x = kPs f pp ee d.2.2.2.1.2 q := ⟨_, rfl⟩
  have O1 : kOk cnt q1 := by rw [hq1]; exact ho.of (kPs_12 _ _)
  have A1 : q1.1 = q.1 := by rw [hq1]; exact (kPs_12 _ _).1.trans A0
  have M1 : q1.2.1.length = q.2.1.length := by rw [hq1]; exact (congrArg List.length (kPs_12 _ _).2).trans M0
  rw [← hq1] at r1
  have L1 : q1.1.length = q.1.length + 0 := by rw [A1]; simp
  have F1 : kFm τ s1 := F0.tr g1
  have W1 := F1.rows m
  obtain ⟨s2, e2, r2, g2⟩ : ∃ τ', zF h0 qs ks T (n + 5) 36 [.ref h0, .int (nI y)] s1 = some (none, τ') ∧ kR τ' (kPs f pp ee d.2.2.2.2.2 q1) ∧ kFm s1 τ' := r_nsum (n := n + 2) (by omega) hS hP (F1.rw hw) r1 O1 (by omega) p2 (c2.fm F1)
  obtain ⟨q2, hq2⟩ : ∃ x, x = kPs f pp ee d.2.2.2.2.2 q1 := ⟨_, rfl⟩
  have O2 : kOk cnt q2 := by rw [hq2]; exact O1.of (kPs_12 _ _)
  have A2 : q2.1 = q.1 := by rw [hq2]; exact (kPs_12 _ _).1.trans A1
  have M2 : q2.2.1.length = q.2.1.length := by rw [hq2]; exact (congrArg List.length (kPs_12 _ _).2).trans M1
  rw [← hq2] at r2
  have L2 : q2.1.length = q.1.length + 0 := by rw [A2]; simp
  have F2 : kFm τ s2 := F1.tr g2
  have W2 := F2.rows m
  have K := r2.bk (l := q.1) (r := []) (A2.trans (List.append_nil _).symm)
  refine ⟨zI s2 51 (nI q.1.length), ?_, ?_, F2.tr K.2⟩
  · rw [zE_namesOf]
    unfold b_namesOf
    simp only [zgd, zin_n hm (by decide), if_true, nI_clamp (show m < 2 ^ 31 by omega), h6]
    rw [if_neg (by decide), if_neg (by decide), if_neg (by decide), if_neg (by decide), if_neg (by decide), if_neg (by decide), if_neg (by decide), if_neg (by decide), if_neg (by decide), if_neg (by decide), if_neg (by decide), if_neg (by decide), if_pos (by decide)]
    simp only [h10, h11, W1.1, W1.2.1, W1.2.2.1, W1.2.2.2, W2.1, W2.2.1, W2.2.2.1, W2.2.2.2, e1, zcv, e2, j_namesOf_596, zlet, hr.2.1.1]
  · have E : kT f pp ee (.inner 13 d z a b) q = kBk q.1 q2 := by
      have Z : kBk q.1 q2 = q2 := by rw [← A2]; rfl
      rw [Z, hq2, hq1]; show kT f pp ee b (kT f pp ee a (kPs f pp ee d.2.2.2.2.2 (kPs f pp ee d.2.2.2.1.2 q))) = _; rw [ea, eb]; rfl
    rw [E]; exact K.1
theorem nm_14 (hT : 2110 ≤ T) (hN : N ≤ 2100) (hS : S ≤ 2100) (hP : P ≤ 2100) {τ : zSt} {q : kSt} {m : Nat} {d : Nat × Nat × Nat × tS × tS} {z : Unit} {a b : tT} (hw : rW τ T len cnt kk pp ee f) (hr : kR τ q) (ho : kOk cnt q) (hE : q.1.length + 5 * tH (.inner 14 d z a b) ≤ 400) (hM : q.2.1.length + (tW (.inner 14 d z a b)).length ≤ 700) (w1 : d.1 < cnt) (p1 : pOk cnt d.2.2.2.1.2) (ht : rTr pp τ lo N S P A (.inner 14 d z a b) 0 0 m) : k39 ks qs T h0 τ m (tD (.inner 14 d z a b)) (kT f pp ee (.inner 14 d z a b) q) := by
  have hE : q.1.length + 5 * (max (tH a) (tH b) + 1) ≤ 400 := hE
  have hM : q.2.1.length + ([] : List Nat).length ≤ 700 := hM
  try simp only [List.length_cons, List.length_append, List.length_range', List.length_nil] at hM
  obtain ⟨t0, ⟨_, t3⟩, x, t4, c1⟩ := ht
  intro n hn
  have hn : max (tD a) (tD b) + 1 ≤ n := hn
  obtain ⟨n, rfl⟩ : ∃ n', n = n' + 1 := ⟨n - 1, by omega⟩
  have hcn := hw.cn
  have hm : m < 2100 := by have := t0.1.2; omega
  have h6 : τ.2.2.1 6 m = nI 14 := t0.2.1
  have h9 : τ.2.2.1 9 m = nI d.1 := t3
  have h10 : τ.2.2.1 10 m = nI x := t4
  have A0 : q.1 = q.1 := rfl
  have L0 : q.1.length = q.1.length := rfl
  have M0 : q.2.1.length = q.2.1.length := rfl
  have F0 : kFm τ τ := kFm.rf τ
  have hq0 : q = q := rfl
  obtain ⟨s1, e1, r1, g1⟩ : ∃ τ', zF h0 qs ks T (n + 5) 35 [.ref h0, .int (nI (d.1))] τ = some (none, τ') ∧ kR τ' (kUse f pp ee (d.1) q) ∧ kFm τ τ' := r_uses (n := n + 3) (by omega) (F0.rw hw) hr ho (by omega) (by omega)
  obtain ⟨q1, hq1⟩ : ∃ x, x = kUse f pp ee (d.1) q := ⟨_, rfl⟩
  have O1 : kOk cnt q1 := by rw [hq1]; exact ho.of (kUse_12 _ _)
  have A1 : q1.1 = q.1 := by rw [hq1]; exact (kUse_12 _ _).1.trans A0
  have M1 : q1.2.1.length = q.2.1.length := by rw [hq1]; exact (congrArg List.length (kUse_12 _ _).2).trans M0
  rw [← hq1] at r1
  have L1 : q1.1.length = q.1.length + 0 := by rw [A1]; simp
  have F1 : kFm τ s1 := F0.tr g1
  have W1 := F1.rows m
  obtain ⟨s2, e2, r2, g2⟩ : ∃ τ', zF h0 qs ks T (n + 5) 36 [.ref h0, .int (nI x)] s1 = some (none, τ') ∧ kR τ' (kPs f pp ee d.2.2.2.1.2 q1) ∧ kFm s1 τ' := r_nsum (n := n + 2) (by omega) hS hP (F1.rw hw) r1 O1 (by omega) p1 (c1.fm F1)
  obtain ⟨q2, hq2⟩ : ∃ x, x = kPs f pp ee d.2.2.2.1.2 q1 := ⟨_, rfl⟩
  have O2 : kOk cnt q2 := by rw [hq2]; exact O1.of (kPs_12 _ _)
  have A2 : q2.1 = q.1 := by rw [hq2]; exact (kPs_12 _ _).1.trans A1
  have M2 : q2.2.1.length = q.2.1.length := by rw [hq2]; exact (congrArg List.length (kPs_12 _ _).2).trans M1
  rw [← hq2] at r2
  have L2 : q2.1.length = q.1.length + 0 := by rw [A2]; simp
  have F2 : kFm τ s2 := F1.tr g2
  have W2 := F2.rows m
  have K := r2.bk (l := q.1) (r := []) (A2.trans (List.append_nil _).symm)
  refine ⟨zI s2 51 (nI q.1.length), ?_, ?_, F2.tr K.2⟩
  · rw [zE_namesOf]
    unfold b_namesOf
    simp only [zgd, zin_n hm (by decide), if_true, nI_clamp (show m < 2 ^ 31 by omega), h6]
    rw [if_neg (by decide), if_neg (by decide), if_neg (by decide), if_neg (by decide), if_neg (by decide), if_neg (by decide), if_neg (by decide), if_neg (by decide), if_neg (by decide), if_neg (by decide), if_neg (by decide), if_neg (by decide), if_neg (by decide), if_pos (by decide)]
    simp only [h9, h10, W1.1, W1.2.1, W1.2.2.1, W1.2.2.2, W2.1, W2.2.1, W2.2.2.1, W2.2.2.2, e1, zcv, e2, j_namesOf_596, zlet, hr.2.1.1]
  · have E : kT f pp ee (.inner 14 d z a b) q = kBk q.1 q2 := by
      have Z : kBk q.1 q2 = q2 := by rw [← A2]; rfl
      rw [Z, hq2, hq1]; rfl
    rw [E]; exact K.1
theorem nm_16 (hT : 2110 ≤ T) (hN : N ≤ 2100) (hS : S ≤ 2100) (hP : P ≤ 2100) {τ : zSt} {q : kSt} {m : Nat} {d : Nat × Nat × Nat × tS × tS} {z : Unit} {a b : tT} (Ia : kE ks qs T h0 len cnt lo N S P A kk pp ee f a) (hw : rW τ T len cnt kk pp ee f) (hr : kR τ q) (ho : kOk cnt q) (hE : q.1.length + 5 * tH (.inner 16 d z a b) ≤ 400) (hM : q.2.1.length + (tW (.inner 16 d z a b)).length ≤ 700) (z1 : d.2.2.2.1.2 = []) (z2 : d.2.2.2.2.2 = []) (wa : tWf kk cnt a 0) (eb : b = .leaf) (ht : rTr pp τ lo N S P A (.inner 16 d z a b) 0 0 m) : k39 ks qs T h0 τ m (tD (.inner 16 d z a b)) (kT f pp ee (.inner 16 d z a b) q) := by
  have hE : q.1.length + 5 * (max (tH a) (tH b) + 1) ≤ 400 := hE
  have hM : q.2.1.length + (tW a ++ tW b : List Nat).length ≤ 700 := hM
  try simp only [List.length_cons, List.length_append, List.length_range', List.length_nil] at hM
  obtain ⟨t0, x, t5, ta⟩ := ht
  intro n hn
  have hn : max (tD a) (tD b) + 1 ≤ n := hn
  obtain ⟨n, rfl⟩ : ∃ n', n = n' + 1 := ⟨n - 1, by omega⟩
  have hcn := hw.cn
  have hm : m < 2100 := by have := t0.1.2; omega
  have h6 : τ.2.2.1 6 m = nI 16 := t0.2.1
  have h11 : τ.2.2.1 11 m = nI x := t5
  have A0 : q.1 = q.1 := rfl
  have L0 : q.1.length = q.1.length := rfl
  have M0 : q.2.1.length = q.2.1.length := rfl
  have F0 : kFm τ τ := kFm.rf τ
  have hq0 : q = q := rfl
  obtain ⟨s1, e1, r1, g1⟩ : ∃ τ', zF h0 qs ks T (n + 5) 39 [.ref h0, .int (nI x)] τ = some (none, τ') ∧ kR τ' (kT f pp ee a q) ∧ kFm τ τ' := Ia τ q x (F0.rw hw) hr ho (by omega) (by omega) wa (ta.fm F0) n (by omega)
  obtain ⟨q1, hq1⟩ : ∃ x, x = kT f pp ee a q := ⟨_, rfl⟩
  have O1 : kOk cnt q1 := by rw [hq1]; exact ho.tr (kT_12 a q) (tWf_tW a 0 wa) (by omega)
  have A1 : q1.1 = q.1 := by rw [hq1]; exact (kT_12 _ _).1.trans A0
  have M1 : q1.2.1.length = q.2.1.length + (tW a).length := by rw [hq1, (kT_12 _ _).2, List.length_append, M0]
  rw [← hq1] at r1
  have L1 : q1.1.length = q.1.length + 0 := by rw [A1]; simp
  have F1 : kFm τ s1 := F0.tr g1
  have W1 := F1.rows m
  have K := r1.bk (l := q.1) (r := []) (A1.trans (List.append_nil _).symm)
  refine ⟨zI s1 51 (nI q.1.length), ?_, ?_, F1.tr K.2⟩
  · rw [zE_namesOf]
    unfold b_namesOf
    simp only [zgd, zin_n hm (by decide), if_true, nI_clamp (show m < 2 ^ 31 by omega), h6]
    rw [if_neg (by decide), if_neg (by decide), if_neg (by decide), if_neg (by decide), if_neg (by decide), if_neg (by decide), if_neg (by decide), if_neg (by decide), if_neg (by decide), if_neg (by decide), if_neg (by decide), if_neg (by decide), if_neg (by decide), if_neg (by decide), if_neg (by decide), if_pos (by decide)]
    simp only [h11, W1.1, W1.2.1, W1.2.2.1, W1.2.2.2, e1, zcv, j_namesOf_596, zlet, hr.2.1.1]
  · have E : kT f pp ee (.inner 16 d z a b) q = kBk q.1 q1 := by
      have Z : kBk q.1 q1 = q1 := by rw [← A1]; rfl
      rw [Z, hq1]; show kT f pp ee b (kT f pp ee a (kPs f pp ee d.2.2.2.2.2 (kPs f pp ee d.2.2.2.1.2 q))) = _; rw [z1, z2, eb]; rfl
    rw [E]; exact K.1
theorem nm_18 (hT : 2110 ≤ T) (hN : N ≤ 2100) (hS : S ≤ 2100) (hP : P ≤ 2100) {τ : zSt} {q : kSt} {m : Nat} {d : Nat × Nat × Nat × tS × tS} {z : Unit} {a b : tT} (hw : rW τ T len cnt kk pp ee f) (hr : kR τ q) (ho : kOk cnt q) (hE : q.1.length + 5 * tH (.inner 18 d z a b) ≤ 400) (hM : q.2.1.length + (tW (.inner 18 d z a b)).length ≤ 700) (w1 : d.2.1 < cnt) (p1 : pOk cnt d.2.2.2.1.2) (ht : rTr pp τ lo N S P A (.inner 18 d z a b) 0 0 m) : k39 ks qs T h0 τ m (tD (.inner 18 d z a b)) (kT f pp ee (.inner 18 d z a b) q) := by
  have hE : q.1.length + 5 * (max (tH a) (tH b) + 1) ≤ 400 := hE
  have hM : q.2.1.length + ([] : List Nat).length ≤ 700 := hM
  try simp only [List.length_cons, List.length_append, List.length_range', List.length_nil] at hM
  obtain ⟨t0, t3, x, t4, c1⟩ := ht
  intro n hn
  have hn : max (tD a) (tD b) + 1 ≤ n := hn
  obtain ⟨n, rfl⟩ : ∃ n', n = n' + 1 := ⟨n - 1, by omega⟩
  have hcn := hw.cn
  have hm : m < 2100 := by have := t0.1.2; omega
  have h6 : τ.2.2.1 6 m = nI 18 := t0.2.1
  have h9 : τ.2.2.1 9 m = nI d.2.1 := t3
  have h10 : τ.2.2.1 10 m = nI x := t4
  have A0 : q.1 = q.1 := rfl
  have L0 : q.1.length = q.1.length := rfl
  have M0 : q.2.1.length = q.2.1.length := rfl
  have F0 : kFm τ τ := kFm.rf τ
  have hq0 : q = q := rfl
  obtain ⟨s1, e1, r1, g1⟩ : ∃ τ', zF h0 qs ks T (n + 5) 36 [.ref h0, .int (nI x)] τ = some (none, τ') ∧ kR τ' (kPs f pp ee d.2.2.2.1.2 q) ∧ kFm τ τ' := r_nsum (n := n + 2) (by omega) hS hP (F0.rw hw) hr ho (by omega) p1 (c1.fm F0)
  obtain ⟨q1, hq1⟩ : ∃ x, x = kPs f pp ee d.2.2.2.1.2 q := ⟨_, rfl⟩
  have O1 : kOk cnt q1 := by rw [hq1]; exact ho.of (kPs_12 _ _)
  have A1 : q1.1 = q.1 := by rw [hq1]; exact (kPs_12 _ _).1.trans A0
  have M1 : q1.2.1.length = q.2.1.length := by rw [hq1]; exact (congrArg List.length (kPs_12 _ _).2).trans M0
  rw [← hq1] at r1
  have L1 : q1.1.length = q.1.length + 0 := by rw [A1]; simp
  have F1 : kFm τ s1 := F0.tr g1
  have W1 := F1.rows m
  obtain ⟨s2, e2, r2, g2⟩ : ∃ τ', zF h0 qs ks T (n + 5) 35 [.ref h0, .int (nI (d.2.1))] s1 = some (none, τ') ∧ kR τ' (kUse f pp ee (d.2.1) q1) ∧ kFm s1 τ' := r_uses (n := n + 3) (by omega) (F1.rw hw) r1 O1 (by omega) (by omega)
  obtain ⟨q2, hq2⟩ : ∃ x, x = kUse f pp ee (d.2.1) q1 := ⟨_, rfl⟩
  have O2 : kOk cnt q2 := by rw [hq2]; exact O1.of (kUse_12 _ _)
  have A2 : q2.1 = q.1 := by rw [hq2]; exact (kUse_12 _ _).1.trans A1
  have M2 : q2.2.1.length = q.2.1.length := by rw [hq2]; exact (congrArg List.length (kUse_12 _ _).2).trans M1
  rw [← hq2] at r2
  have L2 : q2.1.length = q.1.length + 0 := by rw [A2]; simp
  have F2 : kFm τ s2 := F1.tr g2
  have W2 := F2.rows m
  have K := r2.bk (l := q.1) (r := []) (A2.trans (List.append_nil _).symm)
  refine ⟨zI s2 51 (nI q.1.length), ?_, ?_, F2.tr K.2⟩
  · rw [zE_namesOf]
    unfold b_namesOf
    simp only [zgd, zin_n hm (by decide), if_true, nI_clamp (show m < 2 ^ 31 by omega), h6]
    rw [if_neg (by decide), if_neg (by decide), if_neg (by decide), if_neg (by decide), if_neg (by decide), if_neg (by decide), if_neg (by decide), if_neg (by decide), if_neg (by decide), if_neg (by decide), if_neg (by decide), if_neg (by decide), if_neg (by decide), if_neg (by decide), if_neg (by decide), if_neg (by decide), if_neg (by decide), if_pos (by decide)]
    simp only [h9, h10, W1.1, W1.2.1, W1.2.2.1, W1.2.2.2, W2.1, W2.2.1, W2.2.2.1, W2.2.2.2, e1, zcv, e2, j_namesOf_596, zlet, hr.2.1.1]
  · have E : kT f pp ee (.inner 18 d z a b) q = kBk q.1 q2 := by
      have Z : kBk q.1 q2 = q2 := by rw [← A2]; rfl
      rw [Z, hq2, hq1]; rfl
    rw [E]; exact K.1
theorem nm_19 (hT : 2110 ≤ T) (hN : N ≤ 2100) (hS : S ≤ 2100) (hP : P ≤ 2100) {τ : zSt} {q : kSt} {m : Nat} {d : Nat × Nat × Nat × tS × tS} {z : Unit} {a b : tT} (Ia : kE ks qs T h0 len cnt lo N S P A kk pp ee f a) (Ib : kE ks qs T h0 len cnt lo N S P A kk pp ee f b) (hw : rW τ T len cnt kk pp ee f) (hr : kR τ q) (ho : kOk cnt q) (hE : q.1.length + 5 * tH (.inner 19 d z a b) ≤ 400) (hM : q.2.1.length + (tW (.inner 19 d z a b)).length ≤ 700) (w1 : d.1 + 1 < cnt) (w2 : d.2.1 + 1 < cnt) (wa : tWf kk cnt a 0) (wb : tWf kk cnt b 0) (ht : rTr pp τ lo N S P A (.inner 19 d z a b) 0 0 m) : k39 ks qs T h0 τ m (tD (.inner 19 d z a b)) (kT f pp ee (.inner 19 d z a b) q) := by
  have hE : q.1.length + 5 * (max (tH a) (tH b) + 1) ≤ 400 := hE
  have hM : q.2.1.length + (tW a ++ ([d.2.1, d.2.1 + 1] ++ tW b) : List Nat).length ≤ 700 := hM
  try simp only [List.length_cons, List.length_append, List.length_range', List.length_nil] at hM
  obtain ⟨t0, ⟨t3, t4⟩, x, y, ⟨t5, t6⟩, ta, tb⟩ := ht
  intro n hn
  have hn : max (tD a) (tD b) + 1 ≤ n := hn
  obtain ⟨n, rfl⟩ : ∃ n', n = n' + 1 := ⟨n - 1, by omega⟩
  have hcn := hw.cn
  have hm : m < 2100 := by have := t0.1.2; omega
  have h6 : τ.2.2.1 6 m = nI 19 := t0.2.1
  have h9 : τ.2.2.1 9 m = nI (d.1 + 1) := t3
  have h10 : τ.2.2.1 10 m = nI d.2.1 := t4
  have h11 : τ.2.2.1 11 m = nI x := t5
  have h12 : τ.2.2.1 12 m = nI y := t6
  have A0 : q.1 = q.1 := rfl
  have L0 : q.1.length = q.1.length := rfl
  have M0 : q.2.1.length = q.2.1.length := rfl
  have F0 : kFm τ τ := kFm.rf τ
  have hq0 : q = q := rfl
  obtain ⟨s1, e1, r1, g1⟩ : ∃ τ', zF h0 qs ks T (n + 5) 35 [.ref h0, .int (nI (d.1 + 1))] τ = some (none, τ') ∧ kR τ' (kUse f pp ee (d.1 + 1) q) ∧ kFm τ τ' := r_uses (n := n + 3) (by omega) (F0.rw hw) hr ho (by omega) (by omega)
  obtain ⟨q1, hq1⟩ : ∃ x, x = kUse f pp ee (d.1 + 1) q := ⟨_, rfl⟩
  have O1 : kOk cnt q1 := by rw [hq1]; exact ho.of (kUse_12 _ _)
  have A1 : q1.1 = q.1 := by rw [hq1]; exact (kUse_12 _ _).1.trans A0
  have M1 : q1.2.1.length = q.2.1.length := by rw [hq1]; exact (congrArg List.length (kUse_12 _ _).2).trans M0
  rw [← hq1] at r1
  have L1 : q1.1.length = q.1.length + 0 := by rw [A1]; simp
  have F1 : kFm τ s1 := F0.tr g1
  have W1 := F1.rows m
  obtain ⟨s2, e2, r2, g2⟩ : ∃ τ', zF h0 qs ks T (n + 5) 39 [.ref h0, .int (nI x)] s1 = some (none, τ') ∧ kR τ' (kT f pp ee a q1) ∧ kFm s1 τ' := Ia s1 q1 x (F1.rw hw) r1 O1 (by omega) (by omega) wa (ta.fm F1) n (by omega)
  obtain ⟨q2, hq2⟩ : ∃ x, x = kT f pp ee a q1 := ⟨_, rfl⟩
  have O2 : kOk cnt q2 := by rw [hq2]; exact O1.tr (kT_12 a q1) (tWf_tW a 0 wa) (by omega)
  have A2 : q2.1 = q.1 := by rw [hq2]; exact (kT_12 _ _).1.trans A1
  have M2 : q2.2.1.length = q.2.1.length + (tW a).length := by rw [hq2, (kT_12 _ _).2, List.length_append, M1]
  rw [← hq2] at r2
  have L2 : q2.1.length = q.1.length + 0 := by rw [A2]; simp
  have F2 : kFm τ s2 := F1.tr g2
  have W2 := F2.rows m
  obtain ⟨s3, e3, r3, g3⟩ : ∃ τ', zF h0 qs ks T (n + 5) 33 [.ref h0, .int (nI (d.2.1))] s2 = some (some (.int (nI q2.2.1.length)), τ') ∧ kR τ' (kTell (d.2.1) q2) ∧ kFm s2 τ' := r_tell (n := n + 4) (F2.rw hw) r2 (by omega) (by omega)
  obtain ⟨q3, hq3⟩ : ∃ x, x = kTell (d.2.1) q2 := ⟨_, rfl⟩
  have O3 : kOk cnt q3 := by rw [hq3]; exact O2.tell (by omega) (by omega)
  have A3 : q3.1 = q.1 := by rw [hq3]; exact A2
  have M3 : q3.2.1.length = q.2.1.length + (tW a).length + 1 := by rw [hq3]; show (q2.2.1 ++ [d.2.1]).length = _; rw [List.length_append, M2]; rfl
  rw [← hq3] at r3
  have L3 : q3.1.length = q.1.length + 0 := by rw [A3]; simp
  have F3 : kFm τ s3 := F2.tr g3
  have W3 := F3.rows m
  obtain ⟨s4, e4, r4, g4⟩ : ∃ τ', zF h0 qs ks T (n + 5) 34 [.ref h0, .int (nI (q2.2.1.length))] s3 = some (none, τ') ∧ kR τ' (kCnt f pp ee (q2.2.1.length) q3) ∧ kFm s3 τ' := r_counts (n := n + 3) (by omega) (F3.rw hw) r3 O3 (by omega) (by omega)
  obtain ⟨q4, hq4⟩ : ∃ x, x = kCnt f pp ee (q2.2.1.length) q3 := ⟨_, rfl⟩
  have O4 : kOk cnt q4 := by rw [hq4]; exact O3.app (by omega) (kCnt_12 _ _)
  have A4 : q4.1 = q.1 ++ [q2.2.1.length] := by rw [hq4, (kCnt_12 _ _).1, A3]
  have M4 : q4.2.1.length = q.2.1.length + (tW a).length + 1 := by rw [hq4, (kCnt_12 _ _).2]; exact M3
  rw [← hq4] at r4
  have L4 : q4.1.length = q.1.length + 1 := by rw [A4]; simp [Nat.add_assoc]
  have F4 : kFm τ s4 := F3.tr g4
  have W4 := F4.rows m
  obtain ⟨s5, e5, r5, g5⟩ : ∃ τ', zF h0 qs ks T (n + 5) 33 [.ref h0, .int (nI (d.2.1 + 1))] s4 = some (some (.int (nI q4.2.1.length)), τ') ∧ kR τ' (kTell (d.2.1 + 1) q4) ∧ kFm s4 τ' := r_tell (n := n + 4) (F4.rw hw) r4 (by omega) (by omega)
  obtain ⟨q5, hq5⟩ : ∃ x, x = kTell (d.2.1 + 1) q4 := ⟨_, rfl⟩
  have O5 : kOk cnt q5 := by rw [hq5]; exact O4.tell (by omega) (by omega)
  have A5 : q5.1 = q.1 ++ [q2.2.1.length] := by rw [hq5]; exact A4
  have M5 : q5.2.1.length = q.2.1.length + (tW a).length + 1 + 1 := by rw [hq5]; show (q4.2.1 ++ [d.2.1 + 1]).length = _; rw [List.length_append, M4]; rfl
  rw [← hq5] at r5
  have L5 : q5.1.length = q.1.length + 1 := by rw [A5]; simp [Nat.add_assoc]
  have F5 : kFm τ s5 := F4.tr g5
  have W5 := F5.rows m
  obtain ⟨s6, e6, r6, g6⟩ : ∃ τ', zF h0 qs ks T (n + 5) 34 [.ref h0, .int (nI (q4.2.1.length))] s5 = some (none, τ') ∧ kR τ' (kCnt f pp ee (q4.2.1.length) q5) ∧ kFm s5 τ' := r_counts (n := n + 3) (by omega) (F5.rw hw) r5 O5 (by omega) (by omega)
  obtain ⟨q6, hq6⟩ : ∃ x, x = kCnt f pp ee (q4.2.1.length) q5 := ⟨_, rfl⟩
  have O6 : kOk cnt q6 := by rw [hq6]; exact O5.app (by omega) (kCnt_12 _ _)
  have A6 : q6.1 = (q.1 ++ [q2.2.1.length]) ++ [q4.2.1.length] := by rw [hq6, (kCnt_12 _ _).1, A5]
  have M6 : q6.2.1.length = q.2.1.length + (tW a).length + 1 + 1 := by rw [hq6, (kCnt_12 _ _).2]; exact M5
  rw [← hq6] at r6
  have L6 : q6.1.length = q.1.length + 2 := by rw [A6]; simp [Nat.add_assoc]
  have F6 : kFm τ s6 := F5.tr g6
  have W6 := F6.rows m
  obtain ⟨s7, e7, r7, g7⟩ : ∃ τ', zF h0 qs ks T (n + 5) 39 [.ref h0, .int (nI y)] s6 = some (none, τ') ∧ kR τ' (kT f pp ee b q6) ∧ kFm s6 τ' := Ib s6 q6 y (F6.rw hw) r6 O6 (by omega) (by omega) wb (tb.fm F6) n (by omega)
  obtain ⟨q7, hq7⟩ : ∃ x, x = kT f pp ee b q6 := ⟨_, rfl⟩
  have O7 : kOk cnt q7 := by rw [hq7]; exact O6.tr (kT_12 b q6) (tWf_tW b 0 wb) (by omega)
  have A7 : q7.1 = (q.1 ++ [q2.2.1.length]) ++ [q4.2.1.length] := by rw [hq7]; exact (kT_12 _ _).1.trans A6
  have M7 : q7.2.1.length = q.2.1.length + (tW a).length + 1 + 1 + (tW b).length := by rw [hq7, (kT_12 _ _).2, List.length_append, M6]
  rw [← hq7] at r7
  have L7 : q7.1.length = q.1.length + 2 := by rw [A7]; simp [Nat.add_assoc]
  have F7 : kFm τ s7 := F6.tr g7
  have W7 := F7.rows m
  have K := r7.bk (l := q.1) (r := _) (A7.trans (List.append_assoc _ _ _))
  refine ⟨zI s7 51 (nI q.1.length), ?_, ?_, F7.tr K.2⟩
  · rw [zE_namesOf]
    unfold b_namesOf
    simp only [zgd, zin_n hm (by decide), if_true, nI_clamp (show m < 2 ^ 31 by omega), h6]
    rw [if_neg (by decide), if_neg (by decide), if_neg (by decide), if_neg (by decide), if_neg (by decide), if_neg (by decide), if_neg (by decide), if_neg (by decide), if_neg (by decide), if_neg (by decide), if_neg (by decide), if_neg (by decide), if_neg (by decide), if_neg (by decide), if_neg (by decide), if_neg (by decide), if_neg (by decide), if_neg (by decide), if_pos (by decide)]
    simp only [h9, h10, h11, h12, W1.1, W1.2.1, W1.2.2.1, W1.2.2.2, W2.1, W2.2.1, W2.2.2.1, W2.2.2.2, W3.1, W3.2.1, W3.2.2.1, W3.2.2.2, W4.1, W4.2.1, W4.2.2.1, W4.2.2.2, W5.1, W5.2.1, W5.2.2.1, W5.2.2.2, W6.1, W6.2.1, W6.2.2.1, W6.2.2.2, W7.1, W7.2.1, W7.2.2.1, W7.2.2.2, e1, zcv, e2, e3, zci, e4, e5, e6, e7, (show nI d.2.1 + 1 = nI (d.2.1 + 1) from nI_add _ 1 ▸ rfl), j_namesOf_596, zlet, hr.2.1.1]
  · have E : kT f pp ee (.inner 19 d z a b) q = kBk q.1 q7 := by
      rw [hq7, hq6, hq5, hq4, hq3, hq2, hq1]; rfl
    rw [E]; exact K.1
end KNO
