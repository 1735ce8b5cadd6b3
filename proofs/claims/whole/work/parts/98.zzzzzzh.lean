/-! E's as they are read: one induction for all that is to be said of them -/
section EIN
variable {kk : Nat → Int32} {T : Nat}
theorem aIs_t {c i : Nat} (h : aIs kk c i = true) : kk i = nI c := of_decide_eq_true h
theorem aMs_k {c i j : Nat} {u : Unit} (h : aMs kk c i = .inr (u, j)) : kk i = nI c ∧ j = i + 1 := ⟨aIs_t (aMs_inr h).1, (aMs_inr h).2⟩
theorem aPs_k : ∀ (q i : Nat), aIs kk 1 i = true → 1 ≤ aPs kk (q + 1) i
  | q, i, h => by unfold aPs; rw [if_pos h]; omega
set_option maxHeartbeats 1000000 in
theorem aE_ind {P : Nat → Nat → tT → Nat → Prop} {Q : Nat → Nat → Nat → tT → Nat → Prop}
    (h1 : ∀ k i a l b j, kk i = nI 212 → kk (i + 1) = nI 1 → P k (i + 3) a l → kk l = nI 208 → P k (l + 1) b j → P (k + 1) i (tN 1 i 0 0 s0 s0 a b) j)
    (h2 : ∀ k i q a l b j, kk i = nI 212 → kk (i + 1) = nI 219 → kk (i + 2) = nI 1 → 1 ≤ q → q ≤ 4 → (∀ w, w < q → kk (i + 3 + w) = nI 1) → P k (i + 3 + q + 1) a l → kk l = nI 208 → P k (l + 1) b j → P (k + 1) i (tN 2 i q 0 s0 s0 a b) j)
    (h3 : ∀ k i a j, kk i = nI 206 → kk (i + 1) = nI 1 → kk (i + 2) = nI 304 → P k (i + 3) a j → P (k + 1) i (tN 3 i 0 0 s0 s0 a tZ) j)
    (h4 : ∀ k i c l a m b j, kk i = nI 207 → aEi kk T (aSi kk T (k + 1)) (i + 1) = .inr (c, l) → kk l = nI 222 → P k (l + 1) a m → kk m = nI 204 → P k (m + 1) b j → P (k + 1) i (tN 4 i 0 0 s0 s0 c (tN 31 0 0 0 s0 s0 a b)) j)
    (h5 : ∀ k i c l a j, kk i = nI 201 → aEi kk T (aSi kk T (k + 1)) (i + 1) = .inr (c, l) → kk l = nI 59 → P k (l + 1) a j → P (k + 1) i (tN 5 i 0 0 s0 s0 c a) j)
    (h6 : ∀ k i S l S' m a j, kk i = nI 220 → kk (i + 1) = nI 1 → kk (i + 2) = nI 91 → aSm kk T (i + 3) = .inr (S, l) → kk l = nI 93 → kk (l + 1) = nI 61 → aSm kk T (l + 2) = .inr (S', m) → kk m = nI 59 → P k (m + 1) a j → P (k + 1) i (tN 6 i 0 0 S S' a tZ) j)
    (h7 : ∀ k i S j, kk i = nI 215 → aSm kk T (i + 1) = .inr (S, j) → P (k + 1) i (tN 7 i 0 0 S s0 tZ tZ) j)
    (h8 : ∀ k i g, (kk i = nI 223 ∧ g = 8) ∨ (kk i = nI 205 ∧ g = 9) ∨ (kk i = nI 216 ∧ g = 17) → P (k + 1) i (tN g i 0 0 s0 s0 tZ tZ) (i + 1))
    (h10 : ∀ k i S j, ¬ kk i = nI 40 → aSm kk T i = .inr (S, j) → P (k + 1) i (tN 10 i 0 0 S s0 tZ tZ) j)
    (h11 : ∀ k i g S l S' j, (kk l = nI 42 ∧ g = 11) ∨ (kk l = nI 47 ∧ g = 12) ∨ (kk l = nI 37 ∧ g = 13) → aSm kk T i = .inr (S, l) → aSm kk T (l + 1) = .inr (S', j) → P (k + 1) i (tN g i l 0 S S' tZ tZ) j)
    (h14 : ∀ k i S l, kk i = nI 1 → kk (i + 1) = nI 91 → aSm kk T (i + 2) = .inr (S, l) → kk l = nI 93 → P (k + 1) i (tN 14 i 0 0 S s0 tZ tZ) (l + 1))
    (h15 : ∀ k i as j, kk i = nI 1 → aAr kk (i + 1) = true → Q k 4 (i + 1) as j → P (k + 1) i (tN 15 i 0 0 s0 s0 as tZ) j)
    (h16 : ∀ k i a l, kk i = nI 40 → P k (i + 1) a l → kk l = nI 41 → P (k + 1) i (tN 16 i 0 0 s0 s0 a tZ) (l + 1))
    (h18 : ∀ k i S l, kk i = nI 203 → aSm kk T (i + 1) = .inr (S, l) → kk l = nI 1 → P (k + 1) i (tN 18 i l 0 S s0 tZ tZ) (l + 1))
    (h19 : ∀ k i a l b j, kk i = nI 214 → kk (i + 1) = nI 1 → P k (i + 5) a l → kk l = nI 59 → kk (l + 1) = nI 1 → kk (l + 2) = nI 1 → kk (l + 3) = nI 304 → P k (l + 4) b j → P (k + 1) i (tN 19 i (l + 1) 0 s0 s0 a b) j)
    (q0 : ∀ k q i, aAr kk i = false → Q k q i tZ i)
    (q1 : ∀ k q i b j, aAr kk i = true → ¬ kk i = nI 40 → (kk i = nI 2 ∨ kk i = nI 1) → Q k q (i + 1) b j → Q k (q + 1) i (tN 33 i 0 0 (i, [(if aIs kk 2 i = true then 0 else 1, false, i)]) s0 tZ b) j)
    (q2 : ∀ k q i S l b j, kk i = nI 40 → ¬ kk (i + 1) = nI 206 → aSm kk T (i + 1) = .inr (S, l) → kk l = nI 41 → Q k q (l + 1) b j → Q k (q + 1) i (tN 33 i 1 0 S s0 tZ b) j)
    (q3 : ∀ k q i e l b j, kk i = nI 40 → kk (i + 1) = nI 206 → P k (i + 1) e l → kk l = nI 41 → Q k q (l + 1) b j → Q k (q + 1) i (tN 34 i 0 0 s0 s0 e b) j)
    (q5 : ∀ k q i v b j, (kk i = nI 223 ∧ v = 1) ∨ (kk i = nI 205 ∧ v = 0) → Q k q (i + 1) b j → Q k (q + 1) i (tN 35 i v 0 s0 s0 tZ b) j) :
    ∀ (k i : Nat) (t : tT) (j : Nat), aE kk T k i = .inr (t, j) → P k i t j
  | 0, i, t, j, h => by unfold aE at h; cases h
  | k + 1, i, t, j, h => by
    have IH := aE_ind h1 h2 h3 h4 h5 h6 h7 h8 h10 h11 h14 h15 h16 h18 h19 q0 q1 q2 q3 q5 k
    have args : ∀ (q i : Nat) (t : tT) (j : Nat), aAs kk T (aE kk T k) q i = .inr (t, j) → Q k q i t j := by
      intro q
      induction q with
      | zero =>
        intro i t j h
        unfold aAs at h
        split at h
        · cases h
        · rename_i hr
          injection h with h; injection h with h3 h4; subst h3; subst h4
          exact q0 k 0 i (Bool.eq_false_iff.mpr hr)
      | succ q IQ =>
        intro i t j h
        unfold aAs at h
        split at h
        · rename_i hr
          obtain ⟨a, j1, e1, h⟩ := on_inr h
          obtain ⟨as, j2, e2, h⟩ := on_inr h
          injection h with h; injection h with e3 e4; subst e3; subst e4
          have I2 := IQ _ _ _ e2
          unfold aA1 at e1
          split at e1
          · rename_i c
            injection e1 with e1; injection e1 with e3 e4; subst e3; subst e4
            exact q5 k q i 1 as j2 (Or.inl ⟨aIs_t c, rfl⟩) I2
          · rename_i n1
            split at e1
            · rename_i c
              injection e1 with e1; injection e1 with e3 e4; subst e3; subst e4
              exact q5 k q i 0 as j2 (Or.inr ⟨aIs_t c, rfl⟩) I2
            · rename_i n2
              split at e1
              · rename_i c
                split at e1
                · rename_i c2
                  obtain ⟨e, l, f1, e1⟩ := on_inr e1
                  obtain ⟨_, l2, f2, e1⟩ := on_inr e1
                  injection e1 with e1; injection e1 with e3 e4; subst e3; subst e4
                  obtain ⟨w1, rfl⟩ := aMs_k f2
                  exact q3 k q i e l as j2 (aIs_t c) (aIs_t c2) (IH _ _ _ f1) w1 I2
                · rename_i c2
                  obtain ⟨S, l, f1, e1⟩ := on_inr e1
                  obtain ⟨_, l2, f2, e1⟩ := on_inr e1
                  injection e1 with e1; injection e1 with e3 e4; subst e3; subst e4
                  obtain ⟨w1, rfl⟩ := aMs_k f2
                  exact q2 k q i S l as j2 (aIs_t c) (fun z => c2 (decide_eq_true z)) f1 w1 I2
              · rename_i n3
                injection e1 with e1; injection e1 with e3 e4; subst e3; subst e4
                refine q1 k q i as j2 hr (fun z => n3 (decide_eq_true z)) ?_ I2
                unfold aAr at hr
                rw [Bool.eq_false_iff.mpr n1, Bool.eq_false_iff.mpr n2, Bool.eq_false_iff.mpr n3, Bool.or_false, Bool.or_false, Bool.or_false, Bool.or_eq_true] at hr
                exact hr.elim (fun z => Or.inr (aIs_t z)) (fun z => Or.inl (aIs_t z))
        · rename_i hr
          injection h with h; injection h with h3 h4; subst h3; subst h4
          exact q0 k (q + 1) i (Bool.eq_false_iff.mpr hr)
    by_cases c212 : kk i = nI 212
    · rw [aE_212 c212] at h
      split at h
      · rename_i c219
        unfold aRc at h
        obtain ⟨_, i1, e1, h⟩ := on_inr h
        obtain ⟨w1, rfl⟩ := aMs_k e1
        by_cases cn : aIs kk 1 (i + 2 + 1) = true
        · rw [if_pos cn] at h
          unfold aLt at h
          obtain ⟨_, i1, e1, h⟩ := on_inr h
          obtain ⟨a, i2, e2, h⟩ := on_inr h
          obtain ⟨_, i3, e3, h⟩ := on_inr h
          obtain ⟨b, i4, e4, h⟩ := on_inr h
          injection h with h; injection h with e5 e6; subst e5; subst e6
          obtain ⟨w2, rfl⟩ := aMs_k e1
          obtain ⟨w3, rfl⟩ := aMs_k e3
          have pq := aPs_rd (kk := kk) 4 (i + 3)
          exact h2 k i _ a i2 b i4 c212 (aIs_t c219) w1 (aPs_k 3 (i + 3) cn) pq.1 (fun w hw => aIs_t (pq.2 w hw)) (IH _ _ _ e2) w3 (IH _ _ _ e4)
        · rw [if_neg cn] at h; cases h
      · obtain ⟨_, i1, e1, h⟩ := on_inr h
        obtain ⟨w1, rfl⟩ := aMs_k e1
        unfold aLt at h
        obtain ⟨_, i1, e1, h⟩ := on_inr h
        obtain ⟨a, i2, e2, h⟩ := on_inr h
        obtain ⟨_, i3, e3, h⟩ := on_inr h
        obtain ⟨b, i4, e4, h⟩ := on_inr h
        injection h with h; injection h with e5 e6; subst e5; subst e6
        obtain ⟨w2, rfl⟩ := aMs_k e1
        obtain ⟨w3, rfl⟩ := aMs_k e3
        exact h1 k i a i2 b i4 c212 w1 (IH _ _ _ e2) w3 (IH _ _ _ e4)
    by_cases c206 : kk i = nI 206
    · rw [aE_206 c206] at h
      unfold aFn at h
      obtain ⟨_, i1, e1, h⟩ := on_inr h
      obtain ⟨_, i2, e2, h⟩ := on_inr h
      obtain ⟨a, i3, e3, h⟩ := on_inr h
      injection h with h; injection h with e5 e6; subst e5; subst e6
      obtain ⟨w1, rfl⟩ := aMs_k e1
      obtain ⟨w2, rfl⟩ := aMs_k e2
      exact h3 k i a i3 c206 w1 w2 (IH _ _ _ e3)
    by_cases c207 : kk i = nI 207
    · rw [aE_207 c207] at h
      unfold aIf at h
      obtain ⟨c, i1, e1, h⟩ := on_inr h
      obtain ⟨_, i2, e2, h⟩ := on_inr h
      obtain ⟨a, i3, e3, h⟩ := on_inr h
      obtain ⟨_, i4, e4, h⟩ := on_inr h
      obtain ⟨b, i5, e5, h⟩ := on_inr h
      injection h with h; injection h with e6 e7; subst e6; subst e7
      obtain ⟨w2, rfl⟩ := aMs_k e2
      obtain ⟨w4, rfl⟩ := aMs_k e4
      exact h4 k i c i1 a i3 b i5 c207 e1 w2 (IH _ _ _ e3) w4 (IH _ _ _ e5)
    by_cases c201 : kk i = nI 201
    · rw [aE_201 c201] at h
      unfold aAt at h
      obtain ⟨c, i1, e1, h⟩ := on_inr h
      obtain ⟨_, i2, e2, h⟩ := on_inr h
      obtain ⟨a, i3, e3, h⟩ := on_inr h
      injection h with h; injection h with e6 e7; subst e6; subst e7
      obtain ⟨w2, rfl⟩ := aMs_k e2
      exact h5 k i c i1 a i3 c201 e1 w2 (IH _ _ _ e3)
    by_cases c220 : kk i = nI 220
    · rw [aE_220 c220] at h
      unfold aSe at h
      obtain ⟨_, i1, e1, h⟩ := on_inr h
      obtain ⟨_, i2, e2, h⟩ := on_inr h
      obtain ⟨S, i3, e3, h⟩ := on_inr h
      obtain ⟨_, i4, e4, h⟩ := on_inr h
      obtain ⟨_, i5, e5, h⟩ := on_inr h
      obtain ⟨S', i6, e6, h⟩ := on_inr h
      obtain ⟨_, i7, e7, h⟩ := on_inr h
      obtain ⟨a, i8, e8, h⟩ := on_inr h
      injection h with h; injection h with f1 f2; subst f1; subst f2
      obtain ⟨w1, rfl⟩ := aMs_k e1
      obtain ⟨w2, rfl⟩ := aMs_k e2
      obtain ⟨w4, rfl⟩ := aMs_k e4
      obtain ⟨w5, rfl⟩ := aMs_k e5
      obtain ⟨w7, rfl⟩ := aMs_k e7
      exact h6 k i S i3 S' i6 a i8 c220 w1 w2 e3 w4 w5 e6 w7 (IH _ _ _ e8)
    by_cases c215 : kk i = nI 215
    · rw [aE_215 c215] at h
      obtain ⟨S, i1, e1, h⟩ := on_inr h
      injection h with h; injection h with f1 f2; subst f1; subst f2
      exact h7 k i S i1 c215 e1
    by_cases c216 : kk i = nI 216
    · rw [aE_216 c216] at h
      injection h with h; injection h with f1 f2; subst f1; subst f2
      exact h8 k i 17 (Or.inr (Or.inr ⟨c216, rfl⟩))
    by_cases c203 : kk i = nI 203
    · rw [aE_203 c203] at h
      obtain ⟨S, i1, e1, h⟩ := on_inr h
      obtain ⟨_, i2, e2, h⟩ := on_inr h
      injection h with h; injection h with f1 f2; subst f1; subst f2
      obtain ⟨w2, rfl⟩ := aMs_k e2
      exact h18 k i S i1 c203 e1 w2
    by_cases c214 : kk i = nI 214
    · rw [aE_214 c214] at h
      unfold aMt at h
      obtain ⟨_, i1, e1, h⟩ := on_inr h
      obtain ⟨_, i2, e2, h⟩ := on_inr h
      obtain ⟨_, i3, e3, h⟩ := on_inr h
      obtain ⟨_, i4, e4, h⟩ := on_inr h
      obtain ⟨a, i5, e5, h⟩ := on_inr h
      obtain ⟨_, i6, e6, h⟩ := on_inr h
      obtain ⟨_, i7, e7, h⟩ := on_inr h
      obtain ⟨_, i8, e8, h⟩ := on_inr h
      obtain ⟨_, i9, e9, h⟩ := on_inr h
      obtain ⟨b, i10, e10, h⟩ := on_inr h
      injection h with h; injection h with f1 f2; subst f1; subst f2
      obtain ⟨w1, rfl⟩ := aMs_k e1
      obtain ⟨w2, rfl⟩ := aMs_k e2
      obtain ⟨w3, rfl⟩ := aMs_k e3
      obtain ⟨w4, rfl⟩ := aMs_k e4
      obtain ⟨w6, rfl⟩ := aMs_k e6
      obtain ⟨w7, rfl⟩ := aMs_k e7
      obtain ⟨w8, rfl⟩ := aMs_k e8
      obtain ⟨w9, rfl⟩ := aMs_k e9
      exact h19 k i a i5 b i10 c214 w1 (IH _ _ _ e5) w6 w7 w8 w9 (IH _ _ _ e10)
    by_cases c223 : kk i = nI 223
    · rw [aE_223 c223] at h
      injection h with h; injection h with f1 f2; subst f1; subst f2
      exact h8 k i 8 (Or.inl ⟨c223, rfl⟩)
    by_cases c205 : kk i = nI 205
    · rw [aE_205 c205] at h
      injection h with h; injection h with f1 f2; subst f1; subst f2
      exact h8 k i 9 (Or.inr (Or.inl ⟨c205, rfl⟩))
    by_cases c40 : kk i = nI 40
    · rw [aE_40 c40] at h
      obtain ⟨a, i1, e1, h⟩ := on_inr h
      obtain ⟨_, i2, e2, h⟩ := on_inr h
      injection h with h; injection h with f1 f2; subst f1; subst f2
      obtain ⟨w2, rfl⟩ := aMs_k e2
      exact h16 k i a i1 c40 (IH _ _ _ e1) w2
    rw [aE_no c212 c206 c207 c201 c220 c215 c216 c203 c214 c223 c205 c40] at h
    unfold aOp at h
    split at h
    · rename_i c
      rw [Bool.and_eq_true] at c
      obtain ⟨S, j1, e1, h⟩ := on_inr h
      obtain ⟨_, j2, e2, h⟩ := on_inr h
      injection h with h; injection h with f1 f2; subst f1; subst f2
      obtain ⟨w2, rfl⟩ := aMs_k e2
      exact h14 k i S j1 (aIs_t c.1) (aIs_t c.2) e1 w2
    · split at h
      · rename_i c
        rw [Bool.and_eq_true] at c
        obtain ⟨as, j1, e1, h⟩ := on_inr h
        injection h with h; injection h with f1 f2; subst f1; subst f2
        exact h15 k i as j1 (aIs_t c.1) c.2 (args 4 _ _ _ e1)
      · unfold aOq at h
        obtain ⟨S, j1, e1, h⟩ := on_inr h
        split at h
        · rename_i c
          obtain ⟨S', j2, e2, h⟩ := on_inr h
          injection h with h; injection h with f1 f2; subst f1; subst f2
          exact h11 k i 11 S j1 S' j2 (Or.inl ⟨aIs_t c, rfl⟩) e1 e2
        · split at h
          · rename_i c
            obtain ⟨S', j2, e2, h⟩ := on_inr h
            injection h with h; injection h with f1 f2; subst f1; subst f2
            exact h11 k i 12 S j1 S' j2 (Or.inr (Or.inl ⟨aIs_t c, rfl⟩)) e1 e2
          · split at h
            · rename_i c
              obtain ⟨S', j2, e2, h⟩ := on_inr h
              injection h with h; injection h with f1 f2; subst f1; subst f2
              exact h11 k i 13 S j1 S' j2 (Or.inr (Or.inr ⟨aIs_t c, rfl⟩)) e1 e2
            · injection h with h; injection h with f1 f2; subst f1; subst f2
              exact h10 k i S j1 c40 e1
end EIN
