/-! the reference: namesOfCondition -/
section KRE
variable {ks : Nat → Nat} {qs : List Nat} {T h0 len cnt lo N S P A : Nat} {kk pp ee f : Nat → Int32}
theorem k37.le {τ : zSt} {m D D' : Nat} {q : kSt} (h : k37 ks qs T h0 τ m D q) (hd : D ≤ D') : k37 ks qs T h0 τ m D' q := fun n hn => h n (by omega)
theorem rTr.fm {τ υ : zSt} {t : tT} {gl m0 m : Nat} (h : rTr pp τ lo N S P A t gl m0 m) (g : kFm τ υ) : rTr pp υ lo N S P A t gl m0 m := rTr.keep (g.at lo N S P A) (Nat.le_refl _) (Nat.le_refl _) (Nat.le_refl _) (Nat.le_refl _) (Nat.le_refl _) t gl m0 m h
set_option maxHeartbeats 1000000 in
theorem r_ncond (hT : 2110 ≤ T) (hN : N ≤ 2100) (hS : S ≤ 2100) (hP : P ≤ 2100) (t : tT) :
    (∀ (τ : zSt) (q : kSt) (m : Nat), rW τ T len cnt kk pp ee f → kR τ q → kOk cnt q → q.1.length ≤ 400 → cWf cnt t false → rTr pp τ lo N S P A t 0 0 m → k37 ks qs T h0 τ m (kD t) (kCt f pp ee t q)) ∧
    (∀ (τ : zSt) (q : kSt) (gl m0 m D : Nat), (gl = 20 ∨ gl = 21) → rW τ T len cnt kk pp ee f → kOk cnt q → q.1.length ≤ 400 → cWf cnt t true → rTr pp τ lo N S P A t gl m0 m → k37 ks qs T h0 τ m0 D q → k37 ks qs T h0 τ m (max D (kH t) + kN t) (kCt f pp ee t q)) := by
  induction t with
  | leaf =>
    refine ⟨fun τ q m _ _ _ _ h _ => (by cases h), fun τ q gl m0 m D _ _ _ _ _ h hk => ?_⟩
    have e : m = m0 := h
    rw [e]
    exact hk.le (by show D ≤ max D 0 + 0; omega)
  | inner g d z a b Ia Ib =>
    refine ⟨fun τ q m hw hr ho hE h ht => ?_, fun τ q gl m0 m D hg hw ho hE h ht hk => ?_⟩
    · rcases h with ⟨h, _⟩ | ⟨_, h⟩
      · cases h
      rcases h with ⟨hg, wa, wb⟩ | ⟨rfl, wa, rfl⟩ | ⟨rfl, rfl, rfl⟩ | ⟨rfl, w1⟩ | ⟨rfl, w1, w2⟩
      · have go : ∀ m1 gl, (gl = 20 ∨ gl = 21) → rTr pp τ lo N S P A a 0 0 m1 → rTr pp τ lo N S P A b gl m1 m → k37 ks qs T h0 τ m (max (kD a) (kH b) + kN b) (kCt f pp ee b (kCt f pp ee a q)) := fun m1 gl hgl t1 t2 =>
          Ib.2 τ (kCt f pp ee a q) gl m1 m (kD a) hgl hw (ho.of (kCt_12 a q)) (by rw [(kCt_12 a q).1]; exact hE) wb t2 (Ia.1 τ q m1 hw hr ho hE wa t1)
        rcases hg with rfl | rfl
        · obtain ⟨m1, t1, t2⟩ := ht
          exact (go m1 20 (Or.inl rfl) t1 t2).le (by show max (kN a + kH a) (kH b) + kN b ≤ (kN a + kN b + 0) + (max (kH a) (kH b) + 0); omega)
        · obtain ⟨m1, t1, t2⟩ := ht
          exact (go m1 21 (Or.inr rfl) t1 t2).le (by show max (kN a + kH a) (kH b) + kN b ≤ (kN a + kN b + 0) + (max (kH a) (kH b) + 0); omega)
      · obtain ⟨t0, x, t1, t2⟩ := ht
        intro n hn
        have hn : (kN a + 0 + 0) + (max (kH a) 0 + 1) ≤ n := hn
        obtain ⟨n, rfl⟩ : ∃ n', n = n' + 1 := ⟨n - 1, by omega⟩
        obtain ⟨υ, u1, u2, u3⟩ := Ia.1 τ q x hw hr ho hE wa t2 n (by show kN a + kH a ≤ n; omega)
        have h6 : τ.2.2.1 6 m = nI 22 := t0.2.1
        have h9 : τ.2.2.1 9 m = nI x := t1
        rw [zE_namesOfCondition]
        unfold b_namesOfCondition
        simp only [zgd, zin_n (show m < 2100 by have := t0.1.2; omega) (by decide), if_true, nI_clamp (show m < 2 ^ 31 by have := t0.1.2; omega), h6, h9]
        rw [if_neg (by decide), if_neg (by decide), if_pos (by decide)]
        simp only [show n + 1 + 3 = n + 4 from by omega, u1, zcv]
        exact ⟨υ, rfl, u2, u3⟩
      · obtain ⟨t0, t1⟩ := ht
        intro n hn
        have h6 : τ.2.2.1 6 m = nI 23 := t0.2.1
        rw [zE_namesOfCondition]
        unfold b_namesOfCondition
        simp only [zgd, zin_n (show m < 2100 by have := t0.1.2; omega) (by decide), if_true, nI_clamp (show m < 2 ^ 31 by have := t0.1.2; omega), h6]
        rw [if_neg (by decide), if_neg (by decide), if_neg (by decide), if_pos (by decide)]
        exact ⟨τ, rfl, hr, kFm.rf τ⟩
      · obtain ⟨t0, t1⟩ := ht
        intro n hn
        have h6 : τ.2.2.1 6 m = nI 24 := t0.2.1
        have h9 : τ.2.2.1 9 m = nI d.1 := t1
        obtain ⟨υ, u1, u2, u3⟩ := r_uses (n := n + 1) (h0 := h0) (qs := qs) (ks := ks) (by omega) hw hr ho w1 hE
        rw [zE_namesOfCondition]
        unfold b_namesOfCondition
        simp only [zgd, zin_n (show m < 2100 by have := t0.1.2; omega) (by decide), if_true, nI_clamp (show m < 2 ^ 31 by have := t0.1.2; omega), h6, h9]
        rw [if_neg (by decide), if_neg (by decide), if_neg (by decide), if_neg (by decide), if_pos (by decide)]
        simp only [show n + 3 = n + 1 + 2 from by omega, u1, zcv]
        exact ⟨υ, rfl, u2, u3⟩
      · obtain ⟨t0, _, x, y, ⟨t1, t2⟩, s1, s2⟩ := ht
        intro n hn
        have h6 : τ.2.2.1 6 m = nI 25 := t0.2.1
        have h9 : τ.2.2.1 9 m = nI x := t1
        obtain ⟨υ, u1, u2, u3⟩ := r_nsum (n := n) (h0 := h0) (qs := qs) (ks := ks) hT hS hP hw hr ho hE w1 s1
        have k12 := kPs_12 (f := f) (pp := pp) (ee := ee) d.2.2.2.1.2 q
        obtain ⟨v, v1, v2, v3⟩ := r_nsum (n := n) (h0 := h0) (qs := qs) (ks := ks) hT hS hP (u3.rw hw) u2 (ho.of k12) (by rw [k12.1]; exact hE) w2 ((u3.at lo N S P A).sm s2 (Nat.le_refl _) (Nat.le_refl _))
        have h10 : υ.2.2.1 10 m = nI y := by rw [u3.2.2.1 10 (by decide) (by decide) (by decide)]; exact t2
        rw [zE_namesOfCondition]
        unfold b_namesOfCondition
        simp only [zgd, zin_n (show m < 2100 by have := t0.1.2; omega) (by decide), if_true, nI_clamp (show m < 2 ^ 31 by have := t0.1.2; omega), h6, h9]
        rw [if_neg (by decide), if_neg (by decide), if_neg (by decide), if_neg (by decide), if_neg (by decide), if_pos (by decide)]
        simp only [u1, zcv, h10, v1]
        exact ⟨v, rfl, v2, u3.tr v3⟩
    · rcases h with ⟨_, rfl, wa, wb⟩ | ⟨h, _⟩
      · obtain ⟨m1, mb, ⟨b1, b2⟩, ⟨n0, _, n3, n4⟩, ta, tb⟩ := ht
        have H := k37_two (Da := kD a) (q'' := kCt f pp ee a q) (show m1 < 2100 by omega) hg n0 n3 n4 hk (fun υ g r => Ia.1 υ q mb (g.rw hw) r ho hE wa (ta.fm g))
        exact (Ib.2 τ (kCt f pp ee a q) gl m1 m (max D (kD a) + 1) hg hw (ho.of (kCt_12 a q)) (by rw [(kCt_12 a q).1]; exact hE) wb tb H).le (by show max (max D (kN a + kH a) + 1) (kH b) + kN b ≤ max D (max (kH a) (kH b) + 0) + (kN a + kN b + 1); omega)
      · cases h
end KRE
