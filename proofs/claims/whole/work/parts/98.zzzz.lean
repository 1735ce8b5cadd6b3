/-! an E as it is read -/
section ERE
variable {kk : Nat → Int32} {T cnt : Nat} {g : Nat → Nat}
set_option maxHeartbeats 1000000 in
theorem aE_rd (hz : ∀ i, cnt ≤ i → kk i = 0) (hg : gW kk g) : ∀ (k : Nat), eRd kk cnt g k (aE kk T k)
  | 0, i, t, j, h => by unfold aE at h; cases h
  | k + 1, i, t, j, h => by
    have IH := aE_rd hz hg k
    by_cases c212 : kk i = nI 212
    · rw [aE_212 c212] at h
      have z1 := (hg.ck c212 (by decide)).1
      have z3 := hg.2.1 i (Or.inl c212)
      have lc := z1.lt hz (by omega)
      split at h
      · rename_i cr
        have y1 := (hg.is cr (by decide)).1
        have y3 : g (i + 1) + 3 ≤ g (i + 2) := hg.2.1 (i + 1) (Or.inr (Or.inr (of_decide_eq_true cr)))
        unfold aRc at h
        obtain ⟨_, i1, h1, h⟩ := on_inr h
        obtain ⟨x1, x2, x3⟩ := hg.ms h1 (by decide)
        subst x2
        by_cases cn : aIs kk 1 (i + 2 + 1) = true
        · rw [if_pos cn] at h
          obtain ⟨a, b, rfl, l1, l2, l3, ⟨l4, l4'⟩, ⟨l5, l5'⟩, l6, l7⟩ := aLt_rd hg IH h
          obtain ⟨p1, p2⟩ := aPs_rd (kk := kk) 4 (i + 2 + 1)
          have pz : nz kk (i + 2 + 1) (i + 2 + 1 + aPs kk 4 (i + 2 + 1)) := fun w w1 w2 => by
            have := p2 (w - (i + 2 + 1)) (by omega)
            rw [show i + 2 + 1 + (w - (i + 2 + 1)) = w by omega] at this
            exact (nz.one this (by decide)) w (Nat.le_refl _) (by omega)
          have pg := hg.ln pz (by omega)
          have l1' : aIs kk 1 (i + 2 + 1 + aPs kk 4 (i + 2 + 1)) = false := decide_eq_false (fun z => absurd (l1.symm.trans z) (by decide))
          have zall := z1.ap (y1.ap (x1.ap (pz.ap l3)))
          have lj := l3.lt hz l2
          refine ⟨by omega, zall, Or.inr (Or.inr ⟨rfl, Or.inr (Or.inl ⟨rfl, ⟨p1, by show i + 3 + aPs kk 4 (i + 2 + 1) ≤ cnt; omega, p2, l1'⟩, l4, l4'⟩)⟩), ?_, fun X hX => ?_, ?_⟩
          · show max (tH a) (tH b) + 1 ≤ k + 1; omega
          · show max (tD a) (tD b) + 1 ≤ _
            have := l6 X (by omega); omega
          · show g i + 3 * ((i + 2) :: (List.range' (i + 3) (aPs kk 4 (i + 2 + 1)) ++ (tW a ++ tW b))).length + 1 ≤ g j
            simp only [List.length_cons, List.length_append, List.length_range']
            omega
        · rw [if_neg cn] at h; cases h
      · obtain ⟨_, i1, h1, h⟩ := on_inr h
        obtain ⟨x1, x2, x3⟩ := hg.ms h1 (by decide)
        subst x2
        obtain ⟨a, b, rfl, l1, l2, l3, ⟨l4, l4'⟩, ⟨l5, l5'⟩, l6, l7⟩ := aLt_rd hg IH h
        have lx := x1.lt hz (by omega)
        refine ⟨by omega, z1.ap (x1.ap l3), Or.inr (Or.inr ⟨rfl, Or.inl ⟨rfl, by show i + 1 < cnt; omega, l4, l4'⟩⟩), ?_, fun X hX => ?_, ?_⟩
        · show max (tH a) (tH b) + 1 ≤ k + 1; omega
        · show max (tD a) (tD b) + 1 ≤ _
          have := l6 X (by omega); omega
        · show g i + 3 * ((i + 1) :: (tW a ++ tW b)).length + 1 ≤ g j
          simp only [List.length_cons, List.length_append]
          omega
    by_cases c206 : kk i = nI 206
    · rw [aE_206 c206] at h
      have z1 := (hg.ck c206 (by decide)).1
      have z3 := hg.2.1 i (Or.inr (Or.inl c206))
      unfold aFn at h
      obtain ⟨_, i1, h1, h⟩ := on_inr h
      obtain ⟨_, i2, h2, h⟩ := on_inr h
      obtain ⟨a, i3, h3, h⟩ := on_inr h
      injection h with h
      injection h with h5 h6
      subst h5
      subst h6
      obtain ⟨x1, x2, x3⟩ := hg.ms h1 (by decide)
      subst x2
      obtain ⟨y1, y2, y3⟩ := hg.m2 h2 (Or.inr rfl)
      subst y2
      obtain ⟨a1, a2, a3, a4, a5, a6⟩ := IH _ _ _ h3
      have lx := x1.lt hz (by omega)
      refine ⟨by omega, z1.ap (x1.ap (y1.ap a2)), Or.inr (Or.inr ⟨rfl, Or.inr (Or.inr (Or.inl ⟨rfl, by show i + 1 < cnt; omega, a3⟩))⟩), ?_, fun X hX => ?_, ?_⟩
      · show max (tH a) 0 + 1 ≤ k + 1; omega
      · show max (tD a) 0 + 1 ≤ _
        have := a5 X (by omega); omega
      · show g i + 3 * ((i + 1) :: tW a).length + 1 ≤ _
        rw [List.length_cons]
        omega
    by_cases c207 : kk i = nI 207
    · rw [aE_207 c207] at h
      obtain ⟨z1, z2⟩ := hg.ck c207 (by decide)
      unfold aIf at h
      obtain ⟨c, i1, h1, h⟩ := on_inr h
      obtain ⟨_, i2, h2, h⟩ := on_inr h
      obtain ⟨a, i3, h3, h⟩ := on_inr h
      obtain ⟨_, i4, h4, h⟩ := on_inr h
      obtain ⟨b, i5, h5, h⟩ := on_inr h
      injection h with h
      injection h with h6 h7
      subst h6
      subst h7
      obtain ⟨w1, w2, w3, w4, w5⟩ := aEi_rd (aSi_rd hz (k + 1)) _ _ _ h1
      have gw := hg.ln w2 (by omega)
      obtain ⟨x1, x2, x3⟩ := hg.ms h2 (by decide)
      subst x2
      obtain ⟨y1, y2, y3⟩ := hg.ms h4 (by decide)
      subst y2
      obtain ⟨a1, a2, a3, a4, a5, a6⟩ := IH _ _ _ h3
      obtain ⟨b1, b2, b3, b4, b5, b6⟩ := IH _ _ _ h5
      refine ⟨by omega, z1.ap (w2.ap (x1.ap (a2.ap (y1.ap b2)))), Or.inr (Or.inr ⟨rfl, Or.inr (Or.inr (Or.inr (Or.inl ⟨rfl, w3, Or.inl ⟨rfl, rfl, ⟨rfl, rfl⟩, a3, b3⟩⟩)))⟩), ?_, fun X hX => ?_, ?_⟩
      · show max (tH a) (tH b) + 1 ≤ k + 1; omega
      · show max (kN c + kH c) (max (tD a) (tD b) + 1) + 1 ≤ _
        have := a5 X (by omega)
        have := b5 X (by omega)
        omega
      · show g i + 3 * (tW a ++ tW b).length + 1 ≤ _
        rw [List.length_append]
        omega
    by_cases c201 : kk i = nI 201
    · rw [aE_201 c201] at h
      obtain ⟨z1, z2⟩ := hg.ck c201 (by decide)
      unfold aAt at h
      obtain ⟨c, i1, h1, h⟩ := on_inr h
      obtain ⟨_, i2, h2, h⟩ := on_inr h
      obtain ⟨a, i3, h3, h⟩ := on_inr h
      injection h with h
      injection h with h6 h7
      subst h6
      subst h7
      obtain ⟨w1, w2, w3, w4, w5⟩ := aEi_rd (aSi_rd hz (k + 1)) _ _ _ h1
      have gw := hg.ln w2 (by omega)
      obtain ⟨x1, x2, x3⟩ := hg.ms h2 (by decide)
      subst x2
      obtain ⟨a1, a2, a3, a4, a5, a6⟩ := IH _ _ _ h3
      refine ⟨by omega, z1.ap (w2.ap (x1.ap a2)), Or.inr (Or.inr ⟨rfl, Or.inr (Or.inr (Or.inr (Or.inr (Or.inl ⟨rfl, w3, a3⟩))))⟩), ?_, fun X hX => ?_, ?_⟩
      · show tH a + 1 ≤ k + 1; omega
      · show max (kN c + kH c) (tD a) + 1 ≤ _
        have := a5 X (by omega)
        omega
      · show g i + 3 * (tW a).length + 1 ≤ _
        omega
    by_cases c220 : kk i = nI 220
    · rw [aE_220 c220] at h
      obtain ⟨z1, z2⟩ := hg.ck c220 (by decide)
      obtain ⟨S, i2, i3, S', i4, i6, ta, d1, d2, d3, d4, d5, rfl⟩ := aSe_eq h
      unfold aIx at d1
      obtain ⟨_, p1, g1, d1⟩ := on_inr d1
      obtain ⟨_, p2, g2, d1⟩ := on_inr d1
      obtain ⟨S0, p3, g3, d1⟩ := on_inr d1
      obtain ⟨_, p4, g4, d1⟩ := on_inr d1
      injection d1 with d1
      injection d1 with d6 d7
      subst d6
      subst d7
      obtain ⟨q1, q2, q3⟩ := hg.ms g1 (by decide)
      subst q2
      obtain ⟨r1, r2, r3⟩ := hg.ms g2 (by decide)
      subst r2
      obtain ⟨⟨a1, a2⟩, a3⟩ := aSm_ok hz g3
      have ga := hg.ln a2 (by omega)
      obtain ⟨s1, s2, s3⟩ := hg.ms g4 (by decide)
      subst s2
      obtain ⟨t1, t2, t3⟩ := hg.ms d2 (by decide)
      subst t2
      obtain ⟨⟨b1, b2⟩, b3⟩ := aSm_ok hz d3
      have gb := hg.ln b2 (by omega)
      obtain ⟨u1, u2, u3⟩ := hg.ms d4 (by decide)
      subst u2
      obtain ⟨e1, e2, e3, e4, e5, e6⟩ := IH _ _ _ d5
      have lx := q1.lt hz (by omega)
      refine ⟨by omega, z1.ap (q1.ap (r1.ap (a2.ap (s1.ap (t1.ap (b2.ap (u1.ap e2))))))), Or.inr (Or.inr ⟨rfl, Or.inr (Or.inr (Or.inr (Or.inr (Or.inr (Or.inl ⟨rfl, by show i + 1 < cnt; omega, ⟨a3, b3⟩, e3⟩)))))⟩), ?_, fun X hX => ?_, ?_⟩
      · show max (tH ta) 0 + 1 ≤ k + 1; omega
      · show max (tD ta) 0 + 1 ≤ _
        have := e5 X (by omega)
        omega
      · show g i + 3 * (tW ta).length + 1 ≤ _
        omega
    by_cases c215 : kk i = nI 215
    · rw [aE_215 c215] at h
      obtain ⟨z1, z2⟩ := hg.ck c215 (by decide)
      obtain ⟨s, i1, h1, h⟩ := on_inr h
      injection h with h
      injection h with h6 h7
      subst h6
      subst h7
      obtain ⟨⟨a1, a2⟩, a3⟩ := aSm_ok hz h1
      have ga := hg.ln a2 (by omega)
      refine ⟨by omega, z1.ap a2, Or.inr (Or.inr ⟨rfl, Or.inr (Or.inr (Or.inr (Or.inr (Or.inr (Or.inr (Or.inl ⟨Or.inl rfl, a3, rfl, rfl, rfl⟩))))))⟩), ?_, fun X hX => ?_, ?_⟩
      · show max 0 0 + 1 ≤ k + 1; omega
      · show max 0 0 + 1 ≤ _; omega
      · show g i + 3 * 0 + 1 ≤ _; omega
    by_cases c216 : kk i = nI 216
    · rw [aE_216 c216] at h
      obtain ⟨z1, z2⟩ := hg.ck c216 (by decide)
      injection h with h
      injection h with h6 h7
      subst h6
      subst h7
      refine ⟨by omega, z1, Or.inr (Or.inr ⟨rfl, Or.inr (Or.inr (Or.inr (Or.inr (Or.inr (Or.inr (Or.inr (Or.inl ⟨Or.inr (Or.inr rfl), ⟨rfl, rfl⟩, rfl, rfl⟩)))))))⟩), ?_, fun X hX => ?_, ?_⟩
      · show max 0 0 + 1 ≤ k + 1; omega
      · show max 0 0 + 1 ≤ _; omega
      · show g i + 3 * 0 + 1 ≤ _; omega
    by_cases c203 : kk i = nI 203
    · rw [aE_203 c203] at h
      obtain ⟨z1, z2⟩ := hg.ck c203 (by decide)
      obtain ⟨s, i1, h1, h⟩ := on_inr h
      obtain ⟨_, i2, h2, h⟩ := on_inr h
      injection h with h
      injection h with h6 h7
      subst h6
      subst h7
      obtain ⟨⟨a1, a2⟩, a3⟩ := aSm_ok hz h1
      have ga := hg.ln a2 (by omega)
      obtain ⟨x1, x2, x3⟩ := hg.ms h2 (by decide)
      subst x2
      have lx := x1.lt hz (by omega)
      refine ⟨by omega, z1.ap (a2.ap x1), Or.inr (Or.inr ⟨rfl, Or.inr (Or.inr (Or.inr (Or.inr (Or.inr (Or.inr (Or.inr (Or.inr (Or.inr (Or.inr (Or.inr (Or.inr (Or.inl ⟨rfl, by show i1 < cnt; omega, a3⟩))))))))))))⟩), ?_, fun X hX => ?_, ?_⟩
      · show max 0 0 + 1 ≤ k + 1; omega
      · show max 0 0 + 1 ≤ _; omega
      · show g i + 3 * 0 + 1 ≤ _; omega
    by_cases c214 : kk i = nI 214
    · rw [aE_214 c214] at h
      obtain ⟨z1, z2⟩ := hg.ck c214 (by decide)
      unfold aMt at h
      obtain ⟨_, i1, h1, h⟩ := on_inr h
      obtain ⟨_, i2, h2, h⟩ := on_inr h
      obtain ⟨_, i3, h3, h⟩ := on_inr h
      obtain ⟨_, i4, h4, h⟩ := on_inr h
      obtain ⟨a, i5, h5, h⟩ := on_inr h
      obtain ⟨_, i6, h6, h⟩ := on_inr h
      obtain ⟨_, i7, h7, h⟩ := on_inr h
      obtain ⟨_, i8, h8, h⟩ := on_inr h
      obtain ⟨_, i9, h9, h⟩ := on_inr h
      obtain ⟨b, i10, h10, h⟩ := on_inr h
      injection h with h
      injection h with g6 g7
      subst g6
      subst g7
      obtain ⟨q1, q2, q3⟩ := hg.ms h1 (by decide)
      subst q2
      obtain ⟨r1, r2, r3⟩ := hg.ms h2 (by decide)
      subst r2
      obtain ⟨s1, s2, s3⟩ := hg.ms h3 (by decide)
      subst s2
      obtain ⟨t1, t2, t3⟩ := hg.m2 h4 (Or.inr rfl)
      subst t2
      obtain ⟨a1, a2, a3, a4, a5, a6⟩ := IH _ _ _ h5
      obtain ⟨u1, u2, u3⟩ := hg.ms h6 (by decide)
      subst u2
      obtain ⟨v1, v2, v3⟩ := hg.ms h7 (by decide)
      subst v2
      obtain ⟨w1, w2, w3⟩ := hg.ms h8 (by decide)
      subst w2
      obtain ⟨x1, x2, x3⟩ := hg.m2 h9 (Or.inr rfl)
      subst x2
      obtain ⟨b1, b2, b3, b4, b5, b6⟩ := IH _ _ _ h10
      have lx := q1.lt hz (by omega)
      have ly := w1.lt hz (by omega)
      refine ⟨by omega, z1.ap (q1.ap (r1.ap (s1.ap (t1.ap (a2.ap (u1.ap (v1.ap (w1.ap (x1.ap b2))))))))), Or.inr (Or.inr ⟨rfl, Or.inr (Or.inr (Or.inr (Or.inr (Or.inr (Or.inr (Or.inr (Or.inr (Or.inr (Or.inr (Or.inr (Or.inr (Or.inr (⟨rfl, ⟨by show i + 1 < cnt; omega, by show i5 + 1 + 1 < cnt; omega⟩, a3, b3⟩)))))))))))))⟩), ?_, fun X hX => ?_, ?_⟩
      · show max (tH a) (tH b) + 1 ≤ k + 1; omega
      · show max (tD a) (tD b) + 1 ≤ _
        have := a5 X (by omega)
        have := b5 X (by omega)
        omega
      · show g i + 3 * (tW a ++ ([i5 + 1, i5 + 1 + 1] ++ tW b)).length + 1 ≤ _
        rw [List.length_append, List.length_append]
        show g i + 3 * ((tW a).length + (2 + (tW b).length)) + 1 ≤ _
        omega
    by_cases c223 : kk i = nI 223
    · rw [aE_223 c223] at h
      obtain ⟨z1, z2⟩ := hg.ck c223 (by decide)
      injection h with h
      injection h with h6 h7
      subst h6
      subst h7
      refine ⟨by omega, z1, Or.inr (Or.inr ⟨rfl, Or.inr (Or.inr (Or.inr (Or.inr (Or.inr (Or.inr (Or.inr (Or.inl ⟨Or.inl rfl, ⟨rfl, rfl⟩, rfl, rfl⟩)))))))⟩), ?_, fun X hX => ?_, ?_⟩
      · show max 0 0 + 1 ≤ k + 1; omega
      · show max 0 0 + 1 ≤ _; omega
      · show g i + 3 * 0 + 1 ≤ _; omega
    by_cases c205 : kk i = nI 205
    · rw [aE_205 c205] at h
      obtain ⟨z1, z2⟩ := hg.ck c205 (by decide)
      injection h with h
      injection h with h6 h7
      subst h6
      subst h7
      refine ⟨by omega, z1, Or.inr (Or.inr ⟨rfl, Or.inr (Or.inr (Or.inr (Or.inr (Or.inr (Or.inr (Or.inr (Or.inl ⟨Or.inr (Or.inl rfl), ⟨rfl, rfl⟩, rfl, rfl⟩)))))))⟩), ?_, fun X hX => ?_, ?_⟩
      · show max 0 0 + 1 ≤ k + 1; omega
      · show max 0 0 + 1 ≤ _; omega
      · show g i + 3 * 0 + 1 ≤ _; omega
    by_cases c40 : kk i = nI 40
    · rw [aE_40 c40] at h
      obtain ⟨z1, z2⟩ := hg.ck c40 (by decide)
      obtain ⟨a, i1, h1, h⟩ := on_inr h
      obtain ⟨_, i2, h2, h⟩ := on_inr h
      injection h with h
      injection h with h6 h7
      subst h6
      subst h7
      obtain ⟨a1, a2, a3, a4, a5, a6⟩ := IH _ _ _ h1
      obtain ⟨x1, x2, x3⟩ := hg.ms h2 (by decide)
      subst x2
      refine ⟨by omega, z1.ap (a2.ap x1), Or.inr (Or.inr ⟨rfl, Or.inr (Or.inr (Or.inr (Or.inr (Or.inr (Or.inr (Or.inr (Or.inr (Or.inr (Or.inr (Or.inr (Or.inl ⟨rfl, ⟨rfl, rfl⟩, a3, rfl⟩)))))))))))⟩), ?_, fun X hX => ?_, ?_⟩
      · show max (tH a) 0 + 1 ≤ k + 1; omega
      · show max (tD a) 0 + 1 ≤ _
        have := a5 X (by omega)
        omega
      · show g i + 3 * (tW a ++ []).length + 1 ≤ _
        rw [List.append_nil]
        omega
    rw [aE_no c212 c206 c207 c201 c220 c215 c216 c203 c214 c223 c205 c40] at h
    exact aOp_rd hz hg IH _ _ _ h
end ERE
