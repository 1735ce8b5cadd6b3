/-! the reference's typed(): sums, new, S * S, x[S], S :: x -/
section RPM
variable {ks : Nat → Nat} {qs : List Nat} {Tt h0 k0 len cnt lo N S P A aM : Nat} {L : List Nat} {V : zSt} {kk pp ee f : Nat → Int32} {d : Nat × Nat × Nat × tS × tS} {z : Unit} {a b : tT}
theorem rt_7 (H : rH Tt len cnt lo N S P A L V kk pp ee f) : rTyp ks qs Tt h0 k0 cnt lo N S P A aM L V kk pp ee f (.inner 7 d z a b) := fun env τ s g T c am m n ht fm hx hs hc ha hn => by
  obtain ⟨tr, wf, o3, wo, -, -⟩ := ht
  have ha : am + (0 + tA a + tA b) ≤ aM := ha
  obtain ⟨n, rfl⟩ : ∃ n', n = n' + 1 := ⟨n - 1, by omega⟩
  have G0 := rGo.rf hx
  obtain ⟨t0, x, t1, s1⟩ := tr
  have hm : m < 2100 := by have := t0.1.2; have := H.1.2.1; omega
  have h6 : τ.2.2.1 6 m = nI 7 := G0.row fm (by omega) t0.2.1
  have hc : c + ((sEv d.2.2.2.1.2).length + (sEv d.2.2.2.2.2).length + 2 + tC a + tC b) ≤ 9000 := hc
  have hn : aM + 7 + (max (tDr a) (tDr b) + 3) ≤ n + 1 := hn
  have wf' : pOk cnt d.2.2.2.1.2 ∧ d.2.2.2.2.2 = [] ∧ a = .leaf ∧ b = .leaf := by
    rcases wf with ⟨h, _⟩ | ⟨h, _⟩ | ⟨_, h⟩
    · cases h
    · cases h
    · rcases h with ⟨h, _⟩ | ⟨h, _⟩ | ⟨h, _⟩ | ⟨h, _⟩ | ⟨h, _⟩ | ⟨h, _⟩ | ⟨_, h⟩ | ⟨h, _⟩ | ⟨h, _⟩ | ⟨h, _⟩ | ⟨h, _⟩ | ⟨h, _⟩ | ⟨h, _⟩ | ⟨h, _⟩
      all_goals first | exact h | (exfalso; omega)
  obtain ⟨n, rfl⟩ : ∃ n', n = n' + 1 := ⟨n - 1, by omega⟩
  obtain ⟨w1, w2, rfl, rfl⟩ := wf'
  have wo : rWs f pp ee (V.2.2.1 32) L env (sEv d.2.2.2.1.2) ∧ _ := wo
  have h10 : τ.2.2.1 10 m = nI x := G0.row fm (by omega) t1
  obtain ⟨τ1, e1, G1⟩ := G0.sum (h0 := h0) (qs := qs) (ks := ks) (n := n + 1) H fm w1 o3.1 wo.1 s1 (by omega) (by omega)
  obtain ⟨τ', v, e2, R⟩ := G1.pla (h0 := h0) (qs := qs) (ks := ks) (Tt := Tt) (n := n) (by omega) (k := 2) (by decide) d.1
  rw [zE_typed]
  unfold b_typed
  simp only [zgd, zin_n hm (by decide), if_true, nI_clamp (show m < 2 ^ 31 by omega), h6, h10]
  rw [if_neg (by decide), if_neg (by decide), if_neg (by decide), if_neg (by decide), if_neg (by decide), if_neg (by decide), if_pos (by decide)]
  rw [e1, zcv_at, show (3 : Int32) = rKd (2 + 2) from rfl, e2]
  exact ⟨τ', v, rfl, R.mo (by show 0 + (sEv d.2.2.2.1.2).length + 1 ≤ (sEv d.2.2.2.1.2).length + (sEv d.2.2.2.2.2).length + 2 + 0 + 0; omega) (Nat.le_add_right _ _)⟩
theorem rt_11 (H : rH Tt len cnt lo N S P A L V kk pp ee f) : rTyp ks qs Tt h0 k0 cnt lo N S P A aM L V kk pp ee f (.inner 11 d z a b) := fun env τ s g T c am m n ht fm hx hs hc ha hn => by
  obtain ⟨tr, wf, o3, wo, -, -⟩ := ht
  have ha : am + (0 + tA a + tA b) ≤ aM := ha
  obtain ⟨n, rfl⟩ : ∃ n', n = n' + 1 := ⟨n - 1, by omega⟩
  have G0 := rGo.rf hx
  obtain ⟨t0, -, x, y, ⟨t1, t2⟩, s1, s2⟩ := tr
  have hm : m < 2100 := by have := t0.1.2; have := H.1.2.1; omega
  have h6 : τ.2.2.1 6 m = nI 11 := G0.row fm (by omega) t0.2.1
  have hc : c + ((sEv d.2.2.2.1.2).length + (sEv d.2.2.2.2.2).length + 2 + tC a + tC b) ≤ 9000 := hc
  have hn : aM + 7 + (max (tDr a) (tDr b) + 3) ≤ n + 1 := hn
  have wf' : (pOk cnt d.2.2.2.1.2 ∧ pOk cnt d.2.2.2.2.2) ∧ a = .leaf ∧ b = .leaf := by
    rcases wf with ⟨h, _⟩ | ⟨h, _⟩ | ⟨_, h⟩
    · cases h
    · cases h
    · rcases h with ⟨h, _⟩ | ⟨h, _⟩ | ⟨h, _⟩ | ⟨h, _⟩ | ⟨h, _⟩ | ⟨h, _⟩ | ⟨h, _⟩ | ⟨h, _⟩ | ⟨_, h⟩ | ⟨h, _⟩ | ⟨h, _⟩ | ⟨h, _⟩ | ⟨h, _⟩ | ⟨h, _⟩
      all_goals first | exact h | (exfalso; omega)
  obtain ⟨n, rfl⟩ : ∃ n', n = n' + 1 := ⟨n - 1, by omega⟩
  obtain ⟨⟨w1, w2⟩, rfl, rfl⟩ := wf'
  have wo : rWs f pp ee (V.2.2.1 32) L env (sEv d.2.2.2.1.2) ∧ rWs f pp ee (V.2.2.1 32) L env (sEv d.2.2.2.2.2) ∧ _ := wo
  have h10 : τ.2.2.1 10 m = nI x := G0.row fm (by omega) t1
  obtain ⟨τ1, e1, G1⟩ := G0.sum (h0 := h0) (qs := qs) (ks := ks) (n := n + 1) H fm w1 o3.1 wo.1 s1 (by omega) (by omega)
  have h11 : τ1.2.2.1 11 m = nI y := G1.row fm (by omega) t2
  obtain ⟨τ2, e2, G2⟩ := G1.sum (h0 := h0) (qs := qs) (ks := ks) (n := n + 1) H fm w2 o3.2.1 wo.2.1 s2 (by omega) (by omega)
  obtain ⟨τ', v, e3, R⟩ := G2.pla (h0 := h0) (qs := qs) (ks := ks) (Tt := Tt) (n := n) (by omega) (k := 0) (by decide) d.1
  rw [zE_typed]
  unfold b_typed
  simp only [zgd, zin_n hm (by decide), if_true, nI_clamp (show m < 2 ^ 31 by omega), h6, h10]
  rw [if_neg (by decide), if_neg (by decide), if_neg (by decide), if_neg (by decide), if_neg (by decide), if_neg (by decide), if_neg (by decide), if_neg (by decide), if_neg (by decide), if_neg (by decide), if_pos (by decide)]
  rw [e1, zcv_at, h11, e2, zcv_at, (show zF h0 qs ks Tt (n + 1) 40 [.ref h0, .int 1, .int (-1), .int (-1)] τ2 = _ from e3)]
  exact ⟨τ', v, rfl, R.mo (by show 0 + (sEv d.2.2.2.1.2).length + (sEv d.2.2.2.2.2).length + 1 ≤ (sEv d.2.2.2.1.2).length + (sEv d.2.2.2.2.2).length + 2 + 0 + 0; omega) (Nat.le_add_right _ _)⟩
theorem rt_12 (H : rH Tt len cnt lo N S P A L V kk pp ee f) : rTyp ks qs Tt h0 k0 cnt lo N S P A aM L V kk pp ee f (.inner 12 d z a b) := fun env τ s g T c am m n ht fm hx hs hc ha hn => by
  obtain ⟨tr, wf, o3, wo, -, -⟩ := ht
  have ha : am + (0 + tA a + tA b) ≤ aM := ha
  obtain ⟨n, rfl⟩ : ∃ n', n = n' + 1 := ⟨n - 1, by omega⟩
  have G0 := rGo.rf hx
  obtain ⟨t0, -, x, y, ⟨t1, t2⟩, s1, s2⟩ := tr
  have hm : m < 2100 := by have := t0.1.2; have := H.1.2.1; omega
  have h6 : τ.2.2.1 6 m = nI 12 := G0.row fm (by omega) t0.2.1
  have hc : c + ((sEv d.2.2.2.1.2).length + (sEv d.2.2.2.2.2).length + 2 + tC a + tC b) ≤ 9000 := hc
  have hn : aM + 7 + (max (tDr a) (tDr b) + 3) ≤ n + 1 := hn
  have wf' : (pOk cnt d.2.2.2.1.2 ∧ pOk cnt d.2.2.2.2.2) ∧ a = .leaf ∧ b = .leaf := by
    rcases wf with ⟨h, _⟩ | ⟨h, _⟩ | ⟨_, h⟩
    · cases h
    · cases h
    · rcases h with ⟨h, _⟩ | ⟨h, _⟩ | ⟨h, _⟩ | ⟨h, _⟩ | ⟨h, _⟩ | ⟨h, _⟩ | ⟨h, _⟩ | ⟨h, _⟩ | ⟨_, h⟩ | ⟨h, _⟩ | ⟨h, _⟩ | ⟨h, _⟩ | ⟨h, _⟩ | ⟨h, _⟩
      all_goals first | exact h | (exfalso; omega)
  obtain ⟨n, rfl⟩ : ∃ n', n = n' + 1 := ⟨n - 1, by omega⟩
  obtain ⟨⟨w1, w2⟩, rfl, rfl⟩ := wf'
  have wo : rWs f pp ee (V.2.2.1 32) L env (sEv d.2.2.2.1.2) ∧ rWs f pp ee (V.2.2.1 32) L env (sEv d.2.2.2.2.2) ∧ _ := wo
  have h10 : τ.2.2.1 10 m = nI x := G0.row fm (by omega) t1
  obtain ⟨τ1, e1, G1⟩ := G0.sum (h0 := h0) (qs := qs) (ks := ks) (n := n + 1) H fm w1 o3.1 wo.1 s1 (by omega) (by omega)
  have h11 : τ1.2.2.1 11 m = nI y := G1.row fm (by omega) t2
  obtain ⟨τ2, e2, G2⟩ := G1.sum (h0 := h0) (qs := qs) (ks := ks) (n := n + 1) H fm w2 o3.2.1 wo.2.1 s2 (by omega) (by omega)
  obtain ⟨τ', v, e3, R⟩ := G2.pla (h0 := h0) (qs := qs) (ks := ks) (Tt := Tt) (n := n) (by omega) (k := 0) (by decide) d.1
  rw [zE_typed]
  unfold b_typed
  simp only [zgd, zin_n hm (by decide), if_true, nI_clamp (show m < 2 ^ 31 by omega), h6, h10]
  rw [if_neg (by decide), if_neg (by decide), if_neg (by decide), if_neg (by decide), if_neg (by decide), if_neg (by decide), if_neg (by decide), if_neg (by decide), if_neg (by decide), if_neg (by decide), if_neg (by decide), if_pos (by decide)]
  rw [e1, zcv_at, h11, e2, zcv_at, (show zF h0 qs ks Tt (n + 1) 40 [.ref h0, .int 1, .int (-1), .int (-1)] τ2 = _ from e3)]
  exact ⟨τ', v, rfl, R.mo (by show 0 + (sEv d.2.2.2.1.2).length + (sEv d.2.2.2.2.2).length + 1 ≤ (sEv d.2.2.2.1.2).length + (sEv d.2.2.2.2.2).length + 2 + 0 + 0; omega) (Nat.le_add_right _ _)⟩
theorem rt_13 (H : rH Tt len cnt lo N S P A L V kk pp ee f) : rTyp ks qs Tt h0 k0 cnt lo N S P A aM L V kk pp ee f (.inner 13 d z a b) := fun env τ s g T c am m n ht fm hx hs hc ha hn => by
  obtain ⟨tr, wf, o3, wo, -, -⟩ := ht
  have ha : am + (0 + tA a + tA b) ≤ aM := ha
  obtain ⟨n, rfl⟩ : ∃ n', n = n' + 1 := ⟨n - 1, by omega⟩
  have G0 := rGo.rf hx
  obtain ⟨t0, -, x, y, ⟨t1, t2⟩, s1, s2⟩ := tr
  have hm : m < 2100 := by have := t0.1.2; have := H.1.2.1; omega
  have h6 : τ.2.2.1 6 m = nI 13 := G0.row fm (by omega) t0.2.1
  have hc : c + ((sEv d.2.2.2.1.2).length + (sEv d.2.2.2.2.2).length + 2 + tC a + tC b) ≤ 9000 := hc
  have hn : aM + 7 + (max (tDr a) (tDr b) + 3) ≤ n + 1 := hn
  have wf' : (pOk cnt d.2.2.2.1.2 ∧ pOk cnt d.2.2.2.2.2) ∧ a = .leaf ∧ b = .leaf := by
    rcases wf with ⟨h, _⟩ | ⟨h, _⟩ | ⟨_, h⟩
    · cases h
    · cases h
    · rcases h with ⟨h, _⟩ | ⟨h, _⟩ | ⟨h, _⟩ | ⟨h, _⟩ | ⟨h, _⟩ | ⟨h, _⟩ | ⟨h, _⟩ | ⟨h, _⟩ | ⟨_, h⟩ | ⟨h, _⟩ | ⟨h, _⟩ | ⟨h, _⟩ | ⟨h, _⟩ | ⟨h, _⟩
      all_goals first | exact h | (exfalso; omega)
  obtain ⟨n, rfl⟩ : ∃ n', n = n' + 1 := ⟨n - 1, by omega⟩
  obtain ⟨⟨w1, w2⟩, rfl, rfl⟩ := wf'
  have wo : rWs f pp ee (V.2.2.1 32) L env (sEv d.2.2.2.1.2) ∧ rWs f pp ee (V.2.2.1 32) L env (sEv d.2.2.2.2.2) ∧ _ := wo
  have h10 : τ.2.2.1 10 m = nI x := G0.row fm (by omega) t1
  obtain ⟨τ1, e1, G1⟩ := G0.sum (h0 := h0) (qs := qs) (ks := ks) (n := n + 1) H fm w1 o3.1 wo.1 s1 (by omega) (by omega)
  have h11 : τ1.2.2.1 11 m = nI y := G1.row fm (by omega) t2
  obtain ⟨τ2, e2, G2⟩ := G1.sum (h0 := h0) (qs := qs) (ks := ks) (n := n + 1) H fm w2 o3.2.1 wo.2.1 s2 (by omega) (by omega)
  obtain ⟨τ', v, e3, R⟩ := G2.pla (h0 := h0) (qs := qs) (ks := ks) (Tt := Tt) (n := n) (by omega) (k := 0) (by decide) d.1
  rw [zE_typed]
  unfold b_typed
  simp only [zgd, zin_n hm (by decide), if_true, nI_clamp (show m < 2 ^ 31 by omega), h6, h10]
  rw [if_neg (by decide), if_neg (by decide), if_neg (by decide), if_neg (by decide), if_neg (by decide), if_neg (by decide), if_neg (by decide), if_neg (by decide), if_neg (by decide), if_neg (by decide), if_neg (by decide), if_neg (by decide), if_pos (by decide)]
  rw [e1, zcv_at, h11, e2, zcv_at, (show zF h0 qs ks Tt (n + 1) 40 [.ref h0, .int 1, .int (-1), .int (-1)] τ2 = _ from e3)]
  exact ⟨τ', v, rfl, R.mo (by show 0 + (sEv d.2.2.2.1.2).length + (sEv d.2.2.2.2.2).length + 1 ≤ (sEv d.2.2.2.1.2).length + (sEv d.2.2.2.2.2).length + 2 + 0 + 0; omega) (Nat.le_add_right _ _)⟩
theorem rt_14 (H : rH Tt len cnt lo N S P A L V kk pp ee f) : rTyp ks qs Tt h0 k0 cnt lo N S P A aM L V kk pp ee f (.inner 14 d z a b) := fun env τ s g T c am m n ht fm hx hs hc ha hn => by
  obtain ⟨tr, wf, o3, wo, -, -⟩ := ht
  have ha : am + (0 + tA a + tA b) ≤ aM := ha
  obtain ⟨n, rfl⟩ : ∃ n', n = n' + 1 := ⟨n - 1, by omega⟩
  have G0 := rGo.rf hx
  obtain ⟨t0, ⟨-, t3⟩, x, t1, s1⟩ := tr
  have hm : m < 2100 := by have := t0.1.2; have := H.1.2.1; omega
  have h6 : τ.2.2.1 6 m = nI 14 := G0.row fm (by omega) t0.2.1
  have hc : c + ((sEv d.2.2.2.1.2).length + (sEv d.2.2.2.2.2).length + 2 + tC a + tC b) ≤ 9000 := hc
  have hn : aM + 7 + (max (tDr a) (tDr b) + 3) ≤ n + 1 := hn
  have wf' : d.1 < cnt ∧ pOk cnt d.2.2.2.1.2 := by
    rcases wf with ⟨h, _⟩ | ⟨h, _⟩ | ⟨_, h⟩
    · cases h
    · cases h
    · rcases h with ⟨h, _⟩ | ⟨h, _⟩ | ⟨h, _⟩ | ⟨h, _⟩ | ⟨h, _⟩ | ⟨h, _⟩ | ⟨h, _⟩ | ⟨h, _⟩ | ⟨h, _⟩ | ⟨_, h⟩ | ⟨h, _⟩ | ⟨h, _⟩ | ⟨h, _⟩ | ⟨h, _⟩
      all_goals first | exact h | (exfalso; omega)
  obtain ⟨n, rfl⟩ : ∃ n', n = n' + 1 := ⟨n - 1, by omega⟩
  obtain ⟨w0, w1⟩ := wf'
  have wo : rUs f pp ee (V.2.2.1 32) L env d.1 ∧ rWs f pp ee (V.2.2.1 32) L env (sEv d.2.2.2.1.2) := wo
  have h9 : τ.2.2.1 9 m = nI d.1 := G0.row fm (by omega) t3
  obtain ⟨y, ⟨y1, y2, y3, y4⟩, τ1, e1, G1⟩ := G0.mbn (h0 := h0) (qs := qs) (ks := ks) (n := n + 1) (k := 2) H fm (by decide) w0 wo.1 (by omega) (by omega)
  have h10 : τ1.2.2.1 10 m = nI x := G1.row fm (by omega) t1
  obtain ⟨τ2, e2, G2⟩ := G1.sum (h0 := h0) (qs := qs) (ks := ks) (n := n + 1) H fm w1 o3.1 wo.2 s1 (by omega) (by omega)
  obtain ⟨τ', v, e3, R⟩ := G2.pla (h0 := h0) (qs := qs) (ks := ks) (Tt := Tt) (n := n) (by omega) (k := 0) (by decide) d.1
  rw [zE_typed]
  unfold b_typed
  simp only [zgd, zin_n hm (by decide), if_true, nI_clamp (show m < 2 ^ 31 by omega), h6, h9]
  rw [if_neg (by decide), if_neg (by decide), if_neg (by decide), if_neg (by decide), if_neg (by decide), if_neg (by decide), if_neg (by decide), if_neg (by decide), if_neg (by decide), if_neg (by decide), if_neg (by decide), if_neg (by decide), if_neg (by decide), if_pos (by decide)]
  simp only [zin_n y1 (by decide), if_true, nI_clamp (show d.1 < 2 ^ 31 by omega), y2, zin_n y3 (by decide), nI_clamp (show y < 2 ^ 31 by omega), y4]
  rw [show (3 : Int32) = rKd (2 + 2) from rfl, e1, zcv_at, h10, e2, zcv_at, (show zF h0 qs ks Tt (n + 1) 40 [.ref h0, .int 1, .int (-1), .int (-1)] τ2 = _ from e3)]
  exact ⟨τ', v, rfl, R.mo (by show 0 + 1 + (sEv d.2.2.2.1.2).length + 1 ≤ (sEv d.2.2.2.1.2).length + (sEv d.2.2.2.2.2).length + 2 + tC a + tC b; omega) (Nat.le_add_right _ _)⟩
theorem rt_18 (H : rH Tt len cnt lo N S P A L V kk pp ee f) : rTyp ks qs Tt h0 k0 cnt lo N S P A aM L V kk pp ee f (.inner 18 d z a b) := fun env τ s g T c am m n ht fm hx hs hc ha hn => by
  obtain ⟨tr, wf, o3, wo, -, -⟩ := ht
  have ha : am + (0 + tA a + tA b) ≤ aM := ha
  obtain ⟨n, rfl⟩ : ∃ n', n = n' + 1 := ⟨n - 1, by omega⟩
  have G0 := rGo.rf hx
  obtain ⟨t0, t3, x, t1, s1⟩ := tr
  have hm : m < 2100 := by have := t0.1.2; have := H.1.2.1; omega
  have h6 : τ.2.2.1 6 m = nI 18 := G0.row fm (by omega) t0.2.1
  have hc : c + ((sEv d.2.2.2.1.2).length + (sEv d.2.2.2.2.2).length + 2 + tC a + tC b) ≤ 9000 := hc
  have hn : aM + 7 + (max (tDr a) (tDr b) + 3) ≤ n + 1 := hn
  have wf' : d.2.1 < cnt ∧ pOk cnt d.2.2.2.1.2 := by
    rcases wf with ⟨h, _⟩ | ⟨h, _⟩ | ⟨_, h⟩
    · cases h
    · cases h
    · rcases h with ⟨h, _⟩ | ⟨h, _⟩ | ⟨h, _⟩ | ⟨h, _⟩ | ⟨h, _⟩ | ⟨h, _⟩ | ⟨h, _⟩ | ⟨h, _⟩ | ⟨h, _⟩ | ⟨h, _⟩ | ⟨h, _⟩ | ⟨h, _⟩ | ⟨_, h⟩ | ⟨h, _⟩
      all_goals first | exact h | (exfalso; omega)
  obtain ⟨n, rfl⟩ : ∃ n', n = n' + 1 := ⟨n - 1, by omega⟩
  obtain ⟨w0, w1⟩ := wf'
  have wo : rWs f pp ee (V.2.2.1 32) L env (sEv d.2.2.2.1.2) ∧ rUs f pp ee (V.2.2.1 32) L env d.2.1 := wo
  have h10 : τ.2.2.1 10 m = nI x := G0.row fm (by omega) t1
  obtain ⟨τ1, e1, G1⟩ := G0.sum (h0 := h0) (qs := qs) (ks := ks) (n := n + 1) H fm w1 o3.1 wo.1 s1 (by omega) (by omega)
  have h9 : τ1.2.2.1 9 m = nI d.2.1 := G1.row fm (by omega) t3
  obtain ⟨y, ⟨y1, y2, y3, y4⟩, τ2, e2, G2⟩ := G1.mbn (h0 := h0) (qs := qs) (ks := ks) (n := n + 1) (k := 3) H fm (by decide) w0 wo.2 (by omega) (by omega)
  obtain ⟨τ', v, e3, R⟩ := G2.pla (h0 := h0) (qs := qs) (ks := ks) (Tt := Tt) (n := n) (by omega) (k := 3) (by decide) d.1
  rw [zE_typed]
  unfold b_typed
  simp only [zgd, zin_n hm (by decide), if_true, nI_clamp (show m < 2 ^ 31 by omega), h6, h10]
  rw [if_neg (by decide), if_neg (by decide), if_neg (by decide), if_neg (by decide), if_neg (by decide), if_neg (by decide), if_neg (by decide), if_neg (by decide), if_neg (by decide), if_neg (by decide), if_neg (by decide), if_neg (by decide), if_neg (by decide), if_neg (by decide), if_neg (by decide), if_neg (by decide), if_neg (by decide), if_pos (by decide)]
  simp only [e1, zcv_at, h9, zin_n y1 (by decide), if_true, nI_clamp (show d.2.1 < 2 ^ 31 by omega), y2, zin_n y3 (by decide), nI_clamp (show y < 2 ^ 31 by omega), y4]
  rw [show (5 : Int32) = rKd (3 + 2) from rfl, e2, zcv_at, e3]
  exact ⟨τ', v, rfl, R.mo (by show 0 + (sEv d.2.2.2.1.2).length + 1 + 1 ≤ (sEv d.2.2.2.1.2).length + (sEv d.2.2.2.2.2).length + 2 + tC a + tC b; omega) (Nat.le_add_right _ _)⟩
end RPM
