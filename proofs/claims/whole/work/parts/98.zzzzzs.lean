/-! the reference's typed(): E's without an E in them -/
section RPL
variable {ks : Nat → Nat} {qs : List Nat} {Tt h0 k0 len cnt lo N S P A aM c am n m B : Nat} {Z : List (Nat × Nat)} {L env W : List Nat} {V τ τ1 : zSt} {s s1 : mS} {g : gG} {T : Nat → mF} {kk pp ee f : Nat → Int32} {d : Nat × Nat × Nat × tS × tS} {z : Unit} {a b : tT}
/-- a new plain type -/
theorem rXE.pla (h : rXE k0 L env τ s g T c am) (hc : c < 9000) {k : Nat} (hk : k < 4) : ∃ τ' v g' T', zF h0 qs ks Tt (n + 1) 40 [.ref h0, .int (rKd (k + 2)), .int (-1), .int (-1)] τ = some (some (.int v), τ') ∧ rXE k0 L env τ' s g' T' (c + 1) am ∧ tFm τ τ' ∧ xE g T g' T' ∧ kR9 τ τ' ∧ (mSat s.1 → ∃ x, v = nI x ∧ gY g' T' s x (mB k)) := by
  obtain ⟨τ1, v1, g1, T1, a1, a2, a3, a4, a5, a6, a7⟩ := h.1.new (h0 := h0) (qs := qs) (ks := ks) (Tt := Tt) (F := n) hc (kd := k + 2) (l := 0) (r := 0) (x2 := -1) (x3 := -1) (s' := s) (t := mB k) (by omega) (fun _ z => by omega) rfl (fun _ gk gt => by
      rw [if_neg (show ¬ k + 2 = 1 by omega)]
      exact gt.pla gk k)
  rw [if_neg (show ¬ k + 2 = 1 by omega), Nat.add_zero] at a2
  exact ⟨τ1, v1, g1, T1, a1, ⟨a2, fun u hu => (h.2 u hu).up (fun n _ => congrFun a6.1 n) a4 (mLe.rf [] s) (fun z => by cases z)⟩, a3, a4, a6, a7⟩
/-- the state behind, and a new plain type -/
theorem rGo.pla (G : rGo k0 L env τ g T c am B s1 τ1) (hB : c + B < 9000) {k : Nat} (hk : k < 4) (w : Nat) : ∃ τ' v, zF h0 qs ks Tt (n + 1) 40 [.ref h0, .int (rKd (k + 2)), .int (-1), .int (-1)] τ1 = some (some (.int v), τ') ∧ rRes k0 [] L env [] τ g T c am (B + 1) (mEt w (mB k) s1, mB k) v τ' := by
  obtain ⟨g1, T1, c1, q1, q2, q3, q4, q5⟩ := G
  obtain ⟨τ', v, g', T', a1, a2, a3, a4, a5, a6⟩ := q1.pla (h0 := h0) (qs := qs) (ks := ks) (Tt := Tt) (n := n) (by omega) hk
  exact ⟨τ', v, a1, g', T', c1 + 1, ⟨a2.1.cg rfl (Nat.le_refl _), a2.2⟩, by omega, q3.tr a3, q4.tr a4, a6, fun u hu => (by cases hu), fun j _ => congrFun (a5.trans q5).1 j, fun p hp => (by cases hp), fun m _ => congrFun (a5.trans q5).2 m⟩
theorem rRes.mo {B' am' : Nat} {r : mS × mF} {v : Int32} {τ' : zSt} (h : rRes k0 Z L env W τ g T c am B r v τ') (hB : B ≤ B') (ha : am ≤ am') : rRes k0 Z L env W τ g T c am' B' r v τ' := by
  obtain ⟨g', T', c', h1, h2, h3⟩ := h
  exact ⟨g', T', c', h1.mo ha, by omega, h3⟩
/-- steps one behind the other -/
theorem rGo.tr {B B' : Nat} {s2 : mS} {τ2 : zSt} (G : rGo k0 L env τ g T c am B s1 τ1) (H : ∀ g1 T1 c1, c1 ≤ c + B → rXE k0 L env τ1 s1 g1 T1 c1 am → rGo k0 L env τ1 g1 T1 c1 am B' s2 τ2) : rGo k0 L env τ g T c am (B + B') s2 τ2 := by
  obtain ⟨g1, T1, c1, q1, q2, q3, q4, q5⟩ := G
  obtain ⟨g2, T2, c2, r1, r2, r3, r4, r5⟩ := H g1 T1 c1 q2 q1
  exact ⟨g2, T2, c2, r1, by omega, q3.tr r3, q4.tr r4, r5.trans q5⟩
/-- a sum, from any state -/
theorem rGo.sum {x : Nat} {t : tS} (H : rH Tt len cnt lo N S P A L V kk pp ee f) (fm : tFm V τ) (G : rGo k0 L env τ g T c am B s1 τ1) (hp : pOk cnt t.2) (h3 : pO3 t.2) (hu : rWs f pp ee (V.2.2.1 32) L env (sEv t.2)) (hs : rSm pp V S P x t) (hc : c + B + (sEv t.2).length ≤ 9000) (hn : am + 6 ≤ n) : ∃ τ2, zF h0 qs ks Tt n 46 [.ref h0, .int (nI x)] τ1 = some (none, τ2) ∧ rGo k0 L env τ g T c am (B + (sEv t.2).length) (mPs f pp ee env t.2 s1) τ2 := by
  obtain ⟨g1, T1, c1, q1, q2, q3, q4, q5⟩ := G
  obtain ⟨τ2, e, g2, T2, c2, r1, r2, r3, r4, r5⟩ := r_tsum (ks := ks) (qs := qs) (h0 := h0) (k0 := k0) (am := am) (env := env) H.1.1 H.1.2.2.1 H.1.2.2.2.1 H.2.1 H.2.2.1 hp h3 hu hs n τ1 s1 g1 T1 c1 hn (fm.tr q3) q1 (by omega)
  exact ⟨τ2, e, g2, T2, c2, r1, by omega, q3.tr r3, q4.tr r4, r5.trans q5⟩
/-- mustBe() of a NAME, from any state -/
theorem rGo.mbn {w k : Nat} (H : rH Tt len cnt lo N S P A L V kk pp ee f) (fm : tFm V τ) (G : rGo k0 L env τ g T c am B s1 τ1) (hk : k < 4) (hw : w < cnt) (hu : rUs f pp ee (V.2.2.1 32) L env w) (hc : c + B + 1 ≤ 9000) (hn : am + 5 ≤ n) : ∃ x, (w < 2010 ∧ τ1.2.2.1 32 w = nI x ∧ x < 700 ∧ τ1.2.2.1 4 w = pp w) ∧ ∃ τ2, zF h0 qs ks Tt n 45 [.ref h0, .int (τ1.2.2.1 31 x), .int (rKd (k + 2)), .int (pp w)] τ1 = some (none, τ2) ∧ rGo k0 L env τ g T c am (B + 1) (mMu (mNm f pp ee env w s1) (mB k) (pp w) s1) τ2 := by
  obtain ⟨g1, T1, c1, q1, q2, q3, q4, q5⟩ := G
  have fm' := fm.tr q3
  obtain ⟨x, x1, x2, τ2, e, g2, T2, c2, r1, r2, r3, r4, r5⟩ := q1.mbn (h0 := h0) (qs := qs) (ks := ks) (n := n) (pl := pp w) (w := w) (f := f) (pp := pp) (ee := ee) H.1.1 H.2.2.1 hn (by omega) hk (by rw [fm'.2.2.1 32 (by omega)]; exact hu)
  exact ⟨x, ⟨by have := H.2.1.2.2.2.2.2.2; omega, x1, x2, (fm'.r (by omega) w).trans (H.2.1.pl (by omega))⟩, τ2, e, g2, T2, c2, r1, by omega, q3.tr r3, q4.tr r4, r5.trans q5⟩
/-- a row of the tree, from any state -/
theorem rGo.row (fm : tFm V τ) (G : rGo k0 L env τ g T c am B s1 τ1) {k j : Nat} {v : Int32} (hk : ¬ (k = 31 ∨ (34 ≤ k ∧ k ≤ 39))) (h : V.2.2.1 k j = v) : τ1.2.2.1 k j = v := by
  obtain ⟨g1, T1, c1, q1, q2, q3, q4, q5⟩ := G
  exact ((fm.tr q3).r hk j).trans h
theorem rt_8 (H : rH Tt len cnt lo N S P A L V kk pp ee f) : rTyp ks qs Tt h0 k0 cnt lo N S P A aM L V kk pp ee f (.inner 8 d z a b) := fun env τ s g T c am m n ht fm hx hs hc ha hn => by
  obtain ⟨tr, wf, o3, wo, -, -⟩ := ht
  obtain ⟨n, rfl⟩ : ∃ n', n = n' + 1 := ⟨n - 1, by omega⟩
  have G0 := rGo.rf hx
  have t0 : rNd pp V lo N m 8 d.1 := tr
  have hm : m < 2100 := by have := t0.1.2; have := H.1.2.1; omega
  have h6 : τ.2.2.1 6 m = nI 8 := G0.row fm (by omega) t0.2.1
  have hc : c + ((sEv d.2.2.2.1.2).length + (sEv d.2.2.2.2.2).length + 2 + tC a + tC b) ≤ 9000 := hc
  have hn : aM + 7 + (max (tDr a) (tDr b) + 3) ≤ n + 1 := hn
  obtain ⟨n, rfl⟩ : ∃ n', n = n' + 1 := ⟨n - 1, by omega⟩
  obtain ⟨τ', v, e1, e2⟩ := G0.pla (h0 := h0) (qs := qs) (ks := ks) (Tt := Tt) (n := n) (by omega) (k := 1) (by decide) d.1
  rw [zE_typed]
  unfold b_typed
  simp only [zgd, zin_n hm (by decide), if_true, nI_clamp (show m < 2 ^ 31 by omega), h6]
  rw [if_neg (by decide), if_neg (by decide), if_neg (by decide), if_neg (by decide), if_neg (by decide), if_neg (by decide), if_neg (by decide), if_pos (by decide)]
  rw [show (2 : Int32) = rKd (1 + 2) from rfl, e1]
  have ab : a = .leaf ∧ b = .leaf := by
    rcases wf with ⟨h, _⟩ | ⟨h, _⟩ | ⟨_, h⟩
    · cases h
    · cases h
    · rcases h with ⟨h, _⟩ | ⟨h, _⟩ | ⟨h, _⟩ | ⟨h, _⟩ | ⟨h, _⟩ | ⟨h, _⟩ | ⟨h, _⟩ | ⟨_, _, h⟩ | ⟨h, _⟩ | ⟨h, _⟩ | ⟨h, _⟩ | ⟨h, _⟩ | ⟨h, _⟩ | ⟨h, _⟩
      all_goals first | exact h | (exfalso; omega)
  obtain ⟨rfl, rfl⟩ := ab
  exact ⟨τ', v, rfl, e2.mo (by show 0 + 1 ≤ (sEv d.2.2.2.1.2).length + (sEv d.2.2.2.2.2).length + 2 + 0 + 0; omega) (Nat.le_add_right _ _)⟩
theorem rt_9 (H : rH Tt len cnt lo N S P A L V kk pp ee f) : rTyp ks qs Tt h0 k0 cnt lo N S P A aM L V kk pp ee f (.inner 9 d z a b) := fun env τ s g T c am m n ht fm hx hs hc ha hn => by
  obtain ⟨tr, wf, o3, wo, -, -⟩ := ht
  obtain ⟨n, rfl⟩ : ∃ n', n = n' + 1 := ⟨n - 1, by omega⟩
  have G0 := rGo.rf hx
  have t0 : rNd pp V lo N m 9 d.1 := tr
  have hm : m < 2100 := by have := t0.1.2; have := H.1.2.1; omega
  have h6 : τ.2.2.1 6 m = nI 9 := G0.row fm (by omega) t0.2.1
  have hc : c + ((sEv d.2.2.2.1.2).length + (sEv d.2.2.2.2.2).length + 2 + tC a + tC b) ≤ 9000 := hc
  have hn : aM + 7 + (max (tDr a) (tDr b) + 3) ≤ n + 1 := hn
  obtain ⟨n, rfl⟩ : ∃ n', n = n' + 1 := ⟨n - 1, by omega⟩
  obtain ⟨τ', v, e1, e2⟩ := G0.pla (h0 := h0) (qs := qs) (ks := ks) (Tt := Tt) (n := n) (by omega) (k := 1) (by decide) d.1
  rw [zE_typed]
  unfold b_typed
  simp only [zgd, zin_n hm (by decide), if_true, nI_clamp (show m < 2 ^ 31 by omega), h6]
  rw [if_neg (by decide), if_neg (by decide), if_neg (by decide), if_neg (by decide), if_neg (by decide), if_neg (by decide), if_neg (by decide), if_neg (by decide), if_pos (by decide)]
  rw [show (2 : Int32) = rKd (1 + 2) from rfl, e1]
  have ab : a = .leaf ∧ b = .leaf := by
    rcases wf with ⟨h, _⟩ | ⟨h, _⟩ | ⟨_, h⟩
    · cases h
    · cases h
    · rcases h with ⟨h, _⟩ | ⟨h, _⟩ | ⟨h, _⟩ | ⟨h, _⟩ | ⟨h, _⟩ | ⟨h, _⟩ | ⟨h, _⟩ | ⟨_, _, h⟩ | ⟨h, _⟩ | ⟨h, _⟩ | ⟨h, _⟩ | ⟨h, _⟩ | ⟨h, _⟩ | ⟨h, _⟩
      all_goals first | exact h | (exfalso; omega)
  obtain ⟨rfl, rfl⟩ := ab
  exact ⟨τ', v, rfl, e2.mo (by show 0 + 1 ≤ (sEv d.2.2.2.1.2).length + (sEv d.2.2.2.2.2).length + 2 + 0 + 0; omega) (Nat.le_add_right _ _)⟩
theorem rt_17 (H : rH Tt len cnt lo N S P A L V kk pp ee f) : rTyp ks qs Tt h0 k0 cnt lo N S P A aM L V kk pp ee f (.inner 17 d z a b) := fun env τ s g T c am m n ht fm hx hs hc ha hn => by
  obtain ⟨tr, wf, o3, wo, -, -⟩ := ht
  obtain ⟨n, rfl⟩ : ∃ n', n = n' + 1 := ⟨n - 1, by omega⟩
  have G0 := rGo.rf hx
  have t0 : rNd pp V lo N m 17 d.1 := tr
  have hm : m < 2100 := by have := t0.1.2; have := H.1.2.1; omega
  have h6 : τ.2.2.1 6 m = nI 17 := G0.row fm (by omega) t0.2.1
  have hc : c + ((sEv d.2.2.2.1.2).length + (sEv d.2.2.2.2.2).length + 2 + tC a + tC b) ≤ 9000 := hc
  have hn : aM + 7 + (max (tDr a) (tDr b) + 3) ≤ n + 1 := hn
  obtain ⟨n, rfl⟩ : ∃ n', n = n' + 1 := ⟨n - 1, by omega⟩
  obtain ⟨τ', v, e1, e2⟩ := G0.pla (h0 := h0) (qs := qs) (ks := ks) (Tt := Tt) (n := n) (by omega) (k := 3) (by decide) d.1
  rw [zE_typed]
  unfold b_typed
  simp only [zgd, zin_n hm (by decide), if_true, nI_clamp (show m < 2 ^ 31 by omega), h6]
  rw [if_neg (by decide), if_neg (by decide), if_neg (by decide), if_neg (by decide), if_neg (by decide), if_neg (by decide), if_neg (by decide), if_neg (by decide), if_neg (by decide), if_neg (by decide), if_neg (by decide), if_neg (by decide), if_neg (by decide), if_neg (by decide), if_neg (by decide), if_neg (by decide), if_pos (by decide)]
  rw [show (5 : Int32) = rKd (3 + 2) from rfl, e1]
  have ab : a = .leaf ∧ b = .leaf := by
    rcases wf with ⟨h, _⟩ | ⟨h, _⟩ | ⟨_, h⟩
    · cases h
    · cases h
    · rcases h with ⟨h, _⟩ | ⟨h, _⟩ | ⟨h, _⟩ | ⟨h, _⟩ | ⟨h, _⟩ | ⟨h, _⟩ | ⟨h, _⟩ | ⟨_, _, h⟩ | ⟨h, _⟩ | ⟨h, _⟩ | ⟨h, _⟩ | ⟨h, _⟩ | ⟨h, _⟩ | ⟨h, _⟩
      all_goals first | exact h | (exfalso; omega)
  obtain ⟨rfl, rfl⟩ := ab
  exact ⟨τ', v, rfl, e2.mo (by show 0 + 1 ≤ (sEv d.2.2.2.1.2).length + (sEv d.2.2.2.2.2).length + 2 + 0 + 0; omega) (Nat.le_add_right _ _)⟩
end RPL
