/-! the reference's typeOfCall: one ARG -/
section RA1
variable {ks : Nat → Nat} {qs : List Nat} {Tt h0 k0 len cnt lo N S P A aM c0 am n m B k r l r' x6 w : Nat} {Z Z' : List (Nat × Nat)} {L env W W' : List Nat} {V τ0 τ : zSt} {s s' : mS} {g0 : gG} {T0 : Nat → mF} {kk pp ee f : Nat → Int32} {Q Q' : List (Int32 × mF)} {v v7 : Int32} {t ty tl tr : mF} {K : Int32 → Int32 → Int32 → zSt → zRs}
theorem rS.nx (G : rS k0 Z L env W Q τ0 g0 T0 c0 am B s τ) (hs : ¬ mSat s.1) (hl : mLe W' s s') (hw : ∀ u, u ∈ W → u ∈ W') (hz : ∀ p, p ∈ Z → p ∈ Z') : rS k0 Z' L env W' Q' τ0 g0 T0 c0 am B s' τ := by
  obtain ⟨g', T', c', h1, h2, h3, h4, h5, h6, h7, h8⟩ := G
  exact ⟨g', T', c', ⟨h1.1.no hs hl, fun _ _ => dY.no (hl.ns hs)⟩, h2, h3, h4, fun q hq z => absurd z (hl.ns hs), fun _ _ => dY.no (hl.ns hs), fun j hj => h7 j (fun u hu => hj u (hw u hu)), fun _ _ z => absurd z (hl.ns hs), fun j hj => h8.2 j (fun p hp => hj p (hz p hp))⟩
theorem r_323 (H : rH Tt len cnt lo N S P A L V kk pp ee f) (fm : tFm V τ0) (G : rS k0 Z L env W Q τ0 g0 T0 c0 am B s τ) (h1 : (v7, ty) ∈ Q) (h2 : (nI l, tl) ∈ Q) (h3 : (nI r', tr) ∈ Q) (hr : r < 9000) (hro : mSat s.1 → r < (τ.1 59).toNatClampNeg ∧ τ.2.2.1 34 r = 4 ∧ τ.2.2.1 35 r = nI l ∧ τ.2.2.1 36 r = nI r') (hx : x6 < 2100) (h21 : V.2.2.1 21 x6 = pp w) (hn : am + 4 ≤ n + 1) : ∃ τ' v', j_typeOfCall_323 Tt (zF h0 qs ks Tt (n + 1)) h0 qs ks K (nI m) (nI k) (nI r) (nI x6) v7 τ = K (nI m) v' (nI (k + 1)) τ' ∧ rS k0 Z L env W ((v', tr) :: Q) τ0 g0 T0 c0 am B (mMu ty tl (pp w) s) τ' := by
  have G' := G.join (h0 := h0) (qs := qs) (ks := ks) (n := n + 1) (pl := pp w) H.1.1 h1 h2 hn
  have e358 : ∀ σ, j_typeOfCall_358 Tt (zF h0 qs ks Tt (n + 1)) h0 qs ks K (nI m) (nI k) (nI r) σ = K (nI m) (σ.2.2.1 36 r) (nI (k + 1)) σ := fun σ => by
    unfold j_typeOfCall_358
    simp only [zgd, zin_n hr (by decide), if_true, nI_clamp (show r < 2 ^ 31 by omega), nI_p1]
  unfold j_typeOfCall_323
  rcases G' with ⟨b1, G1⟩ | ⟨b1, bb, τ1, e1, f1, c1, c2⟩
  · have ns : ¬ mSat s.1 := fun z => b1 (G.bad.mp z)
    rw [if_neg b1, e358]
    exact ⟨_, _, rfl, G.nx ns ((mLe.mu ty tl (pp w) s).no W) (fun u hu => hu) (fun p hp => hp)⟩
  · have hs : mSat s.1 := G.bad.mpr b1
    obtain ⟨o1, o2, o3, o4⟩ := hro hs
    rw [if_pos b1]
    simp only [zgd, zin_n hr (by decide), if_true, nI_clamp (show r < 2 ^ 31 by omega), o3]
    rw [e1, zci_at]
    cases bb with
    | true =>
      rw [if_neg (by decide), e358]
      have G1 := c1 rfl
      have o4' : τ1.2.2.1 36 r = nI r' := ((f1.2.2.2.2.2 r o1 o2).2.2).trans o4
      rw [o4']
      refine ⟨_, _, rfl, G1.sub (fun q hq => ?_)⟩
      rcases List.mem_cons.mp hq with e | e
      · rw [e]; exact h3
      · exact e
    | false =>
      rw [if_pos (by decide)]
      obtain ⟨τ2, e2, G2⟩ := c2 rfl
      have h21' : τ1.2.2.1 21 x6 = pp w := ((fm.tr (G.fm.tr f1)).r (by omega) x6).trans h21
      simp only [zin_n hx (by decide), if_true, nI_clamp (show x6 < 2 ^ 31 by omega), h21']
      rw [e2 n, zcv_at, e358]
      by_cases z : mSat (mMu ty tl (pp w) s).1
      · have hz : τ2.1 11 = 0 := G2.bad.mp z
        have e3 := e2 0
        rw [r_flt] at e3
        exfalso
        have e4 : rFl τ1 4 (pp w) = τ2 := (Prod.mk.inj (Option.some.inj e3)).2
        rw [← e4] at hz
        unfold rFl at hz
        split at hz
        · rw [zIn _ _ (by decide), zIe] at hz; cases hz
        · contradiction
      · exact ⟨_, _, rfl, G2.nx z ((mLe.rf [] _).no W) (fun u hu => hu) (fun p hp => hp)⟩
/-- an ARG in ( ) that is a NAME alone is not that NAME -/
def tA3 (pp : Nat → Int32) : tT → Prop
  | .leaf => True
  | .inner g d _ a b => (g = 33 → isN d.2.2.2.1.2 = true → (pp d.1 = pp (d.2.2.2.1.2.headD (0, false, 0)).2.2 ↔ d.2.1 ≠ 1)) ∧ (g = 15 → tQn a ≤ 4) ∧ (if g = 4 ∨ g = 5 then True else tA3 pp a) ∧ tA3 pp b
/-- ARGS -/
def rArg (ks : Nat → Nat) (qs : List Nat) (Tt h0 k0 cnt lo N S P A aM : Nat) (L : List Nat) (V : zSt) (kk pp ee f : Nat → Int32) (t : tT) : Prop := ∀ (env : List Nat) (τ0 τ : zSt) (s : mS) (g0 : gG) (T0 : Nat → mF) (c0 am B : Nat) (Z : List (Nat × Nat)) (W : List Nat) (Q : List (Int32 × mF)) (v : Int32) (m x q k n fu : Nat), rTr pp V lo N S P A t 0 (x + k) (x + q) → tWf kk cnt t 2 → tO3 t → rWo f pp ee (V.2.2.1 32) L t env → (∀ u, u ∈ env → u ∉ tEv t) → (tEv t).Nodup → nPw (nE V t (x + k) 0) → tFm V τ0 → m < 2100 → V.2.2.1 10 m = nI x → V.2.2.1 11 m = nI q → q < 2100 → rS k0 Z L env W Q τ0 g0 T0 c0 am B s τ → (v, s.2.2.2.2) ∈ Q → (∀ i, i < tQn t → ∀ α, mAll s.1 α → yIs (mRs i s.2.2.2.2 α)) → (∀ u, u ∈ W → u ∉ tW t) → (∀ p, p ∈ Z → ∀ r, r ∈ nE V t (x + k) 0 → p.1 ≠ r.1 ∧ p.2 ≠ r.2) → c0 + B + tC t ≤ 9000 → am + tA t ≤ aM → aM + 8 + tDr t ≤ n → tQn t < fu → ∃ τ' v', l_typeOfCall_139 Tt (zF h0 qs ks Tt n) h0 qs ks fu (nI m) v (nI k) τ = some (some (.int v'), τ') ∧ rS k0 (Z ++ nE V t (x + k) 0) L env (W ++ tW t) [(v', mRs (tQn t) s.2.2.2.2)] τ0 g0 T0 c0 (am + tA t) (B + tC t) (mE f pp ee t env s).1 τ'
theorem r_arZ : rArg ks qs Tt h0 k0 cnt lo N S P A aM L V kk pp ee f .leaf := fun env τ0 τ s g0 T0 c0 am B Z W Q v m x q k n fu ht wf o3 wo dj nd pw fm hm h10 h11 hq G hv hi hW hZ hc ha hn hf => by
  obtain ⟨fu, rfl⟩ : ∃ f', fu = f' + 1 := ⟨fu - 1, by omega⟩
  have ht : x + q = x + k := ht
  have e11 : τ.2.2.1 11 m = nI q := G.row fm (by omega) h11
  refine ⟨τ, v, ?_, ?_⟩
  · rw [l_typeOfCall_139]
    simp only [zgd, zin_n hm (by decide), if_true, nI_clamp (show m < 2 ^ 31 by omega), e11]
    rw [if_pos (nI_le (by omega) (by omega))]
  · show rS k0 (Z ++ []) L env (W ++ []) [(v, s.2.2.2.2)] τ0 g0 T0 c0 (am + 0) (B + 0) s τ
    rw [List.append_nil, List.append_nil]
    exact G.sub (fun y hy => by rw [List.mem_singleton.mp hy]; exact hv)
end RA1
section RA2
variable {ks : Nat → Nat} {qs : List Nat} {Tt h0 k0 len cnt lo N S P A aM c0 am n m B : Nat} {Z Z' : List (Nat × Nat)} {L env W W' : List Nat} {V τ0 τ : zSt} {s s' : mS} {g0 : gG} {T0 : Nat → mF} {kk pp ee f : Nat → Int32} {Q Q' : List (Int32 × mF)} {d : Nat × Nat × Nat × tS × tS} {z : Unit} {a b : tT}
theorem rTr_qn : ∀ (t : tT) (m0 m : Nat), tWf kk cnt t 2 → rTr pp V lo N S P A t 0 m0 m → m = m0 + tQn t
  | .leaf, m0, m, _, h => h
  | .inner g d _ a b, m0, m, wf, h => by
    rcases wf with ⟨h, _⟩ | ⟨_, _, wb, hg⟩ | ⟨h, _⟩
    · cases h
    · rcases hg with ⟨rfl, _⟩ | ⟨rfl, _⟩ | ⟨rfl, _⟩
      all_goals
        have := rTr_qn b (m0 + 1) m wb h.2
        show m = m0 + (tQn b + 1)
        omega
    · cases h
theorem rS.re (G : rS k0 Z L env W Q τ0 g0 T0 c0 am B s τ) : ∃ g T c, c ≤ c0 + B ∧ rS k0 [] L env [] [] τ g T c am 0 s τ := by
  obtain ⟨g', T', c', h1, h2, -⟩ := G
  exact ⟨g', T', c', h2, rS.rf h1⟩
theorem mRs_up {t : tT} (hi : ∀ i, i < tQn t + 1 → ∀ α, mAll s.1 α → yIs (mRs i s.2.2.2.2 α)) (hl : mLe W s s') {cu : mF} (e : cu = fun α => yR (s.2.2.2.2 α)) : ∀ i, i < tQn t → ∀ α, mAll (mCu cu s').1 α → yIs (mRs i (mCu cu s').2.2.2.2 α) := fun i h α hα => by
  obtain ⟨l, el⟩ := hl.1
  have hα' : mAll s'.1 α := hα
  rw [el, mAll_ap] at hα'
  subst e
  exact hi (i + 1) (by omega) α hα'.1
theorem r_ar34 (H : rH Tt len cnt lo N S P A L V kk pp ee f) (Ia : rInf ks qs Tt h0 k0 cnt lo N S P A aM L V kk pp ee f a) (Ib : rArg ks qs Tt h0 k0 cnt lo N S P A aM L V kk pp ee f b) : rArg ks qs Tt h0 k0 cnt lo N S P A aM L V kk pp ee f (.inner 34 d z a b) := fun env τ0 τ s g0 T0 c0 am B Z W Q v m x q k n fu ht wf o3 wo dj nd pw fm hm h10 h11 hq G hv hi hW hZ hc ha hn hf => by
  obtain ⟨fu, rfl⟩ : ∃ f', fu = f' + 1 := ⟨fu - 1, by omega⟩
  obtain ⟨n, rfl⟩ : ∃ n', n = n' + 1 := ⟨n - 1, by omega⟩
  have hqn := rTr_qn _ _ _ wf ht
  have hqn : x + q = x + k + (tQn b + 1) := hqn
  have wf' : tWf kk cnt b 2 ∧ d.2.2.2.1.2 = [] ∧ d.2.2.2.2.2 = [] ∧ tWf kk cnt a 0 := by
    rcases wf with ⟨h, _⟩ | ⟨_, h1, wb, hg⟩ | ⟨h, _⟩
    · cases h
    · rcases hg with ⟨h, _⟩ | ⟨_, h2, h3⟩ | ⟨h, _⟩
      · omega
      · exact ⟨wb, h2, h1, h3⟩
      · omega
    · cases h
  obtain ⟨wb, s1, s2, wa⟩ := wf'
  obtain ⟨⟨t0, t1, t2, xa, t3, ta⟩, tb⟩ := ht
  have hc : c0 + B + (tC a + tC b) ≤ 9000 := hc
  have ha : am + (0 + tA a + tA b) ≤ aM := ha
  have hn : aM + 8 + (max (tDr a) (tDr b)) ≤ n + 1 := hn
  have hf : tQn b + 1 < fu + 1 := hf
  have wo : rWs f pp ee (V.2.2.1 32) L env (sEv d.2.2.2.1.2) ∧ rWs f pp ee (V.2.2.1 32) L env (sEv d.2.2.2.2.2) ∧ rWo f pp ee (V.2.2.1 32) L a env ∧ rWo f pp ee (V.2.2.1 32) L b env := wo
  have dj : ∀ u, u ∈ env → u ∉ sEv d.2.2.2.1.2 ++ (sEv d.2.2.2.2.2 ++ (tEv a ++ tEv b)) := dj
  have nd : (sEv d.2.2.2.1.2 ++ (sEv d.2.2.2.2.2 ++ (tEv a ++ tEv b))).Nodup := nd
  have se : sEv ([] : List tP) = [] := rfl
  rw [s1, s2, se, List.nil_append, List.nil_append] at dj nd
  obtain ⟨na, nb, nab⟩ := List.nodup_append.mp nd
  have hW : ∀ u, u ∈ W → u ∉ tW a ++ tW b := hW
  have hxN : xa < 2100 := by have := (rTr_fw ta wa).1; have := H.1.2.1; omega
  have ez : nE V (.inner 34 d z a b) (x + k) 0 = nE V a 0 xa ++ nE V b (x + (k + 1)) 0 := by
    show nE V a 0 (V.2.2.1 20 (x + k)).toNatClampNeg ++ nE V b (x + k + 1) 0 = _
    rw [show V.2.2.1 20 (x + k) = nI xa from t3, nI_clamp (show xa < 2 ^ 31 by omega)]
    rfl
  rw [ez] at pw hZ ⊢
  obtain ⟨pa, pb, pab⟩ := nPwa pw
  have xA : x + k < 2100 := by have := H.1.2.2.2.2; omega
  have e11 : τ.2.2.1 11 m = nI q := G.row fm (by omega) h11
  have e10 : τ.2.2.1 10 m = nI x := G.row fm (by omega) h10
  have e19 : τ.2.2.1 19 (x + k) = 1 := G.row fm (by omega) t1
  have e20 : τ.2.2.1 20 (x + k) = nI xa := G.row fm (by omega) t3
  by_cases hs : mSat s.1
  · have bd := G.bad.mp hs
    obtain ⟨r, l, r', e42, hr, ro, G1⟩ := G.rl (h0 := h0) (qs := qs) (ks := ks) (n := n) H.1.1 hs hv (fun α hα => hi 0 (Nat.succ_pos _) α hα)
    have tea : rTe cnt lo N S P A L V kk pp ee f a env xa := ⟨ta, wa, o3.2.2.1, wo.2.2.1, fun u hu y => dj u hu (List.mem_append_left _ y), na, pa⟩
    obtain ⟨τ2, v2, e2, G2⟩ := G1.ev (n := n + 1) Ia fm tea (fun u hu y => hW u hu (List.mem_append_left _ y)) (fun p hp r hr => hZ p hp r (List.mem_append_left _ hr)) (by omega) (by omega) (by omega)
    obtain ⟨g', T', c', hc', R⟩ := G.re
    obtain ⟨τ2', v2', e2', R2⟩ := R.ev (n := n + 1) Ia (fm.tr G.fm) tea (fun u hu => by cases hu) (fun p hp => by cases hp) (by omega) (by omega) (by omega)
    have e2e : τ2' = τ2 := by rw [e2] at e2'; exact ((Prod.mk.inj (Option.some.inj e2')).2).symm
    subst e2e
    have fk := R2.fm.2.2.2.2
    have fk2 := fk.2 r ro.1 ro.2.1
    obtain ⟨τ3, v3, e3, G3⟩ := r_323 (h0 := h0) (qs := qs) (ks := ks) (n := n) (m := m) (k := k) (r := r) (l := l) (r' := r') (x6 := x + k) (w := d.1) (K := l_typeOfCall_139 Tt (zF h0 qs ks Tt (n + 1)) h0 qs ks fu) H fm G2 (List.mem_cons_self ..) (List.mem_cons_of_mem _ (List.mem_cons_self ..)) (List.mem_cons_of_mem _ (List.mem_cons_of_mem _ (List.mem_cons_self ..))) hr (fun _ => ⟨by have := fk.1; omega, fk2.1, fk2.2.1.trans ro.2.2.1, fk2.2.2.trans ro.2.2.2⟩) xA t2 (by omega)
    have G4 := G3.cg (s' := mCu (fun α => yR (s.2.2.2.2 α)) (mMu (mE f pp ee a env s).2 (fun α => yL (s.2.2.2.2 α)) (pp d.1) (mE f pp ee a env s).1)) rfl (Nat.le_refl _) rfl (fun _ _ => rfl)
    obtain ⟨τ5, v5, e5, G5⟩ := Ib env τ0 τ3 _ g0 T0 c0 _ _ (Z ++ nE V a 0 xa) (W ++ tW a) _ v3 m x q (k + 1) (n + 1) fu tb wb o3.2.2.2 wo.2.2.2 (fun u hu y => dj u hu (List.mem_append_right _ y)) nb pb fm hm h10 h11 hq G4 (List.mem_cons_self ..) (mRs_up (t := b) (fun i h => hi i h) (((mLe.e a env s).mo (fun u hu => hu)).tr ((mLe.mu _ _ _ _).no (tW a))) rfl) (fun u hu y => by
      rcases List.mem_append.mp hu with hu | hu
      · exact hW u hu (List.mem_append_right _ y)
      · exact nab u (tW_ev a u hu) u (tW_ev b u y) rfl) (fun p hp r hr => (List.mem_append.mp hp).elim (fun y => hZ p y r (List.mem_append_right _ hr)) (fun y => pab p y r hr)) (by omega) (by omega) (by omega) (by omega)
    refine ⟨τ5, v5, ?_, ?_⟩
    · rw [← e5, ← e3, l_typeOfCall_139]
      simp only [zgd, zin_n hm (by decide), if_true, nI_clamp (show m < 2 ^ 31 by omega), e11]
      rw [if_neg (nI_ge (show k < q by omega) (by omega)), if_pos bd, e42, zci_at]
      simp only [e10, nI_add, zin_n xA (by decide), if_true, nI_clamp (show x + k < 2 ^ 31 by omega), e19, e20]
      rw [e2, zci_at]
    · have G6 : rS k0 (Z ++ nE V a 0 xa ++ nE V b (x + (k + 1)) 0) L env (W ++ tW a ++ tW b) [(v5, mRs (tQn b) (fun α => yR (s.2.2.2.2 α)))] τ0 g0 T0 c0 (am + tA a + tA b) (B + tC a + tC b) (mE f pp ee b env (mCu (fun α => yR (s.2.2.2.2 α)) (mMu (mE f pp ee a env s).2 (fun α => yL (s.2.2.2.2 α)) (pp d.1) (mE f pp ee a env s).1))).1 τ5 := G5
      rw [List.append_assoc, List.append_assoc] at G6
      exact G6.mo (show _ ≤ B + (tC a + tC b) by omega) (show _ ≤ am + (0 + tA a + tA b) by omega)
  · refine ⟨τ, v, ?_, (G.nx hs ((mLe.e (.inner 34 d z a b) env s).mo (fun u hu => List.mem_append_right W hu)) (fun u hu => List.mem_append_left _ hu) (fun p hp => List.mem_append_left _ hp)).mo (Nat.le_add_right _ _) (Nat.le_add_right _ _)⟩
    rw [l_typeOfCall_139]
    simp only [zgd, zin_n hm (by decide), if_true, nI_clamp (show m < 2 ^ 31 by omega), e11]
    rw [if_neg (nI_ge (show k < q by omega) (by omega)), if_neg (fun y => hs (G.bad.mpr y))]
theorem r_ar35 (H : rH Tt len cnt lo N S P A L V kk pp ee f) (Ib : rArg ks qs Tt h0 k0 cnt lo N S P A aM L V kk pp ee f b) : rArg ks qs Tt h0 k0 cnt lo N S P A aM L V kk pp ee f (.inner 35 d z a b) := fun env τ0 τ s g0 T0 c0 am B Z W Q v m x q k n fu ht wf o3 wo dj nd pw fm hm h10 h11 hq G hv hi hW hZ hc ha hn hf => by
  obtain ⟨fu, rfl⟩ : ∃ f', fu = f' + 1 := ⟨fu - 1, by omega⟩
  obtain ⟨n, rfl⟩ : ∃ n', n = n' + 1 := ⟨n - 1, by omega⟩
  have hqn := rTr_qn _ _ _ wf ht
  have hqn : x + q = x + k + (tQn b + 1) := hqn
  have wf' : tWf kk cnt b 2 ∧ d.2.2.2.1.2 = [] ∧ d.2.2.2.2.2 = [] ∧ a = .leaf ∧ d.2.1 ≤ 1 := by
    rcases wf with ⟨h, _⟩ | ⟨_, h1, wb, hg⟩ | ⟨h, _⟩
    · cases h
    · rcases hg with ⟨h, _⟩ | ⟨h, _⟩ | ⟨_, h2, h3⟩
      · omega
      · omega
      · exact ⟨wb, h2, h1, h3⟩
    · cases h
  obtain ⟨wb, s1, s2, rfl, d1⟩ := wf'
  obtain ⟨⟨t0, t1, t2⟩, tb⟩ := ht
  have hc : c0 + B + ((sEv d.2.2.2.1.2).length + 1 + tC b) ≤ 9000 := hc
  have ha : am + (0 + 0 + tA b) ≤ aM := ha
  have hn : aM + 8 + (max 0 (tDr b)) ≤ n + 1 := hn
  have hf : tQn b + 1 < fu + 1 := hf
  have wo : rWs f pp ee (V.2.2.1 32) L env (sEv d.2.2.2.1.2) ∧ rWs f pp ee (V.2.2.1 32) L env (sEv d.2.2.2.2.2) ∧ True ∧ rWo f pp ee (V.2.2.1 32) L b env := wo
  have dj : ∀ u, u ∈ env → u ∉ sEv d.2.2.2.1.2 ++ (sEv d.2.2.2.2.2 ++ ([] ++ tEv b)) := dj
  have nd : (sEv d.2.2.2.1.2 ++ (sEv d.2.2.2.2.2 ++ ([] ++ tEv b))).Nodup := nd
  have se : sEv ([] : List tP) = [] := rfl
  rw [s1, s2, se, List.nil_append, List.nil_append, List.nil_append] at dj nd
  have hW : ∀ u, u ∈ W → u ∉ [] ++ tW b := hW
  have pw : nPw (nE V b (x + (k + 1)) 0) := pw
  have hZ : ∀ p, p ∈ Z → ∀ r, r ∈ nE V b (x + (k + 1)) 0 → p.1 ≠ r.1 ∧ p.2 ≠ r.2 := hZ
  have xA : x + k < 2100 := by have := H.1.2.2.2.2; omega
  have e11 : τ.2.2.1 11 m = nI q := G.row fm (by omega) h11
  have e10 : τ.2.2.1 10 m = nI x := G.row fm (by omega) h10
  have e19 : τ.2.2.1 19 (x + k) = nI (3 - d.2.1) := G.row fm (by omega) t1
  by_cases hs : mSat s.1
  · have bd := G.bad.mp hs
    obtain ⟨r, l, r', e42, hr, ro, G1⟩ := G.rl (h0 := h0) (qs := qs) (ks := ks) (n := n) H.1.1 hs hv (fun α hα => hi 0 (Nat.succ_pos _) α hα)
    obtain ⟨τ2, v2, e2, G2⟩ := G1.pla (h0 := h0) (qs := qs) (ks := ks) (Tt := Tt) (n := n) (k := 1) (by decide) (by omega)
    have e2 : zF h0 qs ks Tt (n + 1) 40 [.ref h0, .int 2, .int (-1), .int (-1)] τ = _ := e2
    obtain ⟨g', T', c', hc', R⟩ := G.re
    obtain ⟨τ2', v2', e2', R2⟩ := R.pla (h0 := h0) (qs := qs) (ks := ks) (Tt := Tt) (n := n) (k := 1) (by decide) (by omega)
    have e2' : zF h0 qs ks Tt (n + 1) 40 [.ref h0, .int 2, .int (-1), .int (-1)] τ = _ := e2'
    have e2e : τ2' = τ2 := by rw [e2] at e2'; exact ((Prod.mk.inj (Option.some.inj e2')).2).symm
    subst e2e
    have fk := R2.fm.2.2.2.2
    have fk2 := fk.2 r ro.1 ro.2.1
    obtain ⟨τ3, v3, e3, G3⟩ := r_323 (h0 := h0) (qs := qs) (ks := ks) (n := n) (m := m) (k := k) (r := r) (l := l) (r' := r') (x6 := x + k) (w := d.1) (K := l_typeOfCall_139 Tt (zF h0 qs ks Tt (n + 1)) h0 qs ks fu) H fm G2 (List.mem_cons_self ..) (List.mem_cons_of_mem _ (List.mem_cons_self ..)) (List.mem_cons_of_mem _ (List.mem_cons_of_mem _ (List.mem_cons_self ..))) hr (fun _ => ⟨by have := fk.1; omega, fk2.1, fk2.2.1.trans ro.2.2.1, fk2.2.2.trans ro.2.2.2⟩) xA t2 (by omega)
    have G4 := G3.cg (s' := mCu (fun α => yR (s.2.2.2.2 α)) (mMu (mB 1) (fun α => yL (s.2.2.2.2 α)) (pp d.1) s)) rfl (Nat.le_refl _) rfl (fun _ _ => rfl)
    obtain ⟨τ5, v5, e5, G5⟩ := Ib env τ0 τ3 _ g0 T0 c0 _ _ Z W _ v3 m x q (k + 1) (n + 1) fu tb wb o3.2.2.2 wo.2.2.2 dj nd pw fm hm h10 h11 hq G4 (List.mem_cons_self ..) (mRs_up (t := b) (fun i h => hi i h) (mLe.mu _ _ _ _) rfl) hW hZ (by omega) (by omega) (by omega) (by omega)
    refine ⟨τ5, v5, ?_, ?_⟩
    · have n1 : ¬ nI (3 - d.2.1) = 1 := fun y => by
        have := (nI_eq1 (show 3 - d.2.1 < 2 ^ 31 by omega)).mp y
        omega
      have n2 : ¬ nI (3 - d.2.1) ≤ 1 := nI_ge (show 1 < 3 - d.2.1 by omega) (by omega)
      rw [← e5, ← e3, l_typeOfCall_139]
      simp only [zgd, zin_n hm (by decide), if_true, nI_clamp (show m < 2 ^ 31 by omega), e11]
      rw [if_neg (nI_ge (show k < q by omega) (by omega)), if_pos bd, e42, zci_at]
      simp only [e10, nI_add, zin_n xA (by decide), if_true, nI_clamp (show x + k < 2 ^ 31 by omega), e19]
      rw [if_neg n1, if_neg n2, e2, zci_at]
    · have G6 : rS k0 (Z ++ nE V b (x + (k + 1)) 0) L env (W ++ tW b) [(v5, mRs (tQn b) (fun α => yR (s.2.2.2.2 α)))] τ0 g0 T0 c0 (am + tA b) (B + 1 + tC b) (mE f pp ee b env (mCu (fun α => yR (s.2.2.2.2 α)) (mMu (mB 1) (fun α => yL (s.2.2.2.2 α)) (pp d.1) s))).1 τ5 := G5
      exact G6.mo (show _ ≤ B + ((sEv d.2.2.2.1.2).length + 1 + tC b) by omega) (show _ ≤ am + (0 + 0 + tA b) by omega)
  · refine ⟨τ, v, ?_, (G.nx hs ((mLe.e (.inner 35 d z .leaf b) env s).mo (fun u hu => List.mem_append_right W hu)) (fun u hu => List.mem_append_left _ hu) (fun p hp => List.mem_append_left _ hp)).mo (Nat.le_add_right _ _) (Nat.le_add_right _ _)⟩
    rw [l_typeOfCall_139]
    simp only [zgd, zin_n hm (by decide), if_true, nI_clamp (show m < 2 ^ 31 by omega), e11]
    rw [if_neg (nI_ge (show k < q by omega) (by omega)), if_neg (fun y => hs (G.bad.mpr y))]
end RA2
