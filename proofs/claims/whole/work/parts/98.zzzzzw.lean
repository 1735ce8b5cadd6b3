/-! the reference's typed(): new types, join -/
section RVL
variable {ks : Nat → Nat} {qs : List Nat} {Tt h0 k0 len cnt lo N S P A aM c0 am am' n m B : Nat} {Z : List (Nat × Nat)} {L env W : List Nat} {Q : List (Int32 × mF)} {V τ0 τ : zSt} {s s' : mS} {g0 : gG} {T0 : Nat → mF} {kk pp ee f : Nat → Int32}
theorem rS.val {B' : Nat} {ty : mF} {R : zSt → Int32 → Prop} (G : rS k0 Z L env W Q τ0 g0 T0 c0 am B s τ) (hl : mLe [] s s') (he : s'.2.2.2.1 = s.2.2.2.1) (H : ∀ g T c, c ≤ c0 + B → rXE k0 L env τ s g T c am → (∀ q, q ∈ Q → mSat s.1 → ∃ x, q.1 = nI x ∧ gY g T s x q.2) → ∃ τ' v g' T' c', R τ' v ∧ rX k0 τ' s' g' T' c' am' ∧ c' ≤ c + B' ∧ tFm τ τ' ∧ xE g T g' T' ∧ kR9 τ τ' ∧ (mSat s'.1 → ∃ x, v = nI x ∧ gY g' T' s' x ty)) : ∃ τ' v, R τ' v ∧ rS k0 Z L env W ((v, ty) :: Q) τ0 g0 T0 c0 am' (B + B') s' τ' := by
  obtain ⟨g1, T1, c1, h1, h2, h3, h4, h5, h6, h7, h8⟩ := G
  obtain ⟨τ', v, g2, T2, c2, q0, q1, q2, q3, q4, q5, q6⟩ := H g1 T1 c1 h2 h1 h5
  refine ⟨τ', v, q0, g2, T2, c2, ⟨q1, fun u hu => (h1.2 u hu).up (fun n _ => congrFun q5.1 n) q4 hl (fun z => by cases z)⟩, by omega, h3.tr q3, h4.tr q4, fun q hq z => ?_, fun u hu => (h6 u hu).up (fun n _ => congrFun q5.1 n) q4 hl (fun z => by cases z), fun j hj => (congrFun q5.1 j).trans (h7 j hj), h8.go q5.2 q4 hl (fun p _ => congrFun he p.2)⟩
  rcases List.mem_cons.mp hq with y | y
  · rw [y]; exact q6 z
  · obtain ⟨x, x1, x2⟩ := h5 q y (hl.sat z)
    exact ⟨x, x1, x2.up q4 hl⟩
/-- a new plain type -/
theorem rS.pla {k : Nat} (G : rS k0 Z L env W Q τ0 g0 T0 c0 am B s τ) (hk : k < 4) (hc : c0 + B < 9000) : ∃ τ' v, zF h0 qs ks Tt (n + 1) 40 [.ref h0, .int (rKd (k + 2)), .int (-1), .int (-1)] τ = some (some (.int v), τ') ∧ rS k0 Z L env W ((v, mB k) :: Q) τ0 g0 T0 c0 am (B + 1) s τ' :=
  G.val (R := fun τ' v => zF h0 qs ks Tt (n + 1) 40 [.ref h0, .int (rKd (k + 2)), .int (-1), .int (-1)] τ = some (some (.int v), τ')) (mLe.rf [] s) rfl (fun g T c hc' hx _ => by
    obtain ⟨τ', v, g', T', a1, a2, a3, a4, a5, a6⟩ := hx.pla (h0 := h0) (qs := qs) (ks := ks) (Tt := Tt) (n := n) (by omega) hk
    exact ⟨τ', v, g', T', c + 1, a1, a2.1, Nat.le_refl _, a3, a4, a5, a6⟩)
/-- a new free one -/
theorem rS.fre (G : rS k0 Z L env W Q τ0 g0 T0 c0 am B s τ) (hc : c0 + B < 9000) : ∃ τ' v, zF h0 qs ks Tt (n + 2) 41 [.ref h0] τ = some (some (.int v), τ') ∧ rS k0 Z L env W ((v, mV s.2.1) :: Q) τ0 g0 T0 c0 am (B + 1) (mFr 1 s) τ' :=
  G.val (R := fun τ' v => zF h0 qs ks Tt (n + 2) 41 [.ref h0] τ = some (some (.int v), τ')) (mLe.fr 1 s) rfl (fun g T c hc' hx _ => by
    obtain ⟨τ1, v1, g1, T1, a1, a2, a3, a4, a5, a6, a7⟩ := hx.1.new (h0 := h0) (qs := qs) (ks := ks) (Tt := Tt) (F := n) (by omega) (kd := 0) (l := 0) (r := 0) (x2 := -1) (x3 := -1) (s' := mFr 1 s) (t := mV s.2.1) (by omega) (fun _ z => by cases z) rfl (fun _ gk gt => gt.fre gk)
    refine ⟨τ1, v1, g1, T1, c + 1, ?_, a2, Nat.le_refl _, a3, a4, a6, a7⟩
    rw [zE_openType]
    unfold b_openType
    rw [show (0 : Int32) = rKd 0 from rfl, a1]
    rfl)
/-- a new function -/
theorem rS.fnc {v1 v2 : Int32} {t1 t2 : mF} (G : rS k0 Z L env W Q τ0 g0 T0 c0 am B s τ) (hc : c0 + B < 9000) (h1 : (v1, t1) ∈ Q) (h2 : (v2, t2) ∈ Q) : ∃ τ' v, zF h0 qs ks Tt (n + 1) 40 [.ref h0, .int 4, .int v1, .int v2] τ = some (some (.int v), τ') ∧ rS k0 Z L env W ((v, mA t1 t2) :: Q) τ0 g0 T0 c0 (am + 1) (B + 1) s τ' :=
  G.val (R := fun τ' v => zF h0 qs ks Tt (n + 1) 40 [.ref h0, .int 4, .int v1, .int v2] τ = some (some (.int v), τ')) (mLe.rf [] s) rfl (fun g T c hc' hx hq => by
    by_cases hs : mSat s.1
    · obtain ⟨l, l1, l2⟩ := hq _ h1 hs
      obtain ⟨r, r1, r2⟩ := hq _ h2 hs
      obtain ⟨τ1, v, g1, T1, a1, a2, a3, a4, a5, a6, a7⟩ := hx.1.new (h0 := h0) (qs := qs) (ks := ks) (Tt := Tt) (F := n) (by omega) (kd := 1) (l := l) (r := r) (x2 := v1) (x3 := v2) (s' := s) (t := mA (T l) (T r)) (by omega) (fun _ _ => ⟨l1, r1, l2.1, r2.1⟩) rfl (fun _ gk gt => gt.give gk l2.1 r2.1 (by decide) (fun α => ⟨fun _ => rfl, fun j z => absurd z (by omega)⟩))
      refine ⟨τ1, v, g1, T1, c + 1, a1, a2, Nat.le_refl _, a3, a4, a6, fun z => ?_⟩
      obtain ⟨x, x1, x2, x3⟩ := a7 z
      exact ⟨x, x1, x2, fun α hα => (x3 α hα).trans (by show yA (T l α) (T r α) = yA (t1 α) (t2 α); rw [l2.2 α hα, r2.2 α hα])⟩
    · obtain ⟨τ1, v, g1, T1, a1, a2, a3, a4, a5, a6, a7⟩ := hx.1.new (h0 := h0) (qs := qs) (ks := ks) (Tt := Tt) (F := n) (by omega) (kd := 1) (l := 0) (r := 0) (x2 := v1) (x3 := v2) (s' := s) (t := mA t1 t2) (by omega) (fun z => absurd z hs) rfl (fun z => absurd z hs)
      exact ⟨τ1, v, g1, T1, c + 1, a1, a2, Nat.le_refl _, a3, a4, a6, a7⟩)
/-- join(), and fault(4, place) where it is refused -/
theorem rS.join {v1 v2 pl : Int32} {t1 t2 : mF} (hT : 9010 ≤ Tt) (G : rS k0 Z L env W Q τ0 g0 T0 c0 am B s τ) (h1 : (v1, t1) ∈ Q) (h2 : (v2, t2) ∈ Q) (hn : am + 4 ≤ n) : (τ.1 11 ≠ 0 ∧ rS k0 Z L env W Q τ0 g0 T0 c0 am B (mMu t1 t2 pl s) τ) ∨ (τ.1 11 = 0 ∧ ∃ (r : Bool) (τ1 : zSt), zF h0 qs ks Tt n 44 [.ref h0, .int v1, .int v2] τ = some (some (.int (b01 r)), τ1) ∧ tFm τ τ1 ∧ (r = true → rS k0 Z L env W Q τ0 g0 T0 c0 am B (mMu t1 t2 pl s) τ1) ∧ (r = false → ∃ τ2, (∀ k, zF h0 qs ks Tt (k + 1) 3 [.ref h0, .int 4, .int pl] τ1 = some (none, τ2)) ∧ rS k0 Z L env W Q τ0 g0 T0 c0 am B (mMu t1 t2 pl s) τ2)) := by
  have hl := mLe.mu t1 t2 pl s
  obtain ⟨g1, T1, c1, q1, q2, q3, q4, q5, q6, q7, q8⟩ := G
  by_cases hs : mSat s.1
  · refine Or.inr ⟨q1.1.bad.mp hs, ?_⟩
    obtain ⟨l, rfl, l2⟩ := q5 _ h1 hs
    obtain ⟨r, rfl, r2⟩ := q5 _ h2 hs
    obtain ⟨F, rfl⟩ : ∃ F, n = F + 3 := ⟨n - 3, by omega⟩
    obtain ⟨b, τ1, j1, j2, j3, j4, j5, j6⟩ := q1.1.join (h0 := h0) (qs := qs) (ks := ks) (pl := pl) (F := F) hT (by omega) hs l2 r2
    have fin : ∀ (τ2 : zSt) g2, rX k0 τ2 (mMu t1 t2 pl s) g2 T1 c1 am → tFm τ τ2 → kR9 τ τ2 → g2.n = g1.n → rS k0 Z L env W Q τ0 g0 T0 c0 am B (mMu t1 t2 pl s) τ2 := fun τ2 g2 p1 p2 p3 p4 => by
      have e : xE g1 T1 g2 T1 := ⟨by omega, fun _ _ => rfl⟩
      exact ⟨g2, T1, c1, ⟨p1, fun u hu => (q1.2 u hu).up (fun n _ => congrFun p3.1 n) e hl (fun z => by cases z)⟩, q2, q3.tr p2, q4.tr e, fun q hq z => by
        obtain ⟨x, x1, x2⟩ := q5 q hq (hl.sat z)
        exact ⟨x, x1, x2.up e hl⟩, fun u hu => (q6 u hu).up (fun n _ => congrFun p3.1 n) e hl (fun z => by cases z), fun j hj => (congrFun p3.1 j).trans (q7 j hj), q8.go p3.2 e hl (fun _ _ => rfl)⟩
    refine ⟨b, τ1, j1, j2, fun z => ?_, fun z => ?_⟩
    · obtain ⟨g2, p1, p2⟩ := j5 z
      exact fin τ1 g2 p1 j2 j4 p2
    · refine ⟨zI (zI τ1 11 4) 12 pl, fun k => ?_, fin _ g1 (j6 z) (j2.tr ⟨fun k a b _ _ => by rw [zIn _ _ b, zIn _ _ a], rfl, fun _ _ => rfl, rfl, fnK.sm (by rw [zIn _ _ (by decide), zIn _ _ (by decide)]) rfl rfl rfl⟩) j4 rfl⟩
      rw [r_flt (n := k)]
      unfold rFl
      rw [if_pos j3]
  · refine Or.inl ⟨fun z => hs (q1.1.bad.mpr z), g1, T1, c1, ⟨q1.1.no hs hl, fun _ _ => dY.no (hl.ns hs)⟩, q2, q3, q4, fun q hq z => absurd z (hl.ns hs), fun _ _ => dY.no (hl.ns hs), q7, q8.ns (hl.ns hs)⟩
end RVL
