/-! the reference: decide(), its loop over what must FIT -/
/-- where the INSTANCES of a place begin -/
def iSt (Γ : uGm) (τ : zSt) (kp : Nat × List Bool) : Nat := (τ.2.2.1 61 (Γ.2.1 kp)).toNatClampNeg
/-- INSTANCES of different places lie apart -/
def iDj (Γ : uGm) (FK : Nat × List Bool → List gFc) (τ : zSt) : Prop := ∀ kp kp' k k', k < (FK kp).length → k' < (FK kp').length → iSt Γ τ kp + k = iSt Γ τ kp' + k' → kp = kp'
/-- a fit that can be asked -/
def fGd (T cnt : Nat) (kk pp ee f R : Nat → Int32) (L : List Nat) (Γ : uGm) (B : Int) (FK : Nat × List Bool → List gFc) (x : gFit) : Prop := (qSg T cnt kk pp ee f R L Γ B x.1 ∧ gAq Γ ((scN x.1).map Prod.fst) B x.2.1 ∧ gAq Γ ((scN x.1).map Prod.fst) B x.2.2) ∧ scK Γ.2.2.1 Γ.2.2.2.1 FK x.1 ∧ tyK Γ.2.2.1 Γ.2.2.2.1 FK x.2.1 ∧ tyK Γ.2.2.1 Γ.2.2.2.1 FK x.2.2
section DCL
variable {ks : Nat → Nat} {qs : List Nat} {T n h0 len cnt lo N Ss P A : Nat} {Γ : uGm} {τ0 τ : zSt} {v : Nat → Nat} {CD : tT → Nat → Prop} {L : List Nat} {kk pp ee f : Nat → Int32} {B : Int} {FK : Nat × List Bool → List gFc} {Fs : List gFit}
/-- what stands fast in the loop -/
def dCx (T len cnt lo N Ss P A : Nat) (L : List Nat) (τ : zSt) (kk pp ee f : Nat → Int32) (CD : tT → Nat → Prop) (Γ : uGm) (v : Nat → Nat) (B : Int) (qs : List Nat) (FK : Nat × List Bool → List gFc) (Fs : List gFit) : Prop := qCx T len cnt lo N Ss P A L τ kk pp ee f CD Γ v B qs ∧ iDj Γ FK τ ∧ (τ.1 116 = nI Fs.length ∧ Fs.length ≤ 12000) ∧ ∀ i x, Fs[i]? = some x → uFt CD Γ v τ i x ∧ fGd T cnt kk pp ee f (τ.2.2.1 32) L Γ B FK x
theorem uFt.q {i : Nat} {x : gFit} {τ' : zSt} (h : uRq τ τ') (w : uFt CD Γ v τ i x) : uFt CD Γ v τ' i x := by
  obtain ⟨a, b, c, d1, d2, d3, d4, d5, d6, ⟨ch, e1, e2, e3⟩, e4⟩ := w
  refine ⟨a, b, c, by rw [h.r]; exact d1, by rw [h.r]; exact d2, uTy.q h _ _ _ d3, uTy.q h _ _ _ d4, d5, d6, ⟨ch, e1, e2, ?_⟩, ?_⟩
  · rw [h.r (k := 77)]; exact uEv.q h _ _ e3
  · rw [h.r (k := 78)]; exact uGo.q h _ _ e4
theorem dCx.q (h : dCx T len cnt lo N Ss P A L τ0 kk pp ee f CD Γ v B qs FK Fs) (q : qF6 τ0 τ) : dCx T len cnt lo N Ss P A L τ kk pp ee f CD Γ v B qs FK Fs := by
  obtain ⟨h1, h2, ⟨h3, h3'⟩, h4⟩ := h
  refine ⟨h1.ro (fun k hk => q.lo hk), fun kp kp' k k' a b e => h2 kp kp' k k' a b ?_, ⟨(q.1 116 (by decide)).trans h3, h3'⟩, fun i x e => ⟨(h4 i x e).1.q q.q, by rw [q.lo (show 32 < 40 by decide)]; exact (h4 i x e).2⟩⟩
  unfold iSt at e ⊢
  rw [q.q.r (k := 61)] at e
  exact e
/-- one fit() : nothing that a set that FITS has is taken away -/
theorem fitR.st {w : Bool} {x : gFit} {τ' : zSt} (hD : iDj Γ FK τ) (g : fGd T cnt kk pp ee f (τ.2.2.1 32) L Γ B FK x) (hx : x ∈ Fs) (q : qF6 τ τ') (r : fitR T f pp ee Γ τ τ' w x) {al : gAl} (hs : gSb T f pp ee (τ.2.2.1 32) (τ.2.2.1 66) Γ Fs al) (hl : fLe FK al (alV Γ τ)) : fLe FK al (alV Γ τ') := by
  intro kp k hk ha
  have h0 := hl kp k hk ha
  have e61 : τ'.2.2.1 61 = τ.2.2.1 61 := q.q.r
  obtain ⟨sc, Xa, Xb⟩ := x
  rcases Xb with ⟨y | m, G⟩
  · unfold alV at h0 ⊢
    rw [e61, r.2]
    exact h0
  · obtain ⟨a0, r1, r2, r3, r4, r5⟩ := r
    have eF : gIn Γ.2.2.1 Γ.2.2.2.1 m.2.2.1 m.2.2.2.2 = FK (m.1, m.2.1) := g.2.2.2 m rfl
    rw [eF] at r2 r3 r4 r5
    have st : iSt Γ τ (m.1, m.2.1) = a0 := by unfold iSt; rw [r1, nI_clamp (by omega)]
    unfold alV at h0 ⊢
    rw [e61]
    by_cases c : kp = (m.1, m.2.1)
    · subst c
      rw [r1, nI_clamp (by omega)] at h0 ⊢
      have ek := List.getElem?_eq_getElem hk
      refine decide_eq_true ((r4 k _ ek).mpr ⟨of_decide_eq_true h0, fun z => ?_⟩)
      have eF' : (gIn Γ.2.2.1 Γ.2.2.2.1 m.2.2.1 m.2.2.2.2)[k]? = some (FK (m.1, m.2.1))[k] := by rw [eF]; exact ek
      exact hs _ hx m rfl k _ eF' ha (qNo_mo hl g.2.1 g.2.2.1 z)
    · have : ¬ (a0 ≤ (τ.2.2.1 61 (Γ.2.1 kp)).toNatClampNeg + k ∧ (τ.2.2.1 61 (Γ.2.1 kp)).toNatClampNeg + k < a0 + (FK (m.1, m.2.1)).length) := fun z => by
        have hz := hD kp (m.1, m.2.1) k (iSt Γ τ kp + k - a0) hk (by have : iSt Γ τ kp = (τ.2.2.1 61 (Γ.2.1 kp)).toNatClampNeg := rfl; omega) (by rw [st]; have : iSt Γ τ kp = (τ.2.2.1 61 (Γ.2.1 kp)).toNatClampNeg := rfl; omega)
        exact c hz
      rw [r3 _ this]
      exact h0
/-- one fit() : less is left; if it tells nothing, nothing is gone and all of it FITS -/
theorem fitR.cn {w : Bool} {x : gFit} {τ' : zSt} (r : fitR T f pp ee Γ τ τ' w x) : cn65 (τ'.2.2.1 65) ≤ cn65 (τ.2.2.1 65) ∧ (w = true → cn65 (τ'.2.2.1 65) < cn65 (τ.2.2.1 65)) ∧ (w = false → (∀ j, ¬ τ'.2.2.1 65 j = 0 ↔ ¬ τ.2.2.1 65 j = 0) ∧ ∀ m, x.2.2.1 = .inr m → ∀ k y, (gIn Γ.2.2.1 Γ.2.2.2.1 m.2.2.1 m.2.2.2.2)[k]? = some y → alV Γ τ (m.1, m.2.1) k = true → ¬ qNo T f pp ee (τ.2.2.1 32) (τ.2.2.1 66) (alV Γ τ) Γ x.1 x.2.1 x.2.2.2 y) := by
  obtain ⟨sc, Xa, Xb⟩ := x
  rcases Xb with ⟨y | m, G⟩
  · obtain ⟨r1, r2⟩ := r
    rw [r2]
    exact ⟨Nat.le_refl _, fun z => (by rw [r1] at z; cases z), fun _ => ⟨fun _ => Iff.rfl, fun m e => (by cases e)⟩⟩
  · obtain ⟨a0, r1, r2, r3, r4, r5⟩ := r
    have sub : ∀ j, ¬ τ'.2.2.1 65 j = 0 → ¬ τ.2.2.1 65 j = 0 := fun j hj => by
      by_cases c : a0 ≤ j ∧ j < a0 + (gIn Γ.2.2.1 Γ.2.2.2.1 m.2.2.1 m.2.2.2.2).length
      · obtain ⟨k, rfl⟩ : ∃ k, j = a0 + k := ⟨j - a0, by omega⟩
        exact ((r4 k _ (List.getElem?_eq_getElem (show k < _ by omega))).mp hj).1
      · rw [r3 j c] at hj
        exact hj
    obtain ⟨c1, c2⟩ := cn65_le (R := τ.2.2.1 65) (R' := τ'.2.2.1 65) sub
    refine ⟨c1, fun hw => ?_, fun hw => ?_⟩
    · obtain ⟨k, y, hk, h1, h2⟩ := r5.mp hw
      have hkl := get_lt hk
      refine c2 ⟨a0 + k, by omega, h1, Classical.byContradiction fun z => ?_⟩
      exact ((r4 k y hk).mp z).2 h2
    · have no : ∀ k y, (gIn Γ.2.2.1 Γ.2.2.2.1 m.2.2.1 m.2.2.2.2)[k]? = some y → ¬ τ.2.2.1 65 (a0 + k) = 0 → ¬ qNo T f pp ee (τ.2.2.1 32) (τ.2.2.1 66) (alV Γ τ) Γ sc Xa G y := fun k y hk h1 h2 => by
        have := r5.mpr ⟨k, y, hk, h1, h2⟩
        rw [hw] at this
        cases this
      refine ⟨fun j => ⟨sub j, fun hj => ?_⟩, fun m' e k y hk ha => ?_⟩
      · by_cases c : a0 ≤ j ∧ j < a0 + (gIn Γ.2.2.1 Γ.2.2.2.1 m.2.2.1 m.2.2.2.2).length
        · obtain ⟨k, rfl⟩ : ∃ k, j = a0 + k := ⟨j - a0, by omega⟩
          have ek := List.getElem?_eq_getElem (show k < (gIn Γ.2.2.1 Γ.2.2.2.1 m.2.2.1 m.2.2.2.2).length by omega)
          exact (r4 k _ ek).mpr ⟨hj, no k _ ek hj⟩
        · rw [r3 j c]
          exact hj
      · have e : m = m' := by injection e
        subst e
        refine no k y hk ?_
        unfold alV at ha
        rw [r1, nI_clamp (by omega)] at ha
        exact of_decide_eq_true ha
/-- in the loop -/
def dIn (τ0 τ : zSt) : Prop := qF6 τ0 τ ∧ ∃ ns, rCo τ ns
theorem alV_cg {τ' : zSt} (h61 : τ'.2.2.1 61 = τ.2.2.1 61) (h : ∀ j, ¬ τ'.2.2.1 65 j = 0 ↔ ¬ τ.2.2.1 65 j = 0) : alV Γ τ' = alV Γ τ := by
  funext kp i
  unfold alV
  rw [h61]
  exact decide_eq_decide.mpr (h _)
set_option maxHeartbeats 1000000 in
/-- once over all that must FIT -/
theorem r_dc194 {k186 : Int32 → zSt → zRs} (X : dCx T len cnt lo N Ss P A L τ0 kk pp ee f CD Γ v B qs FK Fs) (hn : 1300 ≤ n) : ∀ (d j t : Nat) (b : Bool) (τ : zSt), j + d = Fs.length → d < t → dIn τ0 τ → (∀ al, gSb T f pp ee (τ0.2.2.1 32) (τ0.2.2.1 66) Γ Fs al → fLe FK al (alV Γ τ)) → ∃ τ' b', l_decide_194 T (zF h0 qs ks T (n + 7)) h0 qs ks k186 t (b01 b) (nI j) τ = k186 (b01 b') τ' ∧ dIn τ0 τ' ∧ (∀ al, gSb T f pp ee (τ0.2.2.1 32) (τ0.2.2.1 66) Γ Fs al → fLe FK al (alV Γ τ')) ∧ cn65 (τ'.2.2.1 65) ≤ cn65 (τ.2.2.1 65) ∧ (b' = true → b = true ∨ cn65 (τ'.2.2.1 65) < cn65 (τ.2.2.1 65)) ∧ (b' = false → b = false ∧ alV Γ τ' = alV Γ τ ∧ ∀ i x, j ≤ i → Fs[i]? = some x → ∀ m, x.2.2.1 = .inr m → ∀ k y, (gIn Γ.2.2.1 Γ.2.2.2.1 m.2.2.1 m.2.2.2.2)[k]? = some y → alV Γ τ (m.1, m.2.1) k = true → ¬ qNo T f pp ee (τ0.2.2.1 32) (τ0.2.2.1 66) (alV Γ τ) Γ x.1 x.2.1 x.2.2.2 y)
  | 0, j, t, b, τ, hj, ht, D, hg => by
    obtain ⟨t, rfl⟩ : ∃ t', t = t' + 1 := ⟨t - 1, by omega⟩
    obtain ⟨-, -, ⟨x1, x2⟩, -⟩ := X.q D.1
    rw [l_decide_194, x1, if_pos (nI_le (by omega) (by omega))]
    exact ⟨τ, b, rfl, D, hg, Nat.le_refl _, Or.inl, fun z => ⟨z, rfl, fun i x h1 h2 => by have := get_lt h2; omega⟩⟩
  | d + 1, j, t, b, τ, hj, ht, D, hg => by
    obtain ⟨t, rfl⟩ : ∃ t', t = t' + 1 := ⟨t - 1, by omega⟩
    have X' := X.q D.1
    obtain ⟨x0, xD, ⟨x1, x2⟩, x3⟩ := id X'
    obtain ⟨D1, ns, D2⟩ := D
    have hjl : j < Fs.length := by omega
    have ej := List.getElem?_eq_getElem hjl
    obtain ⟨u1, u2⟩ := x3 j _ ej
    obtain ⟨τ1, w, ns', a1, a2, a3, a4⟩ := r_fit108 (h0 := h0) (qs := qs) (ks := ks) (n := n) x0 hn D2 u1 u2.1.1 u2.1.2.1 u2.1.2.2
    rw [l_decide_194, x1, if_neg (nI_ge (by omega) (by omega)), a1, zci_at]
    have e32 : τ.2.2.1 32 = τ0.2.2.1 32 := D1.lo (by decide)
    have e66 : τ.2.2.1 66 = τ0.2.2.1 66 := D1.2.2.1 66 (by decide)
    have hg1 : ∀ al, gSb T f pp ee (τ0.2.2.1 32) (τ0.2.2.1 66) Γ Fs al → fLe FK al (alV Γ τ1) := fun al hal => a4.st xD u2 (List.mem_of_getElem? ej) a2 (by rw [e32, e66]; exact hal) (hg al hal)
    obtain ⟨c1, c2, c3⟩ := a4.cn
    have D' : dIn τ0 τ1 := ⟨D1.tr a2, ns', a3⟩
    have e61 : τ1.2.2.1 61 = τ.2.2.1 61 := a2.q.r
    rw [e32, e66] at c3
    have fin : ∀ b1 : Bool, (b1 = (b || w)) → ∃ τ' b', l_decide_194 T (zF h0 qs ks T (n + 7)) h0 qs ks k186 t (b01 b1) (nI (j + 1)) τ1 = k186 (b01 b') τ' ∧ dIn τ0 τ' ∧ (∀ al, gSb T f pp ee (τ0.2.2.1 32) (τ0.2.2.1 66) Γ Fs al → fLe FK al (alV Γ τ')) ∧ cn65 (τ'.2.2.1 65) ≤ cn65 (τ.2.2.1 65) ∧ (b' = true → b = true ∨ cn65 (τ'.2.2.1 65) < cn65 (τ.2.2.1 65)) ∧ (b' = false → b = false ∧ alV Γ τ' = alV Γ τ ∧ ∀ i x, j ≤ i → Fs[i]? = some x → ∀ m, x.2.2.1 = .inr m → ∀ k y, (gIn Γ.2.2.1 Γ.2.2.2.1 m.2.2.1 m.2.2.2.2)[k]? = some y → alV Γ τ (m.1, m.2.1) k = true → ¬ qNo T f pp ee (τ0.2.2.1 32) (τ0.2.2.1 66) (alV Γ τ) Γ x.1 x.2.1 x.2.2.2 y) := fun b1 hb1 => by
      obtain ⟨τ', b', y1, y2, y3, y4, y5, y6⟩ := r_dc194 (k186 := k186) X hn d (j + 1) t b1 τ1 (by omega) (by omega) D' hg1
      refine ⟨τ', b', y1, y2, y3, by omega, fun z => ?_, fun z => ?_⟩
      · rcases y5 z with q | q
        · rw [hb1] at q
          cases hb : b with
          | true => exact Or.inl rfl
          | false =>
            rw [hb] at q
            have q : w = true := q
            have := c2 q
            exact Or.inr (by omega)
        · exact Or.inr (by omega)
      · obtain ⟨z1, z2, z3⟩ := y6 z
        rw [hb1] at z1
        obtain ⟨z4, z5⟩ := Bool.or_eq_false_iff.mp z1
        obtain ⟨z6, z7⟩ := c3 z5
        have ea := alV_cg (Γ := Γ) e61 z6
        refine ⟨z4, z2.trans ea, fun i x hi hx => ?_⟩
        by_cases c : i = j
        · subst c
          rw [ej] at hx
          injection hx with hx
          subst hx
          exact z7
        · rw [ea] at z3
          exact z3 i x (by omega) hx
    cases hw : w with
    | true =>
      rw [if_neg (show ¬ b01 true = 0 by decide)]
      unfold j_decide_214 j_decide_219
      rw [nI_p1]
      exact fin true (by rw [hw, Bool.or_true])
    | false =>
      rw [if_pos (show b01 false = 0 from rfl)]
      cases hb : b with
      | true =>
        rw [if_neg (show ¬ b01 true = 0 by decide)]
        unfold j_decide_214 j_decide_219
        rw [nI_p1]
        have := fin true (by rw [hb]; rfl)
        rw [hb] at this
        exact this
      | false =>
        rw [if_pos (show b01 false = 0 from rfl)]
        unfold j_decide_219
        rw [nI_p1]
        have := fin false (by rw [hb, hw]; rfl)
        rw [hb] at this
        exact this
/-- **until nothing is taken away** -/
theorem r_dc186 (X : dCx T len cnt lo N Ss P A L τ0 kk pp ee f CD Γ v B qs FK Fs) (hT : 12400 ≤ T) (hn : 1300 ≤ n) : ∀ (t : Nat) (τ : zSt), cn65 (τ.2.2.1 65) + 1 < t → dIn τ0 τ → (∀ al, gSb T f pp ee (τ0.2.2.1 32) (τ0.2.2.1 66) Γ Fs al → fLe FK al (alV Γ τ)) → ∃ τ', l_decide_186 T (zF h0 qs ks T (n + 7)) h0 qs ks t 1 τ = l_decide_236 T (zF h0 qs ks T (n + 7)) h0 qs ks T 0 (zI τ' 69 (-1)) ∧ dIn τ0 τ' ∧ gGr T f pp ee (τ0.2.2.1 32) (τ0.2.2.1 66) Γ FK Fs (alV Γ τ') := by
  intro t
  induction t with
  | zero => intro τ ht; omega
  | succ t ih =>
    intro τ ht D hg
    rw [l_decide_186, if_neg (by decide)]
    obtain ⟨τ1, b, a1, a2, a3, a4, a5, a6⟩ := r_dc194 (h0 := h0) (qs := qs) (ks := ks) (k186 := l_decide_186 T (zF h0 qs ks T (n + 7)) h0 qs ks t) X hn Fs.length 0 T false τ (Nat.zero_add _) (by have := X.2.2.1.2; omega) D hg
    have a1 : l_decide_194 T (zF h0 qs ks T (n + 7)) h0 qs ks (l_decide_186 T (zF h0 qs ks T (n + 7)) h0 qs ks t) T 0 0 τ = _ := a1
    rw [a1]
    cases hb : b with
    | true =>
      have c : cn65 (τ1.2.2.1 65) < cn65 (τ.2.2.1 65) := by
        rcases a5 hb with z | z
        · cases z
        · exact z
      exact ih τ1 (by omega) a2 a3
    | false =>
      obtain ⟨-, z2, z3⟩ := a6 hb
      refine ⟨τ1, ?_, a2, ?_, a3⟩
      · obtain ⟨t', e⟩ : ∃ t', t = t' + 1 := ⟨t - 1, by omega⟩
        rw [e, l_decide_186, if_pos (show b01 false = 0 from rfl)]
        rfl
      · intro x hx m hm k y hk ha
        obtain ⟨i, hi⟩ := List.getElem?_of_mem hx
        rw [z2] at ha ⊢
        exact z3 i x (Nat.zero_le _) hi m hm k y hk ha
end DCL
