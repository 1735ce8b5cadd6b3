/-! **the reference: fit()** as a whole -/
/-- what a question and its answer may change -/
def qF6 (V τ : zSt) : Prop := (∀ k, k ∉ [63, 131, 138, 139, 141, 144, 152, 153, 154, 155] → τ.1 k = V.1 k) ∧ (∀ k, k ∉ [64, 140] → τ.2.1 k = V.2.1 k) ∧ (∀ k, k ∉ [40, 41, 65, 89, 90, 91, 92, 93, 94, 95, 96, 97, 98, 100] → τ.2.2.1 k = V.2.2.1 k) ∧ ∀ k, k ∉ [87, 88, 99] → τ.2.2.2 k = V.2.2.2 k
theorem qF6.rf (τ : zSt) : qF6 τ τ := ⟨fun _ _ => rfl, fun _ _ => rfl, fun _ _ => rfl, fun _ _ => rfl⟩
theorem qF6.tr {a b c : zSt} (h : qF6 a b) (g : qF6 b c) : qF6 a c := ⟨fun k x => (g.1 k x).trans (h.1 k x), fun k x => (g.2.1 k x).trans (h.2.1 k x), fun k x => (g.2.2.1 k x).trans (h.2.2.1 k x), fun k x => (g.2.2.2 k x).trans (h.2.2.2 k x)⟩
theorem qF6.of {a b : zSt} (h : qF a b) : qF6 a b := ⟨h.1, h.2.1, fun k x => h.2.2.1 k (fun z => x (by simp only [List.mem_cons, List.not_mem_nil, or_false] at z ⊢; omega)), h.2.2.2⟩
theorem qF6.q {a b : zSt} (h : qF6 a b) : uRq a b := ⟨fun k x y z _ _ _ => h.2.2.1 k (fun z => by simp only [List.mem_cons, List.not_mem_nil, or_false] at z; omega), h.2.2.2 54 (by decide), h.2.2.2 59 (by decide)⟩
theorem qF6.lo {a b : zSt} (h : qF6 a b) {k : Nat} (hk : k < 40) : b.2.2.1 k = a.2.2.1 k := h.2.2.1 k (fun z => by simp only [List.mem_cons, List.not_mem_nil, or_false] at z; omega)
/-- x does not follow at its place: there is a way in which it does not hold -/
def qNo (T : Nat) (f pp ee R R6 : Nat → Int32) (al : Nat × List Bool → Nat → Bool) (Γ : uGm) (sc : List gEn) (X : gTy) (G : List (gN × gTe)) (x : gFc) : Prop := exL (qWy T f pp ee R sc) (kFe (fun L => ¬ gQB (gSl ((scN sc).map Prod.fst)) G x L)) (qLm al Γ R6 sc (some X)) []
/-- what fit() does to the INSTANCES -/
def fitR (T : Nat) (f pp ee : Nat → Int32) (Γ : uGm) (τ τ' : zSt) (w : Bool) (x : gFit) : Prop := match x.2.2.1 with
  | .inl _ => w = false ∧ τ'.2.2.1 65 = τ.2.2.1 65
  | .inr m => ∃ a0, τ.2.2.1 61 (Γ.2.1 (m.1, m.2.1)) = nI a0 ∧ a0 + (gIn Γ.2.2.1 Γ.2.2.2.1 m.2.2.1 m.2.2.2.2).length ≤ 8000 ∧ (∀ j, ¬ (a0 ≤ j ∧ j < a0 + (gIn Γ.2.2.1 Γ.2.2.2.1 m.2.2.1 m.2.2.2.2).length) → τ'.2.2.1 65 j = τ.2.2.1 65 j) ∧ (∀ k y, (gIn Γ.2.2.1 Γ.2.2.2.1 m.2.2.1 m.2.2.2.2)[k]? = some y → (¬ τ'.2.2.1 65 (a0 + k) = 0 ↔ ¬ τ.2.2.1 65 (a0 + k) = 0 ∧ ¬ qNo T f pp ee (τ.2.2.1 32) (τ.2.2.1 66) (alV Γ τ) Γ x.1 x.2.1 x.2.2.2 y)) ∧ (w = true ↔ ∃ k y, (gIn Γ.2.2.1 Γ.2.2.2.1 m.2.2.1 m.2.2.2.2)[k]? = some y ∧ ¬ τ.2.2.1 65 (a0 + k) = 0 ∧ qNo T f pp ee (τ.2.2.1 32) (τ.2.2.1 66) (alV Γ τ) Γ x.1 x.2.1 x.2.2.2 y)
section FTT
variable {ks : Nat → Nat} {qs : List Nat} {T n h0 len cnt lo N Ss P A c : Nat} {Γ : uGm} {V τ : zSt} {v : Nat → Nat} {CD : tT → Nat → Prop} {L ns : List Nat} {kk pp ee f : Nat → Int32} {B : Int}
set_option maxHeartbeats 2000000 in
theorem r_fit108 {i : Nat} {x : gFit} (X : qCx T len cnt lo N Ss P A L τ kk pp ee f CD Γ v B qs) (hn : 1300 ≤ n) (hco : rCo τ ns) (hx : uFt CD Γ v τ i x) (Q : qSg T cnt kk pp ee f (τ.2.2.1 32) L Γ B x.1) (hA : gAq Γ ((scN x.1).map Prod.fst) B x.2.1) (hB : gAq Γ ((scN x.1).map Prod.fst) B x.2.2) : ∃ τ' w ns', zF h0 qs ks T (n + 7) 108 [.ref h0, .int (nI i)] τ = some (some (.int (b01 w)), τ') ∧ qF6 τ τ' ∧ rCo τ' ns' ∧ fitR T f pp ee Γ τ τ' w x := by
  obtain ⟨X1, X2, X3, X4, X5, X6, X7⟩ := id X
  obtain ⟨Q1, Q2, Q3, Q4, Q5, Q6, Q7, Q8, Q9⟩ := id Q
  obtain ⟨i1, a, b, h75, h76, tA, tB, hAB, hM, hS⟩ := hx
  obtain ⟨sc, Xa, Xb⟩ := x
  have i12 : i < 12000 := by have : v 116 ≤ 12000 := X3 116; omega
  obtain ⟨s, k, t1, t2, t3, t4, t5, -⟩ := tB.sd (by rw [← hAB]; exact hM)
  have b40 : b < 40000 := by have : v 75 ≤ 40000 := X3 75; omega
  have s24 : s < 24000 := by have : v 79 ≤ 24000 := X3 79; have := t5.1; omega
  rw [show n + 7 = (n + 6) + 1 from rfl, zE_fit]
  unfold b_fit
  rw [zgd_at (zin_n i12 (by decide)), nI_clamp (show i < 2 ^ 31 by omega), h76, zgd_at (zin_n b40 (by decide)), nI_clamp (show b < 2 ^ 31 by omega), t4, zgd_at (zin_n s24 (by decide)), nI_clamp (show s < 2 ^ 31 by omega)]
  obtain ⟨s1, s2, s3⟩ := id t5
  rcases Xb with ⟨y | m, G⟩
  · obtain ⟨s4, -⟩ := s3
    rw [s4, if_neg m1_lt.1]
    exact ⟨τ, false, ns, rfl, qF6.rf τ, hco, rfl, rfl⟩
  · obtain ⟨s4, s5, s6, a0, s7, s8, s9, s10⟩ := s3
    have c64 : Γ.2.1 (m.1, m.2.1) < 64 := by have : v 98 ≤ 64 := X3 98; omega
    have v99 : v 99 ≤ 8000 := X3 99
    obtain ⟨hB1, hB2, hB3, hB4⟩ := id hB
    have hB1 : ∀ x, x ∈ gIn Γ.2.2.1 Γ.2.2.2.1 m.2.2.1 m.2.2.2.2 → x.1 ≤ 4 ∧ gTw Γ x.2 ∧ (∀ y e, (gRs G x.2).1 = some (y, e) → y ∈ (scN sc).map Prod.fst) ∧ gTb B (gRs G x.2) := hB1
    generalize eF : gIn Γ.2.2.1 Γ.2.2.2.1 m.2.2.1 m.2.2.2.2 = F at *
    rw [s4, if_pos (show (0 : Int32) ≤ nI _ from nI_le (a := 0) (by omega) (by omega))]
    simp only [zlet]
    rw [zgd_at (zin_n c64 (by decide)), nI_clamp (show Γ.2.1 (m.1, m.2.1) < 2 ^ 31 by omega), show (zI τ 155 (nI s)).2.2.1 61 (Γ.2.1 (m.1, m.2.1)) = nI a0 from s7]
    obtain ⟨τ2, b1, ⟨b2, b3, b4, b5⟩, b6, b7⟩ := r_ft38 (h0 := h0) (qs := qs) (ks := ks) (T := T) (call := zF h0 qs ks T (n + 6)) (x1 := nI i) (cc := Γ.2.1 (m.1, m.2.1)) (a0 := a0) (m := F.length) c64 (by omega) F.length 0 T (zI τ 155 (nI s)) (Nat.zero_add _) (by omega) s8
    have b1 : l_fit_38 T (zF h0 qs ks T (n + 6)) h0 qs ks T (nI i) (nI (Γ.2.1 (m.1, m.2.1))) (nI a0) (zI τ 155 (nI s)) = fEn1 T (zF h0 qs ks T (n + 6)) h0 qs ks (nI i) (nI (Γ.2.1 (m.1, m.2.1))) τ2 := b1
    rw [b1]
    have q2 : qF τ τ2 := ⟨fun k hk => by
      rw [b2]
      exact if_neg (fun e => hk (by rw [e]; decide)), fun k _ => by rw [b3]; rfl, fun k hk => (b4 k (fun e => hk (by rw [e]; decide))).trans rfl, fun k _ => by rw [b5]; rfl⟩
    have e155 : τ2.1 155 = nI s := by rw [b2]; rfl
    have u2 : uRq τ τ2 := q2.q
    unfold fEn1
    iterate 3 rw [zgd_at (zin_n i12 (by decide))]
    rw [nI_clamp (show i < 2 ^ 31 by omega), u2.r (k := 77), u2.r (k := 78), u2.r (k := 75), h75]
    have X' := X.ro (τ' := τ2) (fun k hk => q2.lo hk)
    have e32 : τ2.2.2.1 32 = τ.2.2.1 32 := q2.lo (by decide)
    obtain ⟨hch, hgo⟩ := hS
    obtain ⟨ch, ch1, ch2, ch3⟩ := hch
    obtain ⟨V, τ3, Sk, c1, c2, c3, c4, c5, c6, c7, c8⟩ := r_under (h0 := h0) (qs := qs) (ks := ks) (T := T) (n := n) (τ := τ2) (sc := sc) (x1 := τ.2.2.1 77 i) (x2 := τ.2.2.1 78 i) (x3 := nI a) (lf := some Xa) (ns0 := ns) (B := B) X7 hn X3 X'.1 X'.2.1 (hco.cg (by rw [b2]; rfl) (b4 89 (by decide)) (b4 90 (by decide))) ⟨⟨ch, ch1, ch2, uEv.q u2 _ _ ch3⟩, uGo.q u2 _ _ hgo⟩ Q1 Q2 Q3 X'.2.2.2.1 Q4 Q5 (by rw [e32]; exact Q6) Q7 ⟨a, rfl, uTy.q u2 _ _ _ tA, hM, hA⟩ (Or.inr ⟨s, _, e155, t5.q u2, hB⟩) ⟨by omega, by omega⟩
    rw [c1, zci_at, if_neg (by decide)]
    have e65 : τ2.2.2.1 65 = τ.2.2.1 65 := b4 65 (by decide)
    have eal : alV Γ τ2 = alV Γ τ := alV.q u2 e65
    have qV : qF τ V := q2.tr (qF.u c2)
    have e32V : V.2.2.1 32 = τ.2.2.1 32 := qV.lo (by decide)
    have uV : uRq τ V := qV.q
    have e66 : τ2.2.2.1 66 = τ.2.2.1 66 := b4 66 (by decide)
    have eV65 : V.2.2.1 65 = τ.2.2.1 65 := qV.2.2.1 65 (by decide)
    obtain ⟨τ4, d1, d2, d3⟩ := r_goI (h0 := h0) (qs := qs) (ks := ks) (n := n + 6) (τ := τ3) (sc := sc) (lf := some Xa) (s := s) (cc := Γ.2.1 (m.1, m.2.1)) (a0 := a0) (G := G) (F := F) (X.ro (fun k hk => qV.lo hk)) (by rw [e32V]; exact Q) (by omega) c6 c7 c8 ((c2.1 155 (by decide)).trans e155) s24 (by rw [uV.r]; exact s4) c64 (by rw [uV.r]; exact s7) (by rw [uV.r]; exact s8) (by omega) (by rw [uV.r (k := 49)]; exact uPu.q uV _ _ s2) ⟨hB2, hB4⟩ (fun i x hx => ⟨(s10 i x hx).q uV, hB1 x (List.mem_of_getElem? hx)⟩) c3
    rw [d1, zcv_at]
    unfold j_fit_92
    have q4 : qF τ τ4 := qV.tr (qF.g d2)
    have u4 := q4.q
    rw [zgd_at (zin_n c64 (by decide)), nI_clamp (show Γ.2.1 (m.1, m.2.1) < 2 ^ 31 by omega), u4.r (k := 61), s7]
    obtain ⟨τ5, w, g1, ⟨g2, g3, g4, g5⟩, g6, g7⟩ := r_ft103 (h0 := h0) (qs := qs) (ks := ks) (T := T) (call := zF h0 qs ks T (n + 6)) (cc := Γ.2.1 (m.1, m.2.1)) (a0 := a0) (m := F.length) c64 (by omega) F.length 0 T false τ4 (Nat.zero_add _) (by omega) (by rw [u4.r (k := 62)]; exact s8)
    have g6 : ∀ j, τ5.2.2.1 65 j = if a0 ≤ j ∧ j < a0 + F.length ∧ ¬ τ4.2.2.1 100 j = 0 then 0 else τ4.2.2.1 65 j := g6
    have g7 : w = true ↔ false = true ∨ ∃ j, a0 ≤ j ∧ j < a0 + F.length ∧ ¬ τ4.2.2.1 65 j = 0 ∧ ¬ τ4.2.2.1 100 j = 0 := g7
    have g1 : l_fit_103 T (zF h0 qs ks T (n + 6)) h0 qs ks T (nI (Γ.2.1 (m.1, m.2.1))) 0 (nI a0) τ4 = some (some (.int (b01 w)), τ5) := g1
    rw [g1]
    have e65' : τ4.2.2.1 65 = τ.2.2.1 65 := q4.2.2.1 65 (by decide)
    have e100 : ∀ k, k < F.length → τ3.2.2.1 100 (a0 + k) = 0 := fun k hk => by
      rw [c4.2, c2.2.2.1 100 (by decide)]
      exact b6 _ (by omega) (by omega)
    have key : ∀ k y, F[k]? = some y → ¬ τ.2.2.1 65 (a0 + k) = 0 → (¬ τ4.2.2.1 100 (a0 + k) = 0 ↔ qNo T f pp ee (τ.2.2.1 32) (τ.2.2.1 66) (alV Γ τ) Γ sc Xa G y) := fun k y hk hl => by
      have q := d3 k y hk (by rw [eV65]; exact hl)
      rw [q, e100 k (get_lt hk), e32V]
      unfold qNo qLm
      rw [eal, e66]
      exact ⟨fun z => z.elim (fun z => absurd rfl z) id, Or.inr⟩
    refine ⟨τ5, w, _, rfl, ?_, (c6.cg (d2.1 131 (by decide)) (d2.2.2.1 89 (by decide)) (d2.2.2.1 90 (by decide))).cg (by rw [g2]) (g4 89 (by decide)) (g4 90 (by decide)), ?_⟩
    · refine (qF6.of q4).tr ⟨fun k _ => by rw [g2], fun k _ => by rw [g3], fun k hk => g4 k (fun e => hk (by rw [e]; decide)), fun k _ => by rw [g5]⟩
    · show ∃ a0, _
      rw [eF]
      refine ⟨a0, s7, by omega, fun j hj => ?_, fun k y hk => ?_, ?_⟩
      · rw [g6 j, if_neg (fun q => hj ⟨q.1, q.2.1⟩), e65']
      · have hkl := get_lt hk
        rw [g6 (a0 + k)]
        by_cases z : τ.2.2.1 65 (a0 + k) = 0
        · constructor
          · intro q
            exfalso
            apply q
            split
            · rfl
            · rw [e65', z]
          · rintro ⟨q, -⟩
            exact absurd z q
        · have K := key k y hk z
          by_cases q : τ4.2.2.1 100 (a0 + k) = 0
          · rw [if_neg (fun r => r.2.2 q), e65']
            exact ⟨fun r => ⟨r, fun s => (K.mpr s) q⟩, fun r => r.1⟩
          · rw [if_pos ⟨by omega, by omega, q⟩]
            exact ⟨fun r => absurd rfl r, fun r => absurd (K.mp q) r.2⟩
      · rw [g7]
        constructor
        · rintro (z | ⟨j, j1, j2, j3, j4⟩)
          · cases z
          · obtain ⟨k, rfl⟩ : ∃ k, j = a0 + k := ⟨j - a0, by omega⟩
            have hkl : k < F.length := by omega
            rw [e65'] at j3
            exact ⟨k, F[k], List.getElem?_eq_getElem hkl, j3, (key k _ (List.getElem?_eq_getElem hkl) j3).mp j4⟩
        · rintro ⟨k, y, hk, j3, j4⟩
          have hkl := get_lt hk
          exact Or.inr ⟨a0 + k, by omega, by omega, by rw [e65']; exact j3, (key k y hk j3).mpr j4⟩
end FTT
