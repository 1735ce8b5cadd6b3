/-! **the reference: fit()** -/
/-- limits of a question: NAMES, the left side, lengths -/
def qLm (al : Nat × List Bool → Nat → Bool) (Γ : uGm) (R : Nat → Int32) (sc : List gEn) (lf : Option gTy) : List oLm := (scN sc).flatMap (fun x => gLm al Γ.2.2.1 Γ.2.2.2.1 (gSl ((scN sc).map Prod.fst)) (gSl ((scN sc).map Prod.fst) x.1) x.2) ++ (lfM al Γ.2.2.1 Γ.2.2.2.1 (gSl ((scN sc).map Prod.fst)) lf ++ lnL R 0 (1500 :: (scN sc).map (fun x => Γ.1 x.1)))
/-- ways of its conditions -/
def qWy (T : Nat) (f pp ee R : Nat → Int32) (sc : List gEn) : List (List oBr) := (scC sc).map (fun x => (cdM T f pp ee R (gSl ((scN sc).map Prod.fst)) x.1).2.2 x.2)
/-- a scope that can be asked about -/
def qSg (T cnt : Nat) (kk pp ee f R : Nat → Int32) (L : List Nat) (Γ : uGm) (B : Int) (sc : List gEn) : Prop := ((scN sc).map Prod.fst).Nodup ∧ (∀ x, x ∈ scN sc → uNm Γ x.1) ∧ (scN sc).length + 1 ≤ 60 ∧ (∀ u, Sum.inl u ∈ (scN sc).map Prod.fst → u ∈ L) ∧ eCl Γ B (scN sc) ∧ (∀ x, x ∈ scC sc → gCq T cnt kk pp ee f R L B ((scN sc).map Prod.fst) x.1) ∧ (scC sc).length ≤ 100 ∧ ((scC sc).map (fun x => (cdM T f pp ee R (gSl ((scN sc).map Prod.fst)) x.1).1)).sum ≤ 400 ∧ ((scC sc).map (fun x => (cdM T f pp ee R (gSl ((scN sc).map Prod.fst)) x.1).2.1)).sum ≤ 40
/-- what stands fast in all questions -/
def qCx (T len cnt lo N Ss P A : Nat) (L : List Nat) (τ : zSt) (kk pp ee f : Nat → Int32) (CD : tT → Nat → Prop) (Γ : uGm) (v : Nat → Nat) (B : Int) (qs : List Nat) : Prop := uTr T len cnt lo N Ss P A L τ kk pp ee f CD ∧ uQr Γ τ ∧ (∀ k, v k ≤ uLm k) ∧ (∀ u, u ∈ L → Γ.1 (.inl u) = nuO (τ.2.2.1 32) u) ∧ (2 ≤ B ∧ 121 * B < 1125899906842624) ∧ qs.getD 88 0 ≠ qs.getD 87 0 ∧ 8400 ≤ T
/-- what a question may change -/
def qF (V τ : zSt) : Prop := (∀ k, k ∉ [63, 131, 138, 139, 141, 144, 152, 153, 154, 155] → τ.1 k = V.1 k) ∧ (∀ k, k ∉ [64, 140] → τ.2.1 k = V.2.1 k) ∧ (∀ k, k ∉ [40, 41, 89, 90, 91, 92, 93, 94, 95, 96, 97, 98, 100] → τ.2.2.1 k = V.2.2.1 k) ∧ ∀ k, k ∉ [87, 88, 99] → τ.2.2.2 k = V.2.2.2 k
theorem qF.rf (τ : zSt) : qF τ τ := ⟨fun _ _ => rfl, fun _ _ => rfl, fun _ _ => rfl, fun _ _ => rfl⟩
theorem qF.tr {a b c : zSt} (h : qF a b) (g : qF b c) : qF a c := ⟨fun k x => (g.1 k x).trans (h.1 k x), fun k x => (g.2.1 k x).trans (h.2.1 k x), fun k x => (g.2.2.1 k x).trans (h.2.2.1 k x), fun k x => (g.2.2.2 k x).trans (h.2.2.2 k x)⟩
theorem qF.u {a b : zSt} (h : uF2 a b) : qF a b := ⟨fun k x => h.1 k (fun z => x (by simp only [List.mem_cons, List.not_mem_nil, or_false] at z ⊢; omega)), fun k x => h.2.1 k x, fun k x => h.2.2.1 k (fun z => x (by simp only [List.mem_cons, List.not_mem_nil, or_false] at z ⊢; omega)), fun k x => h.2.2.2 k (fun z => x (by rw [z]; decide))⟩
theorem qF.g {a b : zSt} (h : gQ a b) : qF a b := ⟨fun k x => h.1 k (fun z => x (by simp only [List.mem_cons, List.not_mem_nil, or_false] at z ⊢; omega)), fun k x => h.2.1 k x, fun k x => h.2.2.1 k (fun z => x (by simp only [List.mem_cons, List.not_mem_nil, or_false] at z ⊢; omega)), fun k x => h.2.2.2 k (fun z => x (by simp only [List.mem_cons, List.not_mem_nil, or_false] at z ⊢; omega))⟩
theorem qF.q {a b : zSt} (h : qF a b) : uRq a b := ⟨fun k x y _ _ _ _ => h.2.2.1 k (fun z => by simp only [List.mem_cons, List.not_mem_nil, or_false] at z; omega), h.2.2.2 54 (by decide), h.2.2.2 59 (by decide)⟩
theorem qF.lo {a b : zSt} (h : qF a b) {k : Nat} (hk : k < 40) : b.2.2.1 k = a.2.2.1 k := h.2.2.1 k (fun z => by simp only [List.mem_cons, List.not_mem_nil, or_false] at z; omega)
theorem uTr.lo {T len cnt lo N Ss P A : Nat} {L : List Nat} {a b : zSt} {kk pp ee f : Nat → Int32} {CD : tT → Nat → Prop} (W : uTr T len cnt lo N Ss P A L a kk pp ee f CD) (r3 : ∀ k, k < 40 → b.2.2.1 k = a.2.2.1 k) : uTr T len cnt lo N Ss P A L b kk pp ee f CD := ⟨W.1, ⟨W.2.1.1, W.2.1.2.1.keep (r3 1 (by decide)) (r3 3 (by decide)) (r3 4 (by decide)) (r3 5 (by decide)), by rw [r3 32 (by decide)]; exact W.2.1.2.2.1, W.2.1.2.2.2⟩, fun t m h => by
    obtain ⟨w1, w2⟩ := W.2.2 t m h
    refine ⟨rTr.keep ⟨fun m _ _ => funext fun k => congrFun (r3 _ (by omega)) m, fun k j a b _ => congrFun (r3 k (by omega)) j, fun k j a b _ => congrFun (r3 k (by omega)) j, fun m _ => funext fun k => congrFun (r3 _ (by omega)) m⟩ (Nat.le_refl _) (Nat.le_refl _) (Nat.le_refl _) (Nat.le_refl _) (Nat.le_refl _) _ _ _ _ w1, w2⟩⟩
section FIT
variable {ks : Nat → Nat} {qs : List Nat} {T n h0 len cnt lo N Ss P A c : Nat} {Γ : uGm} {V τ : zSt} {v : Nat → Nat} {CD : tT → Nat → Prop} {L ns : List Nat} {kk pp ee f : Nat → Int32} {B : Int}
theorem qCx.ro {τ' : zSt} (h : qCx T len cnt lo N Ss P A L τ kk pp ee f CD Γ v B qs) (r3 : ∀ k, k < 40 → τ'.2.2.1 k = τ.2.2.1 k) : qCx T len cnt lo N Ss P A L τ' kk pp ee f CD Γ v B qs := ⟨h.1.lo r3, h.2.1.q (fun k _ x => r3 k (by omega)), h.2.2.1, by rw [r3 32 (by decide)]; exact h.2.2.2.1, h.2.2.2.2⟩
/-- the search of a question about INSTANCES -/
theorem r_goI {sc : List gEn} {lf : Option gTy} {Lm : List oLm} {Sk : List (Int32 × Bool)} {s cc a0 : Nat} {G : List (gN × gTe)} {F : List gFc} (X : qCx T len cnt lo N Ss P A L V kk pp ee f CD Γ v B qs) (Q : qSg T cnt kk pp ee f (V.2.2.1 32) L Γ B sc) (hn : 1300 ≤ n) (hco : rCo V (1500 :: (scN sc).map (fun x => Γ.1 x.1))) (hcd : cdL CD Γ (scC sc) Sk) (hb : rTc B (2 * ((scN sc).length + 1)) (Lm.map rnd) (V.2.2.2 87)) (h155 : V.1 155 = nI s) (hs : s < 24000) (e47 : V.2.2.1 47 s = nI cc) (hcc : cc < 64) (e61 : V.2.2.1 61 cc = nI a0) (e62 : V.2.2.1 62 cc = nI (a0 + F.length)) (hl : a0 + F.length ≤ 8000) (hG : uPu Γ v V G.reverse (V.2.2.1 49 s)) (hGw : (∀ p, p ∈ G → uNm Γ p.1 ∧ gTw Γ p.2) ∧ G.length ≤ 200) (hF : ∀ i x, F[i]? = some x → uIn Γ V (a0 + i) x ∧ x.1 ≤ 4 ∧ gTw Γ x.2 ∧ (∀ y e, (gRs G x.2).1 = some (y, e) → y ∈ (scN sc).map Prod.fst) ∧ gTb B (gRs G x.2)) (J : rJs V τ Sk [] []) : ∃ τ', zF h0 qs ks T n 101 [.ref h0] τ = some (none, τ') ∧ gQ V τ' ∧ ∀ i x, F[i]? = some x → ¬ V.2.2.1 65 (a0 + i) = 0 → (¬ τ'.2.2.1 100 (a0 + i) = 0 ↔ ¬ τ.2.2.1 100 (a0 + i) = 0 ∨ exL (qWy T f pp ee (V.2.2.1 32) sc) (kFe (fun L => ¬ gQB (gSl ((scN sc).map Prod.fst)) G x L)) Lm []) := by
  obtain ⟨X1, X2, X3, X4, X5, X6, X7⟩ := id X
  obtain ⟨Q1, Q2, Q3, Q4, Q5, Q6, Q7, Q8, Q9⟩ := id Q
  have cl : (1500 :: (scN sc).map (fun x => Γ.1 x.1)).length = (scN sc).length + 1 := by rw [List.length_cons, List.length_map]
  have hS : ∀ y, y ∈ (scN sc).map Prod.fst → (1500 :: (scN sc).map (fun x => Γ.1 x.1))[gSl ((scN sc).map Prod.fst) y]? = some (Γ.1 y) := fun y hy => gSl_at hy
  have hSn : ∀ y, y ∈ (scN sc).map Prod.fst → uNm Γ y := fun y hy => by
    obtain ⟨x, hx, rfl⟩ := List.mem_map.mp hy
    exact Q2 x hx
  obtain ⟨It, i1, i2, i3, i4, i5⟩ := r_items (ks := ks) (qs := qs) (h0 := h0) (B := B) X1 hco cl Q3 hS (fun x y hx hy e => by rw [← (hSn x hx).2, e, (hSn y hy).2]) X4 Q4 (scC sc) Sk hcd Q6
  have HQ : sQ Γ V v ((scN sc).map Prod.fst) (gSl ((scN sc).map Prod.fst)) (1500 :: (scN sc).map (fun x => Γ.1 x.1)) ((scN sc).length + 1) B := ⟨Q3, hco, cl, by omega, X2, X3, hS⟩
  have ask := r_ask HQ (by omega) h155 hs e47 hcc e61 e62 hl hG hGw.1 rfl hF
  have hBW : ((2 * ((scN sc).length + 1) : Nat) : Int) * B + B < 1125899906842624 := by
    have h1 : ((2 * ((scN sc).length + 1) : Nat) : Int) ≤ 120 := by omega
    have h2 : ((2 * ((scN sc).length + 1) : Nat) : Int) * B ≤ 120 * B := Int.mul_le_mul_of_nonneg_right h1 (by omega)
    omega
  have h131 : V.1 131 = nI ((scN sc).length + 1) := by rw [hco.1, cl]
  have G0 := r_go (ks := ks) (qs := qs) (T := T) (h0 := h0) (k0 := 206) (V := V) (L0 := Lm) (c := (scN sc).length + 1) (B := B) (Dm := fun o => o = none ∨ ∃ i, o = some i ∧ a0 ≤ i ∧ i < a0 + F.length ∧ ¬ V.2.2.1 65 i = 0) (Q := fun o L => match o with | none => True | some i => ¬ iSy (((F[i - a0]?).getD (0, (none, 0))).1) (match (gRs G ((F[i - a0]?).getD (0, (none, 0))).2).1 with | none => 0 | some y => gSl ((scN sc).map Prod.fst) y.1) (uTe Γ (gRs G ((F[i - a0]?).getD (0, (none, 0))).2)).2.1.toInt (uTe Γ (gRs G ((F[i - a0]?).getD (0, (none, 0))).2)).2.2.toInt L) (by omega) ⟨by omega, Q3⟩ X5.1 (fun o => kFe.inv (fun L L' e h => by
      cases o with
      | none => trivial
      | some i =>
        intro z
        refine h ?_
        unfold iSy lSy at z ⊢
        rw [e]
        exact z)) (by decide) (fun n τ Ws Ts hn J hw ht => r_leafI X6 X7 ⟨by omega, Q3⟩ h131 ask (by omega) hBW hb n τ Ws Ts (by rw [List.length_map, List.length_reverse]; omega) J hw ht) (iSs It) It n [] [] i5 (Nat.le_refl _) (by rw [i3]; omega) (by rw [i4]; show _ + 0 ≤ 60; omega) (by rw [i4]; show 0 + _ ≤ 300; omega) (fun w hw => by cases hw) (fun x b b' h => by cases h)
  rw [← i1] at J
  obtain ⟨τ', g1, g2, g3⟩ := G0 τ J
  refine ⟨τ', g1, g2.1, fun i x hx hal => ?_⟩
  have hil := get_lt hx
  have g4 := g3 (some (a0 + i)) (Or.inr ⟨a0 + i, rfl, by omega, by omega, hal⟩)
  have e0 : F[a0 + i - a0]? = some x := by rw [Nat.add_sub_cancel_left]; exact hx
  obtain ⟨-, x2, x3, x4, x5⟩ := hF i x hx
  have eQ : (fun L => ¬ iSy (((F[a0 + i - a0]?).getD (0, (none, 0))).1) (match (gRs G ((F[a0 + i - a0]?).getD (0, (none, 0))).2).1 with | none => 0 | some y => gSl ((scN sc).map Prod.fst) y.1) (uTe Γ (gRs G ((F[a0 + i - a0]?).getD (0, (none, 0))).2)).2.1.toInt (uTe Γ (gRs G ((F[a0 + i - a0]?).getD (0, (none, 0))).2)).2.2.toInt L) = fun L => ¬ gQB (gSl ((scN sc).map Prod.fst)) G x L := by
    funext L'
    rw [e0]
    exact propext (not_congr (iSy_B (x3.rs (fun p hp => (hGw.1 p hp).2)) x5 x2))
  have g4 : (¬ τ'.2.2.1 100 (a0 + i) = 0 ↔ ¬ τ.2.2.1 100 (a0 + i) = 0 ∨ exL (iDs It) (kFe (fun L => ¬ iSy (((F[a0 + i - a0]?).getD (0, (none, 0))).1) (match (gRs G ((F[a0 + i - a0]?).getD (0, (none, 0))).2).1 with | none => 0 | some y => gSl ((scN sc).map Prod.fst) y.1) (uTe Γ (gRs G ((F[a0 + i - a0]?).getD (0, (none, 0))).2)).2.1.toInt (uTe Γ (gRs G ((F[a0 + i - a0]?).getD (0, (none, 0))).2)).2.2.toInt L)) Lm []) := g4
  rw [eQ, i2] at g4
  exact g4
/-- where the question is asked -/
def fEn1 (T : Nat) (call : zCl) (h0 : Nat) (qs : List Nat) (ks : Nat → Nat) (x1 x3 : Int32) (σ : zSt) : zRs := zgd (zin x1 12000) (zgd (zin x1 12000) (zgd (zin x1 12000) (zci (call 107 [.ref h0, .int (σ.2.2.1 77 (x1).toNatClampNeg), .int (σ.2.2.1 78 (x1).toNatClampNeg), .int (σ.2.2.1 75 (x1).toNatClampNeg)] σ) fun r8 s6 => if r8 = 0 then j_fit_92 T call h0 qs ks x3 s6 else zcv (call 101 [.ref h0] s6) fun s10 => j_fit_92 T call h0 qs ks x3 s10)))
theorem r_ft38 {call : zCl} {x1 : Int32} {cc a0 m : Nat} (hcc : cc < 64) (hl : a0 + m ≤ 8000) : ∀ (d k t : Nat) (τ : zSt), k + d = m → d < t → τ.2.2.1 62 cc = nI (a0 + m) → ∃ τ', l_fit_38 T call h0 qs ks t x1 (nI cc) (nI (a0 + k)) τ = fEn1 T call h0 qs ks x1 (nI cc) τ' ∧ (τ'.1 = τ.1 ∧ τ'.2.1 = τ.2.1 ∧ (∀ j, j ≠ 100 → τ'.2.2.1 j = τ.2.2.1 j) ∧ τ'.2.2.2 = τ.2.2.2) ∧ (∀ j, a0 + k ≤ j → j < a0 + m → τ'.2.2.1 100 j = 0) ∧ ∀ j, j < a0 + k → τ'.2.2.1 100 j = τ.2.2.1 100 j
  | 0, k, t, τ, hk, ht, e62 => by
    obtain ⟨t, rfl⟩ : ∃ t', t = t' + 1 := ⟨t - 1, by omega⟩
    refine ⟨τ, ?_, ⟨rfl, rfl, fun _ _ => rfl, rfl⟩, fun j h1 h2 => by omega, fun _ _ => rfl⟩
    rw [l_fit_38, zgd_at (zin_n hcc (by decide)), nI_clamp (show cc < 2 ^ 31 by omega), e62, if_pos (nI_le (by omega) (by omega))]
    rfl
  | d + 1, k, t, τ, hk, ht, e62 => by
    obtain ⟨t, rfl⟩ : ∃ t', t = t' + 1 := ⟨t - 1, by omega⟩
    obtain ⟨τ', a1, ⟨a2, a3, a4, a5⟩, a6, a7⟩ := r_ft38 (call := call) (x1 := x1) hcc hl d (k + 1) t (zA τ 100 (upd (τ.2.2.1 100) (a0 + k) 0)) (by omega) (by omega) e62
    have b : ∀ j, j < a0 + (k + 1) → τ'.2.2.1 100 j = if j = a0 + k then 0 else τ.2.2.1 100 j := fun j hj => a7 j hj
    refine ⟨τ', ?_, ⟨a2, a3, fun j hj => (a4 j hj).trans (if_neg hj), a5⟩, fun j h1 h2 => ?_, fun j hj => ?_⟩
    · rw [← a1, l_fit_38, zgd_at (zin_n hcc (by decide)), nI_clamp (show cc < 2 ^ 31 by omega), e62, if_neg (nI_ge (by omega) (by omega)), zgd_at (zin_n (show a0 + k < 8000 by omega) (by decide)), nI_clamp (show a0 + k < 2 ^ 31 by omega), nI_p1]
      rfl
    · by_cases z : j = a0 + k
      · rw [b j (by omega), if_pos z]
      · exact a6 j (by omega) h2
    · rw [b j (by omega), if_neg (by omega)]
/-- those that fail are taken away -/
theorem r_ft103 {call : zCl} {cc a0 m : Nat} (hcc : cc < 64) (hl : a0 + m ≤ 8000) : ∀ (d k t : Nat) (w : Bool) (τ : zSt), k + d = m → d < t → τ.2.2.1 62 cc = nI (a0 + m) → ∃ τ' w', l_fit_103 T call h0 qs ks t (nI cc) (b01 w) (nI (a0 + k)) τ = some (some (.int (b01 w')), τ') ∧ (τ'.1 = τ.1 ∧ τ'.2.1 = τ.2.1 ∧ (∀ j, j ≠ 65 → τ'.2.2.1 j = τ.2.2.1 j) ∧ τ'.2.2.2 = τ.2.2.2) ∧ (∀ j, τ'.2.2.1 65 j = if a0 + k ≤ j ∧ j < a0 + m ∧ ¬ τ.2.2.1 100 j = 0 then 0 else τ.2.2.1 65 j) ∧ (w' = true ↔ w = true ∨ ∃ j, a0 + k ≤ j ∧ j < a0 + m ∧ ¬ τ.2.2.1 65 j = 0 ∧ ¬ τ.2.2.1 100 j = 0)
  | 0, k, t, w, τ, hk, ht, e62 => by
    obtain ⟨t, rfl⟩ : ∃ t', t = t' + 1 := ⟨t - 1, by omega⟩
    refine ⟨τ, w, ?_, ⟨rfl, rfl, fun _ _ => rfl, rfl⟩, fun j => (if_neg (by omega)).symm, ⟨Or.inl, ?_⟩⟩
    · rw [l_fit_103, zgd_at (zin_n hcc (by decide)), nI_clamp (show cc < 2 ^ 31 by omega), e62, if_pos (nI_le (by omega) (by omega)), zgd_at (by cases w <;> decide)]
    · rintro (z | ⟨j, h1, h2, _⟩)
      · exact z
      · omega
  | d + 1, k, t, w, τ, hk, ht, e62 => by
    obtain ⟨t, rfl⟩ : ∃ t', t = t' + 1 := ⟨t - 1, by omega⟩
    rw [l_fit_103, zgd_at (zin_n hcc (by decide)), nI_clamp (show cc < 2 ^ 31 by omega), e62, if_neg (nI_ge (by omega) (by omega)), zgd_at (zin_n (show a0 + k < 8000 by omega) (by decide)), nI_clamp (show a0 + k < 2 ^ 31 by omega)]
    have keep : (τ.2.2.1 65 (a0 + k) = 0 ∨ τ.2.2.1 100 (a0 + k) = 0) → ∃ τ' w', j_fit_148 T call h0 qs ks (l_fit_103 T call h0 qs ks t) (nI cc) (b01 w) (nI (a0 + k)) τ = some (some (.int (b01 w')), τ') ∧ (τ'.1 = τ.1 ∧ τ'.2.1 = τ.2.1 ∧ (∀ j, j ≠ 65 → τ'.2.2.1 j = τ.2.2.1 j) ∧ τ'.2.2.2 = τ.2.2.2) ∧ (∀ j, τ'.2.2.1 65 j = if a0 + k ≤ j ∧ j < a0 + m ∧ ¬ τ.2.2.1 100 j = 0 then 0 else τ.2.2.1 65 j) ∧ (w' = true ↔ w = true ∨ ∃ j, a0 + k ≤ j ∧ j < a0 + m ∧ ¬ τ.2.2.1 65 j = 0 ∧ ¬ τ.2.2.1 100 j = 0) := fun z => by
      unfold j_fit_148
      rw [nI_p1]
      obtain ⟨τ', w', a1, a2, a3, a4⟩ := r_ft103 (call := call) hcc hl d (k + 1) t w τ (by omega) (by omega) e62
      refine ⟨τ', w', a1, a2, fun j => ?_, a4.trans ⟨?_, ?_⟩⟩
      · rw [a3 j]
        by_cases y : j = a0 + k
        · subst y
          rw [if_neg (by omega)]
          rcases z with z | z
          · rw [z]
            split <;> rfl
          · rw [if_neg (fun q => q.2.2 z)]
        · by_cases q : a0 + k ≤ j ∧ j < a0 + m ∧ ¬ τ.2.2.1 100 j = 0
          · rw [if_pos q, if_pos ⟨by omega, q.2⟩]
          · rw [if_neg q, if_neg (fun r => q ⟨by omega, r.2⟩)]
      · rintro (q | ⟨j, q1, q2⟩)
        · exact Or.inl q
        · exact Or.inr ⟨j, by omega, q2⟩
      · rintro (q | ⟨j, q1, q2, q3, q4⟩)
        · exact Or.inl q
        · refine Or.inr ⟨j, ?_, q2, q3, q4⟩
          by_cases y : j = a0 + k
          · subst y
            rcases z with z | z
            · exact absurd z q3
            · exact absurd z q4
          · omega
    by_cases z1 : τ.2.2.1 65 (a0 + k) = 0
    · rw [if_pos z1]
      exact keep (Or.inl z1)
    · rw [if_neg z1, zgd_at (zin_n (show a0 + k < 8000 by omega) (by decide))]
      by_cases z2 : τ.2.2.1 100 (a0 + k) = 0
      · rw [if_pos z2]
        exact keep (Or.inr z2)
      · rw [if_neg z2, zgd_at (zin_n (show a0 + k < 8000 by omega) (by decide))]
        simp only [zlet]
        unfold j_fit_148
        rw [nI_p1]
        obtain ⟨τ', w', a1, ⟨b1, b2, b3, b4⟩, a3, a4⟩ := r_ft103 (call := call) hcc hl d (k + 1) t true (zA τ 65 (upd (τ.2.2.1 65) (a0 + k) 0)) (by omega) (by omega) e62
        have u : ∀ j, (zA τ 65 (upd (τ.2.2.1 65) (a0 + k) 0)).2.2.1 65 j = if j = a0 + k then 0 else τ.2.2.1 65 j := fun j => rfl
        have u1 : (zA τ 65 (upd (τ.2.2.1 65) (a0 + k) 0)).2.2.1 100 = τ.2.2.1 100 := rfl
        refine ⟨τ', w', a1, ⟨b1, b2, fun j hj => (b3 j hj).trans (if_neg hj), b4⟩, fun j => ?_, ?_⟩
        · rw [a3 j, u1, u j]
          by_cases y : j = a0 + k
          · subst y
            rw [if_neg (by omega), if_pos rfl, if_pos ⟨Nat.le_refl _, by omega, z2⟩]
          · rw [if_neg y]
            by_cases q : a0 + k ≤ j ∧ j < a0 + m ∧ ¬ τ.2.2.1 100 j = 0
            · rw [if_pos q, if_pos ⟨by omega, q.2⟩]
            · rw [if_neg q, if_neg (fun r => q ⟨by omega, r.2⟩)]
        · rw [a4]
          exact ⟨fun _ => Or.inr ⟨a0 + k, Nat.le_refl _, by omega, z1, z2⟩, fun _ => Or.inl rfl⟩
end FIT
