/-! **the reference: under()** -/
section UNN
variable {ks : Nat → Nat} {qs : List Nat} {T n h0 len cnt lo N Ss P A c : Nat} {Γ : uGm} {V : zSt} {v : Nat → Nat} {CD : tT → Nat → Prop} {L ns : List Nat} {kk pp ee f : Nat → Int32} {B : Int} {S : List gN} {sl : gN → Nat}
theorem gAq.mo {S' : List gN} {X : gTy} (h : gAq Γ S B X) (hS : ∀ y, y ∈ S → y ∈ S') : gAq Γ S' B X := ⟨fun x hx => ⟨(h.1 x hx).1, (h.1 x hx).2.1, fun y e q => hS y ((h.1 x hx).2.2.1 y e q), (h.1 x hx).2.2.2⟩, h.2⟩
/-- where what NAMES say ends -/
def uEn2 (T : Nat) (call : zCl) (h0 : Nat) (qs : List Nat) (ks : Nat → Nat) (x2 : Int32) (σ : zSt) : zRs := l_under_438 T call h0 qs ks T 1 x2 (zI (zI (zI (zI σ 144 0) 152 0) 153 0) 154 0)
/-- what the NAMES say -/
theorem r_unI {x2 : Int32} (hT : 8400 ≤ T) (hn : 202 ≤ n) (H : sQ Γ V v S sl ns c B) (hSn : ∀ y, y ∈ S → uNm Γ y) : ∀ (ch : List (Option (gN × gTy))) (e : Int32) (t : Nat) (τ : zSt) (Lm : List oLm), uEv Γ v V ch e → ch.length < t → sF V τ → rTc B (2 * c) (Lm.map rnd) (τ.2.2.2 87) → eCl Γ B (ch.filterMap id) → (∀ y, y ∈ (ch.filterMap id).map Prod.fst → y ∈ S) → ((ch.filterMap id).map Prod.fst).Nodup → ∃ τ', l_under_342 T (zF h0 qs ks T (n + 5)) h0 qs ks t x2 1 e τ = uEn2 T (zF h0 qs ks T (n + 5)) h0 qs ks x2 τ' ∧ sF V τ' ∧ rTc B (2 * c) (((ch.filterMap id).flatMap (fun x => gLm (alV Γ V) Γ.2.2.1 Γ.2.2.2.1 sl (sl x.1) x.2) ++ Lm).map rnd) (τ'.2.2.2 87)
  | [], e, t, τ, Lm, h, ht, fr, w, _, _, _ => by
    obtain ⟨t, rfl⟩ : ∃ t', t = t' + 1 := ⟨t - 1, by omega⟩
    have h : e = -1 := h
    rw [l_under_342, h, if_pos m1_lt.2]
    exact ⟨τ, rfl, fr, w⟩
  | o :: ch, e, t, τ, Lm, ⟨i, ty, ⟨h1, h2⟩, ⟨h3, h4⟩, h5, h6⟩, ht, fr, w, hC, hS, hd => by
    obtain ⟨t, rfl⟩ : ∃ t', t = t' + 1 := ⟨t - 1, by omega⟩
    have H6 := H.2.2.2.2.2.1
    have i12 : i < 12000 := by have : v 109 ≤ 12000 := H6 109; omega
    have t40 : ty < 40000 := by have : v 75 ≤ 40000 := H6 75; omega
    have hti : ch.length < t := by have : ch.length + 1 < t + 1 := ht; omega
    rw [l_under_342, h1, if_neg (nI_nn (by omega)), zgd_at (zin_n i12 (by decide)), nI_clamp (show i < 2 ^ 31 by omega), fr.2.2.1, h3, zgd_at (zin_n t40 (by decide)), nI_clamp (show ty < 2 ^ 31 by omega), show n + 5 = (n + 4) + 1 from rfl, r_isSaid, zci_at]
    cases o with
    | none =>
      have h5 : V.2.2.1 42 ty = 2 ∨ V.2.2.1 42 ty = 4 := h5
      rw [show (V.2.2.1 42 ty == 1 || V.2.2.1 42 ty == 3 || V.2.2.1 42 ty == 5) = false by rcases h5 with e | e <;> rw [e] <;> rfl, if_pos (show b01 false = 0 from rfl)]
      unfold j_under_403
      rw [zgd_at (zin_n i12 (by decide)), nI_clamp (show i < 2 ^ 31 by omega), fr.2.2.1]
      exact r_unI hT hn H hSn ch _ t τ Lm h6 hti fr w hC hS hd
    | some x =>
      obtain ⟨a1, a2, a3⟩ : V.2.2.1 68 i = nI (Γ.1 x.1) ∧ gMs (gSy x.2) = true ∧ uTy Γ v V (gSy x.2) ty x.2 := h5
      obtain ⟨c1, c2⟩ : gAq Γ ((ch.filterMap id).map Prod.fst) B x.2 ∧ eCl Γ B (ch.filterMap id) := hC
      have hS : ∀ y, y ∈ x.1 :: (ch.filterMap id).map Prod.fst → y ∈ S := hS
      have hd : (x.1 :: (ch.filterMap id).map Prod.fst).Nodup := hd
      obtain ⟨d1, d2⟩ := List.nodup_cons.mp hd
      obtain ⟨s, k, t1, t2, t3, t4, t5, -⟩ := a3.sd a2
      have hxS := hS x.1 (List.mem_cons_self ..)
      rw [uMs_k a3 a2, if_neg (show ¬ b01 true = 0 by decide), zgd_at (zin_n i12 (by decide)), fr.2.2.1, h3, zgd_at (zin_n t40 (by decide)), zgd_at (zin_n i12 (by decide)), nI_clamp (show ty < 2 ^ 31 by omega), t4, a1]
      obtain ⟨τ1, b1, b2, b3⟩ := r_says95 (h0 := h0) (qs := qs) (ks := ks) (T := T) (n := n) (s := s) (A := x.2) H hT (H.2.2.2.2.2.2 _ hxS) (c1.mo (fun y hy => hS y (List.mem_cons_of_mem _ hy))) (fun y hy q z hz e q2 => by
        have e1 : y = x.1 := by rw [← (hSn y hy).2, q, (hSn x.1 hxS).2]
        rw [e1] at q2
        exact d1 ((c1.1 z hz).2.2.1 x.1 e q2)) t5 hn fr w
      rw [b1, zci_at, if_neg (by decide), if_neg (by decide)]
      unfold j_under_401 j_under_403
      rw [zgd_at (zin_n i12 (by decide)), nI_clamp (show i < 2 ^ 31 by omega), b2.2.2.1]
      obtain ⟨τ', e1, e2, e3⟩ := r_unI hT hn H hSn ch _ t τ1 _ h6 hti b2 b3 c2 (fun y hy => hS y (List.mem_cons_of_mem _ hy)) d2
      refine ⟨τ', e1, e2, rTc.cg (fun l => ?_) e3⟩
      show _ ↔ l ∈ List.map rnd ((x :: ch.filterMap id).flatMap _ ++ Lm)
      simp only [List.flatMap_cons, List.map_append, List.mem_append]
      constructor
      · rintro (z | z | z)
        · exact Or.inl (Or.inr z)
        · exact Or.inl (Or.inl z)
        · exact Or.inr z
      · rintro ((z | z) | z)
        · exact Or.inr (Or.inl z)
        · exact Or.inl z
        · exact Or.inr (Or.inr z)
/-- the node of a condition -/
def cdN (CD : tT → Nat → Prop) (Γ : uGm) (c : gCd) (nd : Int32) : Prop := match c with
  | .inl c => ∃ m, nd = nI m ∧ m < 2100 ∧ CD c.1 m
  | .inr l => nd = (-2) - nI (Γ.1 (.inl l))
def cdL (CD : tT → Nat → Prop) (Γ : uGm) : List (gCd × Bool) → List (Int32 × Bool) → Prop
  | [], [] => True
  | x :: r, y :: s => (y.2 = x.2 ∧ cdN CD Γ x.1 y.1) ∧ cdL CD Γ r s
  | _, _ => False
/-- conditions are laid open -/
theorem r_unJ (hv : ∀ k, v k ≤ uLm k) : ∀ (r : List (gCd × Bool)) (g : Int32) (t : Nat) (τ : zSt) (Sk : List (Int32 × Bool)), uGo CD Γ v V r g → r.length < t → rJs V τ Sk [] [] → Sk.length + r.length ≤ 100 → ∃ τ' Sk', l_under_438 T (zF h0 qs ks T (n + 1)) h0 qs ks t 1 g τ = some (some (.int 1), τ') ∧ rJs V τ' (Sk ++ Sk') [] [] ∧ mkE τ τ' ∧ cdL CD Γ r Sk'
  | [], g, t, τ, Sk, h, ht, J, _ => by
    obtain ⟨t, rfl⟩ : ∃ t', t = t' + 1 := ⟨t - 1, by omega⟩
    have h : g = -1 := h
    rw [l_under_438, h, if_pos m1_lt.2, zgd_at (by decide)]
    exact ⟨τ, [], rfl, by rw [List.append_nil]; exact J, ⟨rfl, rfl⟩, trivial⟩
  | x :: r, g, t, τ, Sk, ⟨i, ⟨h1, h2⟩, h3, h4, h5⟩, ht, J, hl => by
    obtain ⟨t, rfl⟩ : ∃ t', t = t' + 1 := ⟨t - 1, by omega⟩
    have i12 : i < 12000 := by have : v 110 ≤ 12000 := hv 110; omega
    have hl : Sk.length + (r.length + 1) ≤ 100 := hl
    have rr : ∀ k, 71 ≤ k → k ≤ 73 → ∀ σ, gQ V σ → σ.2.2.1 k = V.2.2.1 k := fun k a b σ q => q.2.2.1 k (fun z => by simp only [List.mem_cons, List.not_mem_nil, or_false] at z; omega)
    obtain ⟨τ1, a1, a2, a3⟩ := r_open (h0 := h0) (qs := qs) (ks := ks) (T := T) (n := n) (m := V.2.2.1 71 i) (h := x.2) J (by omega)
    rw [l_under_438, h1, if_neg (nI_nn (by omega))]
    iterate 2 rw [zgd_at (zin_n i12 (by decide))]
    rw [nI_clamp (show i < 2 ^ 31 by omega), rr 72 (by decide) (by decide) τ J.1, rr 71 (by decide) (by decide) τ J.1, h3]
    obtain ⟨τ', Sk', b1, b2, b3, b4⟩ := r_unJ hv r _ t τ1 (Sk ++ [(V.2.2.1 71 i, x.2)]) h5 (by have : r.length + 1 < t + 1 := ht; omega) a2 (by rw [List.length_append]; show Sk.length + 1 + r.length ≤ 100; omega)
    refine ⟨τ', (V.2.2.1 71 i, x.2) :: Sk', ?_, by rw [List.append_assoc] at b2; exact b2, a3.tr b3, ⟨rfl, ?_⟩, b4⟩
    · have go : j_under_467 T (zF h0 qs ks T (n + 1)) h0 qs ks (l_under_438 T (zF h0 qs ks T (n + 1)) h0 qs ks t) 1 (nI i) (V.2.2.1 71 i) (b01 x.2) τ = some (some (.int 1), τ') := by
        unfold j_under_467
        rw [a1, zcv_at, zgd_at (zin_n i12 (by decide)), nI_clamp (show i < 2 ^ 31 by omega), rr 73 (by decide) (by decide) τ1 a2.1]
        exact b1
      cases hx : x.2 with
      | true =>
        rw [hx] at go
        rw [if_pos (show b01 true = 1 from rfl)]
        exact go
      | false =>
        rw [hx] at go
        rw [if_neg (show ¬ b01 false = 1 by decide)]
        exact go
    · rcases x with ⟨cc | l, hh⟩
      · obtain ⟨m, m1, m2, m3⟩ := h4
        exact ⟨m, m1, m2, m3⟩
      · exact h4
/-- what under() may change -/
def uF2 (V τ : zSt) : Prop := (∀ k, k ∉ [63, 131, 138, 139, 141, 144, 152, 153, 154] → τ.1 k = V.1 k) ∧ (∀ k, k ∉ [64, 140] → τ.2.1 k = V.2.1 k) ∧ (∀ k, k ∉ [40, 41, 89, 90] → τ.2.2.1 k = V.2.2.1 k) ∧ ∀ k, k ≠ 87 → τ.2.2.2 k = V.2.2.2 k
theorem uF2.cf {a b : zSt} (h : cFm a b) : uF2 a b := ⟨fun k z => h.1 k (fun e => z (by rw [e]; decide)), fun k _ => by rw [h.2.1], fun k z => h.2.2.1 k (fun e => z (by rw [e]; decide)) (fun e => z (by rw [e]; decide)), fun k _ => by rw [h.2.2.2]⟩
theorem uF2.nf {a b : zSt} (h : nFr a b) : uF2 a b := ⟨fun k z => h.1 k (fun e => z (by rw [e]; decide)) (fun e => z (by rw [e]; decide)) (fun e => z (by rw [e]; decide)) (fun e => z (by rw [e]; decide)), fun k z => h.2.1 k (fun e => z (by rw [e]; decide)) (fun e => z (by rw [e]; decide)), fun k z => h.2.2.1 k (fun e => z (by rw [e]; decide)) (fun e => z (by rw [e]; decide)), h.2.2.2⟩
theorem uF2.tr {a b c : zSt} (h : uF2 a b) (g : uF2 b c) : uF2 a c := ⟨fun k x => (g.1 k x).trans (h.1 k x), fun k x => (g.2.1 k x).trans (h.2.1 k x), fun k x => (g.2.2.1 k x).trans (h.2.2.1 k x), fun k x => (g.2.2.2 k x).trans (h.2.2.2 k x)⟩
theorem uF2.q {a b : zSt} (h : uF2 a b) : uRq a b := ⟨fun k x y _ _ _ _ => h.2.2.1 k (fun z => by simp only [List.mem_cons, List.not_mem_nil, or_false] at z; omega), h.2.2.2 54 (by decide), h.2.2.2 59 (by decide)⟩
/-- the left side of a question: none, or a leaf at t -/
def lfO (Γ : uGm) (v : Nat → Nat) (τ : zSt) (S : List gN) (B : Int) (x3 : Int32) : Option gTy → Prop
  | none => x3 = -1
  | some X => ∃ t, x3 = nI t ∧ uTy Γ v τ (gSy X) t X ∧ gMs (gSy X) = true ∧ gAq Γ S B X
/-- limits of the left side -/
def lfM (al : Nat × List Bool → Nat → Bool) (nq : tQ → Int) (xs : List tQ) (sl : gN → Nat) : Option gTy → List oLm
  | none => []
  | some X => gLm al nq xs sl 0 X ++ (if yK (gSy X) = 2 then [] else [(1, 1, 0)])
theorem r_unH {x1 x2 x3 : Int32} {lf : Option gTy} {τ : zSt} {Lm : List oLm} (hT : 8400 ≤ T) (hn : 202 ≤ n) (H : sQ Γ V v S sl ns c B) (hB : 0 ≤ B) (hSn : ∀ y, y ∈ S → uNm Γ y) (h15 : ns[0]? = some 1500) (hl : lfO Γ v V S B x3 lf) (fr : sF V τ) (w : rTc B (2 * c) (Lm.map rnd) (τ.2.2.2 87)) : ∃ τ', uEnd T (zF h0 qs ks T (n + 5)) h0 qs ks x1 x2 x3 τ = l_under_342 T (zF h0 qs ks T (n + 5)) h0 qs ks T x2 1 x1 τ' ∧ sF V τ' ∧ rTc B (2 * c) ((lfM (alV Γ V) Γ.2.2.1 Γ.2.2.2.1 sl lf ++ Lm).map rnd) (τ'.2.2.2 87) := by
  unfold uEnd
  cases lf with
  | none =>
    have hl : x3 = -1 := hl
    rw [hl, if_pos m1_lt.2]
    exact ⟨τ, rfl, fr, w⟩
  | some X =>
    obtain ⟨t, h1, h2, h3, h4⟩ := hl
    obtain ⟨s, k, t1, t2, t3, t4, t5, t6⟩ := h2.sd h3
    have t40 : t < 40000 := by have : v 75 ≤ 40000 := H.2.2.2.2.2.1 75; omega
    have c0 : 0 < c := by rw [← H.2.2.1]; exact get_lt h15
    have go : ∀ (σ : zSt) (L' : List oLm), sF V σ → rTc B (2 * c) (L'.map rnd) (σ.2.2.2 87) → ∃ τ', j_under_311 T (zF h0 qs ks T (n + 5)) h0 qs ks x1 x2 (nI t) 1 σ = l_under_342 T (zF h0 qs ks T (n + 5)) h0 qs ks T x2 1 x1 τ' ∧ sF V τ' ∧ rTc B (2 * c) ((gLm (alV Γ V) Γ.2.2.1 Γ.2.2.2.1 sl 0 X ++ L').map rnd) (τ'.2.2.2 87) := fun σ L' f1 w1 => by
      unfold j_under_311
      rw [zgd_at (zin_n t40 (by decide)), nI_clamp (show t < 2 ^ 31 by omega), f1.2.2.1, t4]
      obtain ⟨τ1, b1, b2, b3⟩ := r_says95 (h0 := h0) (qs := qs) (ks := ks) (T := T) (n := n) (s := s) (A := X) (nm := 1500) (a := 0) H hT h15 h4 (fun y hy q => by have := (hSn y hy).1; omega) t5 hn f1 w1
      have b1 : zF h0 qs ks T (n + 5) 95 [.ref h0, .int (nI s), .int 1500] σ = some (some (.int 1), τ1) := b1
      rw [b1, zci_at, if_neg (by decide), if_neg (by decide)]
      exact ⟨τ1, rfl, b2, b3⟩
    rw [h1, if_neg (nI_nn (by omega)), zgd_at (zin_n t40 (by decide)), nI_clamp (show t < 2 ^ 31 by omega), fr.2.2.1, t2]
    by_cases z : k = 1
    · rw [if_pos (show nI k = 1 by rw [z]; rfl)]
      obtain ⟨τ', a1, a2, a3⟩ := go τ Lm fr w
      refine ⟨τ', a1, a2, ?_⟩
      show rTc B (2 * c) ((gLm _ _ _ sl 0 X ++ (if yK (gSy X) = 2 then [] else [(1, 1, 0)]) ++ Lm).map rnd) _
      rw [if_pos (t6.mp z), List.append_nil]
      exact a3
    · rw [if_neg (show ¬ nI k = 1 from fun e => z (nI_inj' (by omega) (by decide) (show nI k = nI 1 from e)))]
      have c1 : zF h0 qs ks T (n + 5) 85 [.ref h0, .int 1500] τ = some (some (.int 0), τ) := r_clA (n := n + 4) (fr.co H.2.1) h15
      rw [c1, zci_at]
      obtain ⟨m1, a1, a2⟩ := r_atL (h0 := h0) (qs := qs) (ks := ks) (T := T) (n := n + 3) (τ := τ) (a := 0) (b := 0) (ta := -1) (tb := 0) (num := 0) H.1 c0 c0 H.2.2.2.1 (by show -B ≤ 0 ∧ 0 ≤ B; omega) (by decide) (by decide) (fun z => absurd z.1 (by decide)) (fun _ z => absurd rfl z) w
      have a1 : zF h0 qs ks T (n + 5) 88 [.ref h0, .ref (qs.getD 87 0), .int 0, .int (-1), .int 0, .int 0, .long 0] τ = _ := a1
      rw [a1, zci_at]
      obtain ⟨τ', b1, b2, b3⟩ := go (zG τ 87 m1) _ (fr.tr (sF.g _ _)) (by rw [zG_at]; exact a2)
      refine ⟨τ', b1, b2, ?_⟩
      show rTc B (2 * c) ((gLm _ _ _ sl 0 X ++ (if yK (gSy X) = 2 then [] else [(1, 1, 0)]) ++ Lm).map rnd) _
      rw [if_neg (fun e => z (t6.mpr e)), List.append_assoc]
      exact b3
theorem gSl_at {l : List (gN × gTy)} {y : gN} (h : y ∈ l.map Prod.fst) : (1500 :: l.map (fun x => Γ.1 x.1))[gSl (l.map Prod.fst) y]? = some (Γ.1 y) := by
  unfold gSl
  rw [List.getElem?_cons_succ]
  have e : l.map (fun x => Γ.1 x.1) = (l.map Prod.fst).map Γ.1 := by rw [List.map_map]; rfl
  have hl : (l.map Prod.fst).findIdx (fun z => decide (z = y)) < (l.map Prod.fst).length := List.findIdx_lt_length_of_exists ⟨y, h, decide_eq_true rfl⟩
  have hy : (l.map Prod.fst)[(l.map Prod.fst).findIdx (fun z => decide (z = y))] = y := of_decide_eq_true (List.findIdx_getElem (w := hl))
  rw [e, List.getElem?_map, List.getElem?_eq_getElem hl, hy]
  rfl
set_option maxHeartbeats 2000000 in
/-- **under()**: columns, limits, conditions laid open -/
theorem r_under {sc : List gEn} {x1 x2 x3 : Int32} {lf : Option gTy} {ns0 : List Nat} {τ : zSt} (hT : 8400 ≤ T) (hn : 1300 ≤ n) (hv : ∀ k, v k ≤ uLm k) (W : uTr T len cnt lo N Ss P A L τ kk pp ee f CD) (hQ : uQr Γ τ) (hc0 : rCo τ ns0) (hsc : uSc 200 CD Γ v τ sc x1 x2) (hnd : ((scN sc).map Prod.fst).Nodup) (hnm : ∀ x, x ∈ scN sc → uNm Γ x.1) (hln : (scN sc).length + 1 ≤ 60) (hΓ : ∀ u, u ∈ L → Γ.1 (.inl u) = nuO (τ.2.2.1 32) u) (hSL : ∀ u, Sum.inl u ∈ (scN sc).map Prod.fst → u ∈ L) (hE : eCl Γ B (scN sc)) (hC : ∀ x, x ∈ scC sc → gCq T cnt kk pp ee f (τ.2.2.1 32) L B ((scN sc).map Prod.fst) x.1) (hCl : (scC sc).length ≤ 100) (hl : lfO Γ v τ ((scN sc).map Prod.fst) B x3 lf) (hA : τ.1 155 = -1 ∨ ∃ s X, τ.1 155 = nI s ∧ uSd Γ v τ s X ∧ gAq Γ ((scN sc).map Prod.fst) B X) (hB : 0 ≤ B ∧ B < 1125899906842624) : ∃ V τ' Sk, zF h0 qs ks T (n + 6) 107 [.ref h0, .int x1, .int x2, .int x3] τ = some (some (.int 1), τ') ∧ uF2 τ V ∧ rJs V τ' Sk [] [] ∧ mkE V τ' ∧ V.1 154 = 0 ∧ rCo V (1500 :: (scN sc).map (fun x => Γ.1 x.1)) ∧ cdL CD Γ (scC sc) Sk ∧ rTc B (2 * ((scN sc).length + 1)) (((scN sc).flatMap (fun x => gLm (alV Γ τ) Γ.2.2.1 Γ.2.2.2.1 (gSl ((scN sc).map Prod.fst)) (gSl ((scN sc).map Prod.fst) x.1) x.2) ++ (lfM (alV Γ τ) Γ.2.2.1 Γ.2.2.2.1 (gSl ((scN sc).map Prod.fst)) lf ++ lnL (τ.2.2.1 66) 0 (1500 :: (scN sc).map (fun x => Γ.1 x.1)))).map rnd) (V.2.2.2 87) := by
  obtain ⟨⟨ch, e1, e2, e3⟩, e4⟩ := hsc
  generalize eS : (scN sc).map Prod.fst = S at *
  have hSn : ∀ y, y ∈ S → uNm Γ y := fun y hy => by
    rw [← eS] at hy
    obtain ⟨x, hx, rfl⟩ := List.mem_map.mp hy
    exact hnm x hx
  have nd2 : (1500 :: (scN sc).map (fun x => Γ.1 x.1)).Nodup := by
    refine List.nodup_cons.mpr ⟨fun z => ?_, ?_⟩
    · obtain ⟨x, hx, e⟩ := List.mem_map.mp z
      have := (hnm x hx).1
      omega
    · have e : (scN sc).map (fun x => Γ.1 x.1) = S.map Γ.1 := by rw [← eS, List.map_map]; rfl
      rw [e]
      refine List.pairwise_map.mpr (hnd.imp_of_mem (fun {a b} ha hb h q => h ?_))
      rw [← (hSn a ha).2, q, (hSn b hb).2]
  rw [show n + 6 = (n + 5) + 1 from rfl, zE_under]
  unfold b_under
  obtain ⟨τ1, a1, a2, a3, a4, a5, a6⟩ := r_bgn (h0 := h0) (qs := qs) (ks := ks) (T := T) (n := n + 4) (by omega) hc0
  rw [a1, zcv_at]
  have f1 : cFm τ τ1 := ⟨a3, a4, fun k x _ => a5 k x, a6⟩
  obtain ⟨τ2, b1, b2, b3, b4, b5, b6⟩ := r_clN (h0 := h0) (qs := qs) (ks := ks) (T := T) (n := n + 4) (x := 1500) a2 (by decide) (by simp) (by decide)
  have b1 : zF h0 qs ks T (n + 5) 85 [.ref h0, .int 1500] τ1 = some (some (.int (nI 0)), τ2) := b1
  rw [b1, zci_at]
  have f2 : cFm τ τ2 := f1.tr ⟨b3, b4, b5, b6⟩
  obtain ⟨τ3, c1, c2, c3⟩ := r_unA (h0 := h0) (qs := qs) (ks := ks) (T := T) (n := n + 4) (x1 := x1) (x2 := x2) (x3 := x3) hv ch x1 T τ2 [1500] e3 (by omega) f2 b2 (by rw [e1]; exact nd2) (by rw [e1]; exact hnm) (by rw [e1]; show 1 + _ ≤ 100; omega)
  rw [e1] at c3
  have c3 : rCo τ3 (1500 :: (scN sc).map (fun x => Γ.1 x.1)) := c3
  rw [c1]
  have q3 : uRq τ τ3 := c2.q
  have hS : ∀ y, y ∈ S → (1500 :: (scN sc).map (fun x => Γ.1 x.1))[gSl S y]? = some (Γ.1 y) := fun y hy => by
    rw [← eS] at hy ⊢
    exact gSl_at hy
  have cl : (1500 :: (scN sc).map (fun x => Γ.1 x.1)).length = (scN sc).length + 1 := by rw [List.length_cons, List.length_map]
  have H3 : sQ Γ τ3 v S (gSl S) (1500 :: (scN sc).map (fun x => Γ.1 x.1)) ((scN sc).length + 1) B := ⟨hln, c3, cl, hB.2, hQ.q (fun k x y => c2.2.2.1 k (by omega) (by omega)), hv, hS⟩
  -- the left side's NAMES
  have D1 : ∃ τ4, zF h0 qs ks T (n + 5) 105 [.ref h0, .int x3] τ3 = some (none, τ4) ∧ nFr τ3 τ4 := by
    cases lf with
    | none =>
      have hl : x3 = -1 := hl
      rw [hl, show n + 5 = (n + 4) + 1 from rfl, zE_namesIn]
      unfold b_namesIn
      rw [if_pos m1_lt.2]
      exact ⟨τ3, rfl, nFr.rf _⟩
    | some X =>
      obtain ⟨t, h1, h2, h3, h4⟩ := hl
      rw [h1]
      obtain ⟨τ4, d1, d2, -⟩ := r_nmI (h0 := h0) (qs := qs) (ks := ks) (T := T) (n := n + 2) H3 hT h4 (uTy.q q3 _ _ _ h2) h3 (by omega) (sF.rf τ3)
      exact ⟨τ4, d1, d2.n⟩
  obtain ⟨τ4, d1, d2⟩ := D1
  rw [d1, zcv_at]
  obtain ⟨τ5, g1, g2⟩ := r_unC (h0 := h0) (qs := qs) (ks := ks) (T := T) (n := n + 2) (x1 := x1) (x2 := x2) (x3 := x3) hT (by omega) H3 ch x1 T τ4 (uEv.q q3 _ _ e3) (by omega) d2 (by
    rw [e1]
    exact fun x hx => eCl.at _ x hx hE S (fun y hy => by rw [← eS]; exact hy))
  rw [g1]
  have r3 : ∀ k, k < 40 → τ3.2.2.1 k = τ.2.2.1 k := fun k hk => c2.2.2.1 k (by omega) (by omega)
  have W3 : uTr T len cnt lo N Ss P A L τ3 kk pp ee f CD := ⟨W.1, ⟨W.2.1.1, W.2.1.2.1.keep (r3 1 (by decide)) (r3 3 (by decide)) (r3 4 (by decide)) (r3 5 (by decide)), by rw [r3 32 (by decide)]; exact W.2.1.2.2.1, W.2.1.2.2.2⟩, fun t m h => by
    obtain ⟨w1, w2⟩ := W.2.2 t m h
    refine ⟨rTr.keep ⟨fun m _ _ => funext fun k => congrFun (r3 _ (by omega)) m, fun k j a b _ => congrFun (r3 k (by omega)) j, fun k j a b _ => congrFun (r3 k (by omega)) j, fun m _ => funext fun k => congrFun (r3 _ (by omega)) m⟩ (Nat.le_refl _) (Nat.le_refl _) (Nat.le_refl _) (Nat.le_refl _) (Nat.le_refl _) _ _ _ _ w1, w2⟩⟩
  obtain ⟨τ6, k1, k2⟩ := r_unD (h0 := h0) (qs := qs) (ks := ks) (T := T) (n := n + 5) (x1 := x1) (x2 := x2) (x3 := x3) (B := B) (S := S) (sl := gSl S) (Γ := Γ) hT (by omega) hv W3 c3 hS (by rw [r3 32 (by decide)]; exact hΓ) hSL (scC sc) x2 T τ5 (uGo.q q3 _ _ e4) (by omega) g2 (by rw [r3 32 (by decide)]; exact hC)
  rw [k1]
  have e155 : τ6.1 155 = τ.1 155 := (k2.1 155 (by decide) (by decide) (by decide) (by decide)).trans (c2.1 155 (by decide))
  have D2 : ∃ τ7, (if (τ6.1 155) < 0 then j_under_144 T (zF h0 qs ks T (n + 5)) h0 qs ks x1 x2 x3 τ6 else zcv (zF h0 qs ks T (n + 5) 104 [.ref h0, .int (τ6.1 155)] τ6) fun s3 => j_under_144 T (zF h0 qs ks T (n + 5)) h0 qs ks x1 x2 x3 s3) = j_under_144 T (zF h0 qs ks T (n + 5)) h0 qs ks x1 x2 x3 τ7 ∧ nFr τ3 τ7 := by
    rw [e155]
    rcases hA with h | ⟨s, X, h1, h2, h3⟩
    · rw [h, if_pos m1_lt.2]
      exact ⟨τ6, rfl, k2⟩
    · have s24 : s < 24000 := by have : v 79 ≤ 24000 := hv 79; have := h2.1; omega
      rw [h1, if_neg (nI_nn (by omega))]
      obtain ⟨τ7, m1, m2, -⟩ := r_nmS (h0 := h0) (qs := qs) (ks := ks) (T := T) (n := n + 3) (k2.sq H3) hT h3 ((h2.q q3).q k2.q) (by omega) (sF.rf τ6)
      rw [m1, zcv_at]
      exact ⟨τ7, rfl, k2.tr m2.n⟩
  obtain ⟨τ7, m1, m2⟩ := D2
  rw [m1]
  unfold j_under_144
  have co7 := m2.co c3
  rw [co7.1, cl, n2a]
  obtain ⟨m', p1, p2⟩ := r_un155 (h0 := h0) (qs := qs) (ks := ks) (T := T) (call := zF h0 qs ks T (n + 5)) (x1 := x1) (x2 := x2) (x3 := x3) (τ := τ7) (W := 2 * ((scN sc).length + 1)) (by omega) (by omega) _ 0 T (τ7.2.2.2 87) (Nat.zero_add _) (by omega) (fun p q hp => absurd hp (Nat.not_lt_zero _))
  have p1 : l_under_155 T (zF h0 qs ks T (n + 5)) h0 qs ks T x1 x2 x3 (nI (2 * ((scN sc).length + 1))) 0 (zG τ7 87 (τ7.2.2.2 87)) = _ := p1
  rw [zG_id] at p1
  rw [p1]
  obtain ⟨m2', r1, r2⟩ := r_un218 (h0 := h0) (qs := qs) (ks := ks) (T := T) (n := n + 3) (x1 := x1) (x2 := x2) (x3 := x3) (L := []) hln hB cl _ 0 T (zG τ7 87 m') (Nat.zero_add _) (by omega) (co7.cg rfl rfl rfl) (by rw [zG_at]; exact rTc.new p2 hB.1)
  have r1 : l_under_218 T (zF h0 qs ks T (n + 5)) h0 qs ks T x1 x2 x3 1 0 (zG τ7 87 m') = uEnd T (zF h0 qs ks T (n + 5)) h0 qs ks x1 x2 x3 (zG (zG τ7 87 m') 87 m2') := r1
  rw [zG_zG] at r1
  rw [r1]
  generalize eV : zG τ7 87 m2' = V8
  have n8 : nFr τ3 V8 := by rw [← eV]; exact m2.tr (sF.g _ _).n
  have q8 : uRq τ V8 := q3.tr n8.q
  have e66 : V8.2.2.1 66 = τ.2.2.1 66 := (n8.2.2.1 66 (by decide) (by decide)).trans (c2.2.2.1 66 (by decide) (by decide))
  have e65 : V8.2.2.1 65 = τ.2.2.1 65 := (n8.2.2.1 65 (by decide) (by decide)).trans (c2.2.2.1 65 (by decide) (by decide))
  have eal : alV Γ V8 = alV Γ τ := alV.q q8 e65
  have H8 := n8.sq H3
  have w8 : rTc B (2 * ((scN sc).length + 1)) ((lnL (τ.2.2.1 66) 0 (1500 :: (scN sc).map (fun x => Γ.1 x.1))).map rnd) (V8.2.2.2 87) := by
    rw [← eV, zG_at]
    have r2 : rTc B (2 * ((scN sc).length + 1)) ((lnL (τ7.2.2.1 66) 0 (1500 :: (scN sc).map (fun x : gN × gTy => Γ.1 x.1)) ++ ([] : List oLm)).map rnd) m2' := r2
    rw [List.append_nil, show τ7.2.2.1 66 = τ.2.2.1 66 from (m2.2.2.1 66 (by decide) (by decide)).trans (c2.2.2.1 66 (by decide) (by decide))] at r2
    exact r2
  have hl8 : lfO Γ v V8 S B x3 lf := by
    cases lf with
    | none => exact hl
    | some X =>
      obtain ⟨t, h1, h2, h3, h4⟩ := hl
      exact ⟨t, h1, uTy.q q8 _ _ _ h2, h3, h4⟩
  obtain ⟨τ9, s1, s2, s3⟩ := r_unH (h0 := h0) (qs := qs) (ks := ks) (T := T) (n := n) (x1 := x1) (x2 := x2) (x3 := x3) (lf := lf) hT (by omega) H8 hB.1 hSn rfl hl8 (sF.rf V8) w8
  rw [s1]
  obtain ⟨τ10, t1, t2, t3⟩ := r_unI (h0 := h0) (qs := qs) (ks := ks) (T := T) (n := n) (x2 := x2) hT (by omega) H8 hSn ch x1 T τ9 _ (uEv.q q8 _ _ e3) (by omega) s2 s3 (by rw [e1]; exact hE) (by rw [e1, eS]; exact fun y hy => hy) (by rw [e1, eS]; exact hnd)
  rw [t1, e1, eal] at *
  unfold uEn2
  generalize eV9 : zI (zI (zI (zI τ10 144 0) 152 0) 153 0) 154 0 = V9
  have u9 : uF2 τ10 V9 := by
    subst eV9
    refine ⟨fun k hk => ?_, fun _ _ => rfl, fun _ _ => rfl, fun _ _ => rfl⟩
    simp only [List.mem_cons, List.not_mem_nil, or_false, not_or] at hk
    exact (if_neg hk.2.2.2.2.2.2.2.2).trans ((if_neg hk.2.2.2.2.2.2.2.1).trans ((if_neg hk.2.2.2.2.2.2.1).trans (if_neg hk.2.2.2.2.2.1)))
  have F9 : uF2 τ V9 := (uF2.cf c2).tr ((uF2.nf (n8.tr t2.n)).tr u9)
  have J9 : rJs V9 V9 [] [] [] := by
    refine ⟨gQ.rf _, ⟨?_, Nat.zero_le _, fun k x z => (by cases z)⟩, ⟨?_, Nat.zero_le _, fun k x z => (by cases z)⟩, ⟨⟨?_, Or.inl ?_⟩, Nat.zero_le _, fun k x z => (by cases z)⟩⟩ <;> (subst eV9; rfl)
  obtain ⟨τ', Sk, y1, y2, y3, y4⟩ := r_unJ (h0 := h0) (qs := qs) (ks := ks) (T := T) (n := n + 4) hv (scC sc) x2 T V9 [] (uGo.q F9.q _ _ e4) (by omega) J9 (by show 0 + _ ≤ 100; omega)
  refine ⟨V9, τ', Sk, y1, F9, y2, y3, by subst eV9; rfl, ?_, y4, ?_⟩
  · exact ((n8.tr t2.n).co c3).cg (by subst eV9; rfl) (by subst eV9; rfl) (by subst eV9; rfl)
  · have : V9.2.2.2 87 = τ10.2.2.2 87 := by subst eV9; rfl
    rw [this]
    exact t3
end UNN
