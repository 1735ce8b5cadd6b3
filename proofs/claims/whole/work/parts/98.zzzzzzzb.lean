/-! formsOf() of the reference -/
theorem sB_40 {b : Int32} (h : sB b) : b &&& 255 = 40 ↔ b = 40 := by
  obtain ⟨k, hk, e1, e2⟩ := sB_k h
  rw [e1, e2]
  have d : ∀ k, k < 256 → (nI k = 40 ↔ (nI k).toInt8.toInt32 = 40) := by decide +kernel
  exact d k hk
/-- the word ( -/
theorem rW.par {V : zSt} {T len cnt w : Nat} {kk pp ee f : Nat → Int32} (h : rW V T len cnt kk pp ee f) (hT : 2010 ≤ T) (hw : w < cnt) : ∃ a, pp w = nI a ∧ a < 2000 ∧ (kk w = nI 40 → f a = 40) ∧ (kk w = nI 1 ∨ kk w = nI 2 → ¬ f a = 40) := by
  obtain ⟨h1, h2, h3, h4, h5, h6, h7, h8⟩ := h
  obtain ⟨a, b1, b2, b3, b4, b5, b6⟩ := h5 w hw
  have s := sB_40 (h2 a b1)
  refine ⟨a, b4, by omega, fun hk => s.mp ?_, fun hk z => ?_⟩
  · rw [b6] at hk
    rcases w_cases (T := T) b2 with ⟨-, e⟩ | ⟨-, -, e⟩ | ⟨-, -, -, -, -, e⟩ | ⟨-, -, h0, -, e⟩
    · rw [e] at hk
      rcases kKind_val (g := fun j => f j &&& 255) (a := a) (l := wEnd len (fun j => f j &&& 255) a - a) hT with z | ⟨j, hj, z⟩
      · rw [z] at hk; exact absurd hk (by decide)
      · rw [z] at hk
        have := nI_inj' (by omega) (by decide) hk
        omega
    · rw [e] at hk; exact absurd hk (by decide)
    · rw [e] at hk; exact hk
    · rw [e] at hk
      have d : ∀ v : Int32, v = 302 ∨ v = 304 ∨ v = 300 ∨ v = 301 ∨ v = 303 ∨ v = 0 → ¬ v = nI 40 := by
        rintro v (rfl | rfl | rfl | rfl | rfl | rfl) <;> decide
      refine absurd hk (d _ ?_)
      unfold dSg
      repeat' split
      all_goals simp
  · have e40 := s.mpr z
    rw [b6] at hk
    rcases w_cases (T := T) b2 with ⟨e, -⟩ | ⟨-, e, -⟩ | ⟨-, -, -, -, -, e⟩ | ⟨-, -, h0, -, e⟩
    · have e : bL (f a &&& 255) = true := e
      rw [e40] at e; exact absurd e (by decide)
    · have e : bD (f a &&& 255) = true := e
      rw [e40] at e; exact absurd e (by decide)
    · rw [e] at hk
      have hk : f a &&& 255 = nI 1 ∨ f a &&& 255 = nI 2 := hk
      rw [e40] at hk
      exact absurd hk (by decide)
    · refine h0 ?_
      unfold dSg
      have e40 : (fun j => f j &&& 255) a = 40 := e40
      rw [e40]
      split
      · rw [if_neg (by decide), if_neg (by decide), if_neg (by decide), if_neg (by decide), if_neg (by decide)]
      · rfl
/-- the type of a node -/
def nC (V : zSt) (g : gG) (ρ tE : Nat → tY) (p : Nat × Nat) : Prop := ∃ c, V.2.2.1 39 p.1 = nI c ∧ c < g.n ∧ ρ c = tE p.2
/-- what stands fast in formsOf() -/
def rFh (T len cnt N S P A : Nat) (L : List Nat) (V : zSt) (kk pp ee f : Nat → Int32) (g : gG) (ρ tN : Nat → tY) : Prop := (9010 ≤ T ∧ N ≤ 2100 ∧ S ≤ 2100 ∧ P ≤ 2100 ∧ A ≤ 2100) ∧ rW V T len cnt kk pp ee f ∧ rNu (V.2.2.1 32) L ∧ (∀ w, 0 ≤ pp w) ∧ rTf V g ρ ∧ ∀ j u, L[j]? = some u → ∃ c, V.2.2.1 31 j = nI c ∧ c < g.n ∧ ρ c = tN u
def rFt (cnt : Nat) (L : List Nat) (V : zSt) (kk pp ee f : Nat → Int32) (g : gG) (ρ tE : Nat → tY) (t : tT) (env : List Nat) (m0 m : Nat) : Prop := tGd kk cnt t ∧ rWo f pp ee (V.2.2.1 32) L t env ∧ rEv L t env ∧ ∀ p, p ∈ nE V t m0 m → nC V g ρ tE p
/-- the contract of formsOf() -/
def rFrm (ks : Nat → Nat) (qs : List Nat) (T h0 cnt lo N S P A : Nat) (L : List Nat) (V : zSt) (kk pp ee f : Nat → Int32) (g : gG) (ρ tE tN : Nat → tY) (t : tT) : Prop := ∀ env m cn n τ q, rTr pp V lo N S P A t 0 0 m → tWf kk cnt t 0 → rFt cnt L V kk pp ee f g ρ tE t env 0 m → fFm V τ → fQ τ q → 10 + tDr t ≤ n → 1610 + tH t ≤ n → ∃ τ', zF h0 qs ks T n 63 [.ref h0, .int (nI m), .int cn] τ = some (none, τ') ∧ fFm V τ' ∧ fQ τ' (rFo f pp ee tE tN t env cn q)
/-- and of its loop through ARGS -/
def rFar (ks : Nat → Nat) (qs : List Nat) (T h0 cnt lo N S P A : Nat) (L : List Nat) (V : zSt) (kk pp ee f : Nat → Int32) (g : gG) (ρ tE tN : Nat → tY) (t : tT) : Prop := ∀ env m x u k cn n fu τ q, m < 2100 → V.2.2.1 10 m = nI x → V.2.2.1 11 m = nI u → u < 2100 → rTr pp V lo N S P A t 0 (x + k) (x + u) → tWf kk cnt t 2 → rFt cnt L V kk pp ee f g ρ tE t env (x + k) 0 → fFm V τ → fQ τ q → 10 + tDr t ≤ n → 1610 + tH t ≤ n → tQn t < fu → ∃ τ', l_formsOf_350 T (zF h0 qs ks T n) h0 qs ks fu (nI m) cn (nI k) τ = some (none, τ') ∧ fFm V τ' ∧ fQ τ' (rFo f pp ee tE tN t env cn q)
section RFR
variable {ks : Nat → Nat} {qs : List Nat} {T h0 len cnt lo N S P A : Nat} {L env : List Nat} {V τ : zSt} {kk pp ee f : Nat → Int32} {g : gG} {ρ tE tN : Nat → tY} {d : Nat × Nat × Nat × tS × tS} {z : Unit} {a b : tT}
theorem rFh.lh (H : rFh T len cnt N S P A L V kk pp ee f g ρ tN) (he : env.length ≤ 12 ∧ ∀ u, u ∈ env → u ∈ L) : rLh T len cnt S P L env V kk pp ee f := ⟨⟨by have := H.1.1; omega, H.1.2.2.1, H.1.2.2.2.1⟩, H.2.1, H.2.2.1, he.2, he.1⟩
theorem rLh.kp (H : rLh T len cnt S P L env V kk pp ee f) (fm : fFm V τ) : rLh T len cnt S P L env τ kk pp ee f := by
  have fmV : ∀ k, k ≠ 40 → k ≠ 41 → τ.2.2.1 k = V.2.2.1 k := fm.2.2.1
  exact ⟨H.1, H.2.1.keep (fmV 1 (by decide) (by decide)) (fmV 3 (by decide) (by decide)) (fmV 4 (by decide) (by decide)) (fmV 5 (by decide) (by decide)), by rw [fmV 32 (by decide) (by decide)]; exact H.2.2.1, H.2.2.2⟩
theorem fFm.sm {x : Nat} {t : tS} (fm : fFm V τ) (h : rSm pp V S P x t) : rSm pp τ S P x t := by
  have fmV : ∀ k, k ≠ 40 → k ≠ 41 → τ.2.2.1 k = V.2.2.1 k := fm.2.2.1
  have at' : rAt 0 0 S P 0 V τ := ⟨fun m _ _ => funext fun k => congrFun (fmV _ (by omega) (by omega)) m, fun k j a b _ => congrFun (fmV k (by omega) (by omega)) j, fun k j a b _ => congrFun (fmV k (by omega) (by omega)) j, fun m _ => funext fun k => congrFun (fmV _ (by omega) (by omega)) m⟩
  exact at'.sm h (Nat.le_refl _) (Nat.le_refl _)
theorem fQ.kp {τ' : zSt} {q : Nat × Int32} (h : fQ τ q) (fm : gFm τ τ') : fQ τ' q := ⟨(fm.1 65 (by decide)).trans h.1, (fm.1 52 (by decide)).trans h.2.1, h.2.2⟩
theorem fQ.w {q : Nat × Int32} (h : fQ τ q) (fm : fFm V τ) (pl : Int32) : fQ (zI τ 52 (fMin (τ.1 52) pl)) (q.1, fMin q.2 pl) ∧ fFm V (zI τ 52 (fMin (τ.1 52) pl)) := by
  refine ⟨⟨(zIn _ _ (by decide)).trans h.1, ?_, h.2.2⟩, fm.tr ⟨fun k a b c => zIn _ _ a, fun _ _ => rfl, fun _ _ _ => rfl, rfl⟩⟩
  rw [zIe, h.2.1]
/-- wants() at a node -/
theorem rf_w {m n w : Nat} {q : Nat × Int32} (H : rFh T len cnt N S P A L V kk pp ee f g ρ tN) (hc : nC V g ρ tE (m, w)) (fm : fFm V τ) (hq : fQ τ q) (hn : 1605 ≤ n) : ∃ τ', zF h0 qs ks T n 62 [.ref h0, .int (V.2.2.1 39 m), .int (pp w)] τ = some (none, τ') ∧ fFm V τ' ∧ fQ τ' (fW (tE w) (pp w) q) := by
  obtain ⟨c, c1, c2, c3⟩ := hc
  have c1 : V.2.2.1 39 m = nI c := c1
  have c3 : ρ c = tE w := c3
  rw [c1, ← c3]
  exact r_wants H.1.1 H.2.2.2.2.1 fm c2 (H.2.2.2.1 w) hq hn
set_option maxHeartbeats 1000000 in
theorem rf_1 (H : rFh T len cnt N S P A L V kk pp ee f g ρ tN) (Ia : rFrm ks qs T h0 cnt lo N S P A L V kk pp ee f g ρ tE tN a) (Ib : rFrm ks qs T h0 cnt lo N S P A L V kk pp ee f g ρ tE tN b) (wa : tWf kk cnt a 0) (wb : tWf kk cnt b 0) : rFrm ks qs T h0 cnt lo N S P A L V kk pp ee f g ρ tE tN (.inner 1 d z a b) := fun env m cn n τ q tr wf ht fm hq hn hn2 => by
  obtain ⟨gd, wo, ev, nc⟩ := ht
  obtain ⟨n, rfl⟩ : ∃ n', n = n' + 1 := ⟨n - 1, by omega⟩
  obtain ⟨t0, t3, x, y, ⟨t1, t2⟩, ta, tb⟩ := tr
  have hm : m < 2100 := by have := t0.1.2; have := H.1.2.1; omega
  have hx : x < 2100 := by have := (rTr_fw ta wa).1; have := H.1.2.1; omega
  have hy : y < 2100 := by have := (rTr_fw tb wb).1; have := H.1.2.1; omega
  have nc : ∀ p, p ∈ (m, d.1) :: (nE V a 0 (V.2.2.1 11 m).toNatClampNeg ++ nE V b 0 (V.2.2.1 12 m).toNatClampNeg) → nC V g ρ tE p := nc
  rw [show V.2.2.1 11 m = nI x from t1, show V.2.2.1 12 m = nI y from t2, nI_clamp (by omega), nI_clamp (by omega)] at nc
  have wo : rTo (V.2.2.1 32) L (d.1 + 1) ∧ rWo f pp ee (V.2.2.1 32) L a env ∧ rWo f pp ee (V.2.2.1 32) L b (env ++ [d.1 + 1]) := wo
  have ev : (env.length ≤ 12 ∧ ∀ u, u ∈ env → u ∈ L) ∧ rEv L a env ∧ rEv L b (env ++ [d.1 + 1]) := ev
  have hn : 10 + (max (tDr a) (tDr b) + 3) ≤ n + 1 := hn
  have hn2 : 1610 + (max (tH a) (tH b) + 1) ≤ n + 1 := hn2
  obtain ⟨τ1, a1, a2, a3⟩ := rf_w (h0 := h0) (qs := qs) (ks := ks) (n := n) H (nc _ (List.mem_cons_self ..)) fm hq (by omega)
  obtain ⟨τ2, b1, b2, b3⟩ := Ia env x cn n τ1 _ ta wa ⟨gd.2.2.2.1, wo.2.1, ev.2.1, fun p hp => nc p (List.mem_cons_of_mem _ (List.mem_append_left _ hp))⟩ a2 a3 (by omega) (by omega)
  obtain ⟨τ3, c1, c2, c3⟩ := Ib (env ++ [d.1 + 1]) y cn n τ2 _ tb wb ⟨gd.2.2.2.2, wo.2.2, ev.2.2, fun p hp => nc p (List.mem_cons_of_mem _ (List.mem_append_right _ hp))⟩ b2 b3 (by omega) (by omega)
  rw [zE_formsOf]
  unfold b_formsOf
  have e6 := (fm.r (k := 6) (by decide) (by decide) m).trans t0.2.1
  have e7 := (fm.r (k := 7) (by decide) (by decide) m).trans t0.2.2
  have e39 := fm.r (k := 39) (by decide) (by decide) m
  have e11 := (a2.r (k := 11) (by decide) (by decide) m).trans t1
  have e12 := (b2.r (k := 12) (by decide) (by decide) m).trans t2
  simp only [zgd, zin_n hm (by decide), if_true, nI_clamp (show m < 2 ^ 31 by omega), e6, e7, e39, a1, zcv_at, e11, b1, e12, c1]
  rw [if_pos (by decide)]
  exact ⟨τ3, rfl, c2, c3⟩
set_option maxHeartbeats 1000000 in
theorem rf_19 (H : rFh T len cnt N S P A L V kk pp ee f g ρ tN) (Ia : rFrm ks qs T h0 cnt lo N S P A L V kk pp ee f g ρ tE tN a) (Ib : rFrm ks qs T h0 cnt lo N S P A L V kk pp ee f g ρ tE tN b) (wa : tWf kk cnt a 0) (wb : tWf kk cnt b 0) : rFrm ks qs T h0 cnt lo N S P A L V kk pp ee f g ρ tE tN (.inner 19 d z a b) := fun env m cn n τ q tr wf ht fm hq hn hn2 => by
  obtain ⟨gd, wo, ev, nc⟩ := ht
  obtain ⟨n, rfl⟩ : ∃ n', n = n' + 1 := ⟨n - 1, by omega⟩
  obtain ⟨t0, t3, x, y, ⟨t1, t2⟩, ta, tb⟩ := tr
  have hm : m < 2100 := by have := t0.1.2; have := H.1.2.1; omega
  have hx : x < 2100 := by have := (rTr_fw ta wa).1; have := H.1.2.1; omega
  have hy : y < 2100 := by have := (rTr_fw tb wb).1; have := H.1.2.1; omega
  have nc : ∀ p, p ∈ (m, d.1) :: (nE V a 0 (V.2.2.1 11 m).toNatClampNeg ++ nE V b 0 (V.2.2.1 12 m).toNatClampNeg) → nC V g ρ tE p := nc
  rw [show V.2.2.1 11 m = nI x from t1, show V.2.2.1 12 m = nI y from t2, nI_clamp (by omega), nI_clamp (by omega)] at nc
  have wo : rUs f pp ee (V.2.2.1 32) L env (d.1 + 1) ∧ rWo f pp ee (V.2.2.1 32) L a env ∧ (rTo (V.2.2.1 32) L d.2.1 ∧ rTo (V.2.2.1 32) L (d.2.1 + 1)) ∧ rWo f pp ee (V.2.2.1 32) L b (env ++ [d.2.1, d.2.1 + 1]) := wo
  have ev : (env.length ≤ 12 ∧ ∀ u, u ∈ env → u ∈ L) ∧ rEv L a env ∧ rEv L b (env ++ [d.2.1, d.2.1 + 1]) := ev
  have hn : 10 + (max (tDr a) (tDr b) + 3) ≤ n + 1 := hn
  have hn2 : 1610 + (max (tH a) (tH b) + 1) ≤ n + 1 := hn2
  obtain ⟨τ1, a1, a2, a3⟩ := rf_w (h0 := h0) (qs := qs) (ks := ks) (n := n) H (nc _ (List.mem_cons_self ..)) fm hq (by omega)
  obtain ⟨τ2, b1, b2, b3⟩ := Ia env x cn n τ1 _ ta wa ⟨gd.2.2.2.1, wo.2.1, ev.2.1, fun p hp => nc p (List.mem_cons_of_mem _ (List.mem_append_left _ hp))⟩ a2 a3 (by omega) (by omega)
  obtain ⟨τ3, c1, c2, c3⟩ := Ib (env ++ [d.2.1, d.2.1 + 1]) y cn n τ2 _ tb wb ⟨gd.2.2.2.2, wo.2.2.2, ev.2.2, fun p hp => nc p (List.mem_cons_of_mem _ (List.mem_append_right _ hp))⟩ b2 b3 (by omega) (by omega)
  rw [zE_formsOf]
  unfold b_formsOf
  have e6 := (fm.r (k := 6) (by decide) (by decide) m).trans t0.2.1
  have e7 := (fm.r (k := 7) (by decide) (by decide) m).trans t0.2.2
  have e39 := fm.r (k := 39) (by decide) (by decide) m
  have e11 := (a2.r (k := 11) (by decide) (by decide) m).trans t1
  have e12 := (b2.r (k := 12) (by decide) (by decide) m).trans t2
  simp only [zgd, zin_n hm (by decide), if_true, nI_clamp (show m < 2 ^ 31 by omega), e6, e7, e39, a1, zcv_at, e11, b1, e12, c1]
  rw [if_neg (by decide), if_neg (by decide), if_neg (by decide), if_neg (by decide), if_neg (by decide), if_neg (by decide), if_neg (by decide), if_neg (by decide), if_neg (by decide), if_neg (by decide), if_neg (by decide), if_neg (by decide), if_neg (by decide), if_neg (by decide), if_neg (by decide), if_neg (by decide), if_neg (by decide), if_neg (by decide), if_pos (by decide)]
  exact ⟨τ3, rfl, c2, c3⟩
set_option maxHeartbeats 1000000 in
theorem rf_2 (H : rFh T len cnt N S P A L V kk pp ee f g ρ tN) (Ia : rFrm ks qs T h0 cnt lo N S P A L V kk pp ee f g ρ tE tN a) (Ib : rFrm ks qs T h0 cnt lo N S P A L V kk pp ee f g ρ tE tN b) (wa : tWf kk cnt a 0) (wb : tWf kk cnt b 0) (w2 : d.1 + 3 + d.2.1 ≤ cnt) : rFrm ks qs T h0 cnt lo N S P A L V kk pp ee f g ρ tE tN (.inner 2 d z a b) := fun env m cn n τ q tr wf ht fm hq hn hn2 => by
  obtain ⟨gd, wo, ev, nc⟩ := ht
  obtain ⟨n, rfl⟩ : ∃ n', n = n' + 1 := ⟨n - 1, by omega⟩
  obtain ⟨t0, ⟨t3, t4⟩, x, y, ⟨t1, t2⟩, ta, tb⟩ := tr
  have hm : m < 2100 := by have := t0.1.2; have := H.1.2.1; omega
  have hx : x < 2100 := by have := (rTr_fw ta wa).1; have := H.1.2.1; omega
  have hy : y < 2100 := by have := (rTr_fw tb wb).1; have := H.1.2.1; omega
  have nc : ∀ p, p ∈ (m, d.1) :: (nE V a 0 (V.2.2.1 11 m).toNatClampNeg ++ nE V b 0 (V.2.2.1 12 m).toNatClampNeg) → nC V g ρ tE p := nc
  rw [show V.2.2.1 11 m = nI x from t1, show V.2.2.1 12 m = nI y from t2, nI_clamp (by omega), nI_clamp (by omega)] at nc
  have wo : (rTo (V.2.2.1 32) L (d.1 + 2) ∧ ∀ x, x < d.2.1 → rTo (V.2.2.1 32) L (d.1 + 3 + x)) ∧ rWo f pp ee (V.2.2.1 32) L a (env ++ ([d.1 + 2] ++ List.range' (d.1 + 3) d.2.1)) ∧ rWo f pp ee (V.2.2.1 32) L b (env ++ [d.1 + 2]) := wo
  have ev : (env.length ≤ 12 ∧ ∀ u, u ∈ env → u ∈ L) ∧ rEv L a (env ++ ([d.1 + 2] ++ List.range' (d.1 + 3) d.2.1)) ∧ rEv L b (env ++ [d.1 + 2]) := ev
  have hn : 10 + (max (tDr a) (tDr b) + 3) ≤ n + 1 := hn
  have hn2 : 1610 + (max (tH a) (tH b) + 1) ≤ n + 1 := hn2
  obtain ⟨τ1, a1, a2, a3⟩ := rf_w (h0 := h0) (qs := qs) (ks := ks) (n := n) H (nc _ (List.mem_cons_self ..)) fm hq (by omega)
  obtain ⟨j, j1, j2⟩ := wo.1.1
  have hj : j < 700 := by
    have := H.2.2.1.1
    by_cases c : j < L.length
    · omega
    · rw [List.getElem?_eq_none (by omega)] at j2; cases j2
  have hd : d.1 + 2 < 2010 := by have := H.2.1.2.2.2.2.2.2; omega
  obtain ⟨c, c1, c2, c3⟩ := H.2.2.2.2.2 j _ j2
  obtain ⟨τ2, x1, x2, x3⟩ := r_wants (h0 := h0) (qs := qs) (ks := ks) (n := n) H.1.1 H.2.2.2.2.1 a2 c2 (H.2.2.2.1 d.1) a3 (by omega)
  rw [c3] at x3
  obtain ⟨τ3, b1, b2, b3⟩ := Ia (env ++ ([d.1 + 2] ++ List.range' (d.1 + 3) d.2.1)) x cn n τ2 _ ta wa ⟨gd.2.2.2.1, wo.2.1, ev.2.1, fun p hp => nc p (List.mem_cons_of_mem _ (List.mem_append_left _ hp))⟩ x2 x3 (by omega) (by omega)
  obtain ⟨τ4, y1, y2, y3⟩ := Ib (env ++ [d.1 + 2]) y cn n τ3 _ tb wb ⟨gd.2.2.2.2, wo.2.2, ev.2.2, fun p hp => nc p (List.mem_cons_of_mem _ (List.mem_append_right _ hp))⟩ b2 b3 (by omega) (by omega)
  rw [zE_formsOf]
  unfold b_formsOf
  have e6 := (fm.r (k := 6) (by decide) (by decide) m).trans t0.2.1
  have e7 := (fm.r (k := 7) (by decide) (by decide) m).trans t0.2.2
  have e39 := fm.r (k := 39) (by decide) (by decide) m
  have e7' := (a2.r (k := 7) (by decide) (by decide) m).trans t0.2.2
  have e9 := (a2.r (k := 9) (by decide) (by decide) m).trans t3
  have e32 := (a2.r (k := 32) (by decide) (by decide) (d.1 + 2)).trans j1
  have e31 := (a2.r (k := 31) (by decide) (by decide) j).trans c1
  have e11 := (x2.r (k := 11) (by decide) (by decide) m).trans t1
  have e12 := (b2.r (k := 12) (by decide) (by decide) m).trans t2
  simp only [zgd, zin_n hm (by decide), if_true, nI_clamp (show m < 2 ^ 31 by omega), e6, e7, e39, a1, zcv_at, e9, zin_n hd (by decide), nI_clamp (show d.1 + 2 < 2 ^ 31 by omega), e32, zin_n hj (by decide), nI_clamp (show j < 2 ^ 31 by omega), e31, e7', x1, e11, b1, e12, y1]
  rw [if_neg (by decide), if_pos (by decide)]
  exact ⟨τ4, rfl, y2, y3⟩
set_option maxHeartbeats 1000000 in
theorem rf_3 (H : rFh T len cnt N S P A L V kk pp ee f g ρ tN) (Ia : rFrm ks qs T h0 cnt lo N S P A L V kk pp ee f g ρ tE tN a) (wa : tWf kk cnt a 0) : rFrm ks qs T h0 cnt lo N S P A L V kk pp ee f g ρ tE tN (.inner 3 d z a b) := fun env m cn n τ q tr wf ht fm hq hn hn2 => by
  obtain ⟨gd, wo, ev, nc⟩ := ht
  obtain ⟨n, rfl⟩ : ∃ n', n = n' + 1 := ⟨n - 1, by omega⟩
  obtain ⟨t0, t3, x, t1, ta⟩ := tr
  have hm : m < 2100 := by have := t0.1.2; have := H.1.2.1; omega
  have hx : x < 2100 := by have := (rTr_fw ta wa).1; have := H.1.2.1; omega
  have nc : ∀ p, p ∈ (m, d.1) :: nE V a 0 (V.2.2.1 11 m).toNatClampNeg → nC V g ρ tE p := nc
  rw [show V.2.2.1 11 m = nI x from t1, nI_clamp (by omega)] at nc
  have wo : rTo (V.2.2.1 32) L (d.1 + 1) ∧ rWo f pp ee (V.2.2.1 32) L a (env ++ [d.1 + 1]) := wo
  have ev : (env.length ≤ 12 ∧ ∀ u, u ∈ env → u ∈ L) ∧ rEv L a (env ++ [d.1 + 1]) := ev
  have hn : 10 + (max (tDr a) (tDr b) + 3) ≤ n + 1 := hn
  have hn2 : 1610 + (max (tH a) (tH b) + 1) ≤ n + 1 := hn2
  obtain ⟨τ1, a1, a2, a3⟩ := rf_w (h0 := h0) (qs := qs) (ks := ks) (n := n) H (nc _ (List.mem_cons_self ..)) fm hq (by omega)
  obtain ⟨τ2, b1, b2, b3⟩ := Ia (env ++ [d.1 + 1]) x cn n τ1 _ ta wa ⟨gd.2.2.2.1, wo.2, ev.2, fun p hp => nc p (List.mem_cons_of_mem _ hp)⟩ a2 a3 (by omega) (by omega)
  rw [zE_formsOf]
  unfold b_formsOf
  have e6 := (fm.r (k := 6) (by decide) (by decide) m).trans t0.2.1
  have e7 := (fm.r (k := 7) (by decide) (by decide) m).trans t0.2.2
  have e39 := fm.r (k := 39) (by decide) (by decide) m
  have e11 := (a2.r (k := 11) (by decide) (by decide) m).trans t1
  simp only [zgd, zin_n hm (by decide), if_true, nI_clamp (show m < 2 ^ 31 by omega), e6, e7, e39, a1, zcv_at, e11, b1]
  rw [if_neg (by decide), if_neg (by decide), if_pos (by decide)]
  exact ⟨τ2, rfl, b2, b3⟩
set_option maxHeartbeats 1000000 in
theorem rf_6 (H : rFh T len cnt N S P A L V kk pp ee f g ρ tN) (Ia : rFrm ks qs T h0 cnt lo N S P A L V kk pp ee f g ρ tE tN a) (wa : tWf kk cnt a 0) : rFrm ks qs T h0 cnt lo N S P A L V kk pp ee f g ρ tE tN (.inner 6 d z a b) := fun env m cn n τ q tr wf ht fm hq hn hn2 => by
  obtain ⟨gd, wo, ev, nc⟩ := ht
  obtain ⟨n, rfl⟩ : ∃ n', n = n' + 1 := ⟨n - 1, by omega⟩
  obtain rfl : b = .leaf := gd.2.2.1.2.2 (Or.inr (Or.inl rfl))
  obtain ⟨t0, t3, x', y', x, ⟨t4, t5, t1⟩, -, -, ta⟩ := tr
  have hm : m < 2100 := by have := t0.1.2; have := H.1.2.1; omega
  have hx : x < 2100 := by have := (rTr_fw ta wa).1; have := H.1.2.1; omega
  have nc : ∀ p, p ∈ (m, d.1) :: nE V a 0 (V.2.2.1 12 m).toNatClampNeg → nC V g ρ tE p := nc
  rw [show V.2.2.1 12 m = nI x from t1, nI_clamp (by omega)] at nc
  have wo : rUs f pp ee (V.2.2.1 32) L env (d.1 + 1) ∧ rWs f pp ee (V.2.2.1 32) L env (sEv d.2.2.2.1.2) ∧ rWs f pp ee (V.2.2.1 32) L env (sEv d.2.2.2.2.2) ∧ rWo f pp ee (V.2.2.1 32) L a env := wo
  have ev : (env.length ≤ 12 ∧ ∀ u, u ∈ env → u ∈ L) ∧ rEv L a env ∧ rEv L _ env := ev
  have hn : 10 + (max (tDr a) (tDr .leaf) + 3) ≤ n + 1 := hn
  have hn2 : 1610 + (max (tH a) (tH .leaf) + 1) ≤ n + 1 := hn2
  obtain ⟨τ2, b1, b2, b3⟩ := Ia env x cn n τ _ ta wa ⟨gd.2.2.2.1, wo.2.2.2, ev.2.1, fun p hp => nc p (List.mem_cons_of_mem _ hp)⟩ fm hq (by omega) (by omega)
  rw [zE_formsOf]
  unfold b_formsOf
  have e6 := (fm.r (k := 6) (by decide) (by decide) m).trans t0.2.1
  have e7 := (fm.r (k := 7) (by decide) (by decide) m).trans t0.2.2
  have e39 := fm.r (k := 39) (by decide) (by decide) m
  have e12 := (fm.r (k := 12) (by decide) (by decide) m).trans t1
  simp only [zgd, zin_n hm (by decide), if_true, nI_clamp (show m < 2 ^ 31 by omega), e6, zcv_at, e12, b1]
  rw [if_neg (by decide), if_neg (by decide), if_neg (by decide), if_neg (by decide), if_neg (by decide), if_pos (by decide)]
  exact ⟨τ2, rfl, b2, b3⟩
set_option maxHeartbeats 1000000 in
theorem rf_16 (H : rFh T len cnt N S P A L V kk pp ee f g ρ tN) (Ia : rFrm ks qs T h0 cnt lo N S P A L V kk pp ee f g ρ tE tN a) (wa : tWf kk cnt a 0) (hb : b = .leaf) : rFrm ks qs T h0 cnt lo N S P A L V kk pp ee f g ρ tE tN (.inner 16 d z a b) := fun env m cn n τ q tr wf ht fm hq hn hn2 => by
  obtain ⟨gd, wo, ev, nc⟩ := ht
  obtain ⟨n, rfl⟩ : ∃ n', n = n' + 1 := ⟨n - 1, by omega⟩
  subst hb
  obtain ⟨t0, x, t1, ta⟩ := tr
  have hm : m < 2100 := by have := t0.1.2; have := H.1.2.1; omega
  have hx : x < 2100 := by have := (rTr_fw ta wa).1; have := H.1.2.1; omega
  have nc : ∀ p, p ∈ (m, d.1) :: nE V a 0 (V.2.2.1 11 m).toNatClampNeg → nC V g ρ tE p := nc
  rw [show V.2.2.1 11 m = nI x from t1, nI_clamp (by omega)] at nc
  have wo : rWs f pp ee (V.2.2.1 32) L env (sEv d.2.2.2.1.2) ∧ rWs f pp ee (V.2.2.1 32) L env (sEv d.2.2.2.2.2) ∧ rWo f pp ee (V.2.2.1 32) L a env ∧ rWo f pp ee (V.2.2.1 32) L _ env := wo
  have ev : (env.length ≤ 12 ∧ ∀ u, u ∈ env → u ∈ L) ∧ rEv L a env ∧ rEv L _ env := ev
  have hn : 10 + (max (tDr a) (tDr .leaf) + 3) ≤ n + 1 := hn
  have hn2 : 1610 + (max (tH a) (tH .leaf) + 1) ≤ n + 1 := hn2
  obtain ⟨τ2, b1, b2, b3⟩ := Ia env x cn n τ _ ta wa ⟨gd.2.2.2.1, wo.2.2.1, ev.2.1, fun p hp => nc p (List.mem_cons_of_mem _ hp)⟩ fm hq (by omega) (by omega)
  rw [zE_formsOf]
  unfold b_formsOf
  have e6 := (fm.r (k := 6) (by decide) (by decide) m).trans t0.2.1
  have e7 := (fm.r (k := 7) (by decide) (by decide) m).trans t0.2.2
  have e39 := fm.r (k := 39) (by decide) (by decide) m
  have e11 := (fm.r (k := 11) (by decide) (by decide) m).trans t1
  simp only [zgd, zin_n hm (by decide), if_true, nI_clamp (show m < 2 ^ 31 by omega), e6, zcv_at, e11, b1]
  rw [if_neg (by decide), if_neg (by decide), if_neg (by decide), if_neg (by decide), if_neg (by decide), if_neg (by decide), if_neg (by decide), if_neg (by decide), if_neg (by decide), if_neg (by decide), if_neg (by decide), if_neg (by decide), if_neg (by decide), if_neg (by decide), if_neg (by decide), if_pos (by decide)]
  exact ⟨τ2, rfl, b2, b3⟩
end RFR
