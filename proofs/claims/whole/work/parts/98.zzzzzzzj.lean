/-! countTemplates() of the class -/
/-- CASES so far as the class counts them -/
def lQ (l : Nat) (q : Nat × Int32) : Prop := (q.1 ≤ 60 ∧ l = q.1 ∧ q.2 = -1) ∨ (60 < q.1 ∧ 60 < l ∧ 0 ≤ q.2)
/-- and behind one node's own -/
def lR (l : Nat) (q q1 : Nat × Int32) (pl : Int32) : Prop := (q1.1 ≤ 60 ∧ l = q1.1 ∧ q1.2 = -1 ∧ q.2 = -1) ∨ (60 < q1.1 ∧ 60 < l ∧ q1.2 = if 0 ≤ q.2 then q.2 else pl)
section LQS
variable {l : Nat} {q q1 : Nat × Int32} {pl : Int32}
theorem lQ.r (h : lQ l q) : lR l q q pl := by
  rcases h with ⟨h1, h2, h3⟩ | ⟨h1, h2, h3⟩
  · exact Or.inl ⟨h1, h2, h3, h3⟩
  · exact Or.inr ⟨h1, h2, by rw [if_pos h3]⟩
theorem lR.v (h : lR l q q1 pl) (y : tY) : lR (l + min 61 (yLv y)) q (fVo y pl q1) pl := by
  unfold fVo
  rcases h with ⟨h1, h2, h3, h4⟩ | ⟨h1, h2, h3⟩
  · rw [if_pos h1]
    by_cases c : q1.1 + yLv y ≤ 60
    · rw [if_pos c]
      exact Or.inl ⟨c, by show l + min 61 (yLv y) = q1.1 + yLv y; omega, h3, h4⟩
    · rw [if_neg c]
      refine Or.inr ⟨by show 60 < 61; omega, by omega, ?_⟩
      rw [h4, if_neg (by decide)]
  · rw [if_neg (by omega)]
    exact Or.inr ⟨h1, by omega, h3⟩
theorem lR.qq (h : lR l q q1 pl) (hp : 0 ≤ pl) : lQ l q1 := by
  rcases h with ⟨h1, h2, h3, h4⟩ | ⟨h1, h2, h3⟩
  · exact Or.inl ⟨h1, h2, h3⟩
  · refine Or.inr ⟨h1, h2, ?_⟩
    rw [h3]
    split
    · assumption
    · exact hp
theorem fVo_hi {y : tY} (h : 60 < q.1) : fVo y pl q = q := by
  unfold fVo
  rw [if_neg (by omega)]
theorem tOv_hi {pp : Nat → Int32} {tE tN : Nat → tY} (h : 60 < q.1) : ∀ t : tT, tOv pp tE tN t q = q
  | .leaf => rfl
  | .inner g d _ a b => by
    have Ia := tOv_hi (pp := pp) (tE := tE) (tN := tN) h a
    have Ib := tOv_hi (pp := pp) (tE := tE) (tN := tN) h b
    unfold tOv
    simp only [fVo_hi h, Ia, Ib, ite_self]
end LQS
/-- the type of a node -/
def eXw (σ : oSt) (g : gG) (ρ tE : Nat → tY) (m u : Nat) : Prop := ∃ c, ofd σ (some m) 7 8 = some (.int (nI c)) ∧ c < g.n ∧ ρ c = tE u
/-- what countTemplates does at x -/
def cKw (κ : oKv) (T y mo : Nat) (A : Nat → Nat) (g : gG) (ρ : Nat → tY) (σ0 : oSt) (n x : Nat) (fa : Nat × Int32 → Nat × Int32) (i j : Nat) : Prop := ∀ σ q l, lQ l q → l ≤ 122 * i → yTf y A mo g ρ (nI l) q.2 σ → yF y A σ0 σ → ∃ σ' l', oF κ T n 161 [va_rf (some y), va_rf (some x)] σ = some (none, σ') ∧ yTf y A mo g ρ (nI l') (fa q).2 σ' ∧ yF y A σ0 σ' ∧ lQ l' (fa q) ∧ l' ≤ 122 * j
section CCT
variable {κ : oKv} {T n mo y cnt m i j k : Nat} {A : Nat → Nat} {g : gG} {ρ tE tN : Nat → tY} {σ0 σ σ1 V : oSt} {nm : Nat → Option Nat} {pp : Nat → Int32} {L : List Nat} {lv ov kd : Int32} {fs : List Value} {l : Nat} {q q1 : Nat × Int32} {pl : Int32}
theorem yTf.f7 (h : yTf y A mo g ρ lv ov σ) : ofd σ (some y) 12 7 = some (.int lv) ∧ ofd σ (some y) 12 9 = some (.int ov) ∧ oob σ (some y) 12 = some y := by
  obtain ⟨F, hF, -⟩ := h
  exact ⟨by rw [ofd_at hF.1]; rfl, by rw [ofd_at hF.1]; rfl, hF.ob⟩
theorem yTf.p7 (h : yTf y A mo g ρ lv ov σ) (v : Int32) : ∃ σ', opf σ (some y) 12 7 (.int v) = some σ' ∧ yTf y A mo g ρ v ov σ' ∧ yF y A σ σ' := by
  obtain ⟨F, hF, h⟩ := h
  obtain ⟨p1, p2⟩ := hF.put (nI g.n) v (-1) ov
  exact ⟨_, hF.p7 v, ⟨F, p1, h⟩, p2⟩
theorem yTf.p9 (h : yTf y A mo g ρ lv ov σ) (v : Int32) : ∃ σ', opf σ (some y) 12 9 (.int v) = some σ' ∧ yTf y A mo g ρ lv v σ' ∧ yF y A σ σ' := by
  obtain ⟨F, hF, h⟩ := h
  obtain ⟨p1, p2⟩ := hF.put (nI g.n) lv (-1) v
  exact ⟨_, hF.p9 v, ⟨F, p1, h⟩, p2⟩
/-- one TEMPLATE more -/
theorem c_ad (hT : 500000 ≤ T) (h : yTf y A mo g ρ (nI l) ov σ) {c : Nat} (hc : c < g.n) : ∃ s7 σ', oF κ T (n + 2) 160 [va_rf (some y), .int (nI c)] σ = some (some (.int (nI (min 61 (yLv (ρ c))))), s7) ∧ opf s7 (some y) 12 7 (.int (nI l + nI (min 61 (yLv (ρ c))))) = some σ' ∧ yTf y A mo g ρ (nI (l + min 61 (yLv (ρ c)))) ov σ' ∧ yF y A σ σ' := by
  obtain ⟨s7, a1, a2, a3⟩ := c_leaves (κ := κ) (n := n) hT h hc
  obtain ⟨σ', b1, b2, b3⟩ := a2.p7 (nI l + nI (min 61 (yLv (ρ c))))
  rw [nI_add] at b2
  exact ⟨s7, σ', a1, b1, b2, a3.tr b3⟩
/-- behind the node's own: too many, or on to what is within -/
theorem c_97 (hl : lR l q q1 pl) (hb : l < 2 ^ 31) (h : yTf y A mo g ρ (nI l) q.2 σ) (f1 : ofd σ (some m) 7 1 = some (.int pl)) : (60 < q1.1 → ∃ σ', oj_X10_countTemplates_97 T (oF κ T n) κ (some y) (some m) σ = some (none, σ') ∧ yTf y A mo g ρ (nI l) q1.2 σ' ∧ yF y A σ σ') ∧ (q1.1 ≤ 60 → q1.2 = q.2 ∧ oj_X10_countTemplates_97 T (oF κ T n) κ (some y) (some m) σ = (obn (ovr (ofd σ (some m) 7 12)) fun v4 => if v4 = none then oj_X10_countTemplates_144 T (oF κ T n) κ (some y) (some m) σ else obn (ovr (ofd σ (some m) 7 12)) fun v7 => obn (oob σ (some y) 12) fun a9 => ocv (oF κ T n 161 [va_rf (some y), va_rf v7] σ) fun s11 => oj_X10_countTemplates_144 T (oF κ T n) κ (some y) (some m) s11)) := by
  obtain ⟨f7, f9, ob⟩ := h.f7
  unfold oj_X10_countTemplates_97
  rw [f7, ovi_in, obn_at]
  rcases hl with ⟨h1, h2, h3, h4⟩ | ⟨h1, h2, h3⟩
  · refine ⟨fun z => by omega, fun _ => ⟨by rw [h3, h4], ?_⟩⟩
    rw [if_pos (show nI l ≤ 60 from nI_le (b := 60) (by omega) (by decide))]
  · refine ⟨fun _ => ?_, fun z => by omega⟩
    rw [if_neg (show ¬ nI l ≤ 60 from nI_ge (a := 60) (by omega) (by omega)), f9, ovi_in, obn_at]
    by_cases c : 0 ≤ q.2
    · rw [if_pos c] at h3 ⊢
      obtain ⟨σ', b1, b2, b3⟩ := h.p9 q.2
      refine ⟨σ', ?_, by rw [h3]; exact b2, b3⟩
      rw [obn_at, b1, obn_at]
    · rw [if_neg c] at h3 ⊢
      obtain ⟨σ', b1, b2, b3⟩ := h.p9 pl
      refine ⟨σ', ?_, by rw [h3]; exact b2, b3⟩
      rw [f1, ovi_in, obn_at, b1, obn_at]
/-- no ARGS -/
theorem c_159 (hT : 500000 ≤ T) (f0 : ofd σ (some m) 7 0 = some (.int kd)) (h4 : kd ≠ 401) : oj_X10_countTemplates_159 T (oF κ T n) κ (some y) (some m) σ = some (none, σ) := by
  unfold oj_X10_countTemplates_159
  obtain ⟨T', rfl⟩ : ∃ T', T = T' + 1 := ⟨T - 1, by omega⟩
  rw [ol_X10_countTemplates_161, f0, ovi_in, obn_at, if_neg h4]
/-- the two E within -/
theorem c_two (hT : 500000 ≤ T) (hy : V.2.1 ≤ y) (hA : ∀ i, i < 6 → V.2.1 ≤ A i) (hv : vK V σ0) (hm : V.1 m = some (.inr (7, fs))) (h0 : fs[0]? = some (.int kd)) (h4 : kd ≠ 401) (h1 : fs[1]? = some (.int pl)) (hp : 0 ≤ pl) {x x' : Nat} (h12 : fs[12]? = some (.ref x)) (h13 : fs[13]? = some (.ref x')) {fa fb : Nat × Int32 → Nat × Int32} (hfa : ∀ q : Nat × Int32, 60 < q.1 → fb (fa q) = q) (Ka : cKw κ T y mo A g ρ σ0 n x fa i k) (Kb : cKw κ T y mo A g ρ σ0 n x' fb k j) (hij : 122 * i ≤ 122 * j) (hj : j ≤ 2000) (hl : lR l q q1 pl) (hb : l ≤ 122 * i) (h : yTf y A mo g ρ (nI l) q.2 σ) (hF : yF y A σ0 σ) : ∃ σ' l', oj_X10_countTemplates_97 T (oF κ T n) κ (some y) (some m) σ = some (none, σ') ∧ yTf y A mo g ρ (nI l') (fb (fa q1)).2 σ' ∧ yF y A σ0 σ' ∧ lQ l' (fb (fa q1)) ∧ l' ≤ 122 * j := by
  have rd : ∀ σ k, yF y A σ0 σ → k ≠ 8 → ofd σ (some m) 7 k = fs[k]? := fun σ k hF hk => (hv.yF hy hA hF).nd hm hk
  obtain ⟨c1, c2⟩ := c_97 (κ := κ) (T := T) (n := n) hl (by omega) h ((rd σ 1 hF (by decide)).trans h1)
  by_cases c6 : q1.1 ≤ 60
  · obtain ⟨e1, e2⟩ := c2 c6
    rw [← e1] at h
    obtain ⟨σ2, l2, a1, a2, a3, a4, a5⟩ := Ka σ q1 l (hl.qq hp) hb h hF
    obtain ⟨σ3, l3, b1, b2, b3, b4, b5⟩ := Kb σ2 (fa q1) l2 a4 a5 a2 a3
    refine ⟨σ3, l3, ?_, b2, b3, b4, b5⟩
    rw [e2, rd σ 12 hF (by decide), h12, ovr_rf, obn_at, if_neg (by simp), obn_at, h.f7.2.2, obn_at, a1, ocv_at]
    unfold oj_X10_countTemplates_144
    rw [rd σ2 13 a3 (by decide), h13, ovr_rf, obn_at, if_neg (by simp), obn_at, a2.f7.2.2, obn_at, b1, ocv_at]
    exact c_159 hT ((rd σ3 0 b3 (by decide)).trans h0) h4
  · obtain ⟨σ2, a1, a2, a3⟩ := c1 (by omega)
    refine ⟨σ2, l, a1, ?_, hF.tr a3, ?_, by omega⟩
    · rw [hfa q1 (by omega)]; exact a2
    · rw [hfa q1 (by omega)]; exact hl.qq hp
/-- one E within -/
theorem c_one (hT : 500000 ≤ T) (hy : V.2.1 ≤ y) (hA : ∀ i, i < 6 → V.2.1 ≤ A i) (hv : vK V σ0) (hm : V.1 m = some (.inr (7, fs))) (h0 : fs[0]? = some (.int kd)) (h4 : kd ≠ 401) (h1 : fs[1]? = some (.int pl)) (hp : 0 ≤ pl) {x : Nat} (h12 : fs[12]? = some (.ref x)) (h13 : fs[13]? = some .null) {fa : Nat × Int32 → Nat × Int32} (hfa : ∀ q : Nat × Int32, 60 < q.1 → fa q = q) (Ka : cKw κ T y mo A g ρ σ0 n x fa i j) (hij : 122 * i ≤ 122 * j) (hj : j ≤ 2000) (hl : lR l q q1 pl) (hb : l ≤ 122 * i) (h : yTf y A mo g ρ (nI l) q.2 σ) (hF : yF y A σ0 σ) : ∃ σ' l', oj_X10_countTemplates_97 T (oF κ T n) κ (some y) (some m) σ = some (none, σ') ∧ yTf y A mo g ρ (nI l') (fa q1).2 σ' ∧ yF y A σ0 σ' ∧ lQ l' (fa q1) ∧ l' ≤ 122 * j := by
  have rd : ∀ σ k, yF y A σ0 σ → k ≠ 8 → ofd σ (some m) 7 k = fs[k]? := fun σ k hF hk => (hv.yF hy hA hF).nd hm hk
  obtain ⟨c1, c2⟩ := c_97 (κ := κ) (T := T) (n := n) hl (by omega) h ((rd σ 1 hF (by decide)).trans h1)
  by_cases c6 : q1.1 ≤ 60
  · obtain ⟨e1, e2⟩ := c2 c6
    rw [← e1] at h
    obtain ⟨σ2, l2, a1, a2, a3, a4, a5⟩ := Ka σ q1 l (hl.qq hp) hb h hF
    refine ⟨σ2, l2, ?_, a2, a3, a4, a5⟩
    rw [e2, rd σ 12 hF (by decide), h12, ovr_rf, obn_at, if_neg (by simp), obn_at, h.f7.2.2, obn_at, a1, ocv_at]
    unfold oj_X10_countTemplates_144
    rw [rd σ2 13 a3 (by decide), h13]
    rw [show ovr (some Value.null) = some none from rfl, obn_at, if_pos rfl]
    exact c_159 hT ((rd σ2 0 a3 (by decide)).trans h0) h4
  · obtain ⟨σ2, a1, a2, a3⟩ := c1 (by omega)
    refine ⟨σ2, l, a1, ?_, hF.tr a3, ?_, by omega⟩
    · rw [hfa q1 (by omega)]; exact a2
    · rw [hfa q1 (by omega)]; exact hl.qq hp
/-- nothing within -/
theorem c_nil (hT : 500000 ≤ T) (hy : V.2.1 ≤ y) (hA : ∀ i, i < 6 → V.2.1 ≤ A i) (hv : vK V σ0) (hm : V.1 m = some (.inr (7, fs))) (h0 : fs[0]? = some (.int kd)) (hkd : kd ≠ 401 ∧ kd ≠ 219 ∧ kd ≠ 212 ∧ kd ≠ 206 ∧ kd ≠ 207 ∧ kd ≠ 214) (h1 : fs[1]? = some (.int pl)) (hp : 0 ≤ pl) (h12 : fs[12]? = some .null) (h13 : fs[13]? = some .null) (hij : i ≤ j) (hj : j ≤ 2000) : cKw κ T y mo A g ρ σ0 (n + 1) m (fun q => q) i j := fun σ q l hl hb h hF => by
  have rd : ∀ σ k, yF y A σ0 σ → k ≠ 8 → ofd σ (some m) 7 k = fs[k]? := fun σ k hF hk => (hv.yF hy hA hF).nd hm hk
  obtain ⟨k1, k2, k3, k4, k5, k6⟩ := hkd
  obtain ⟨c1, c2⟩ := c_97 (κ := κ) (T := T) (n := n) (hl.r (pl := pl)) (by omega) h ((rd σ 1 hF (by decide)).trans h1)
  have e0 := (rd σ 0 hF (by decide)).trans h0
  have pre : oF κ T (n + 1) 161 [va_rf (some y), va_rf (some m)] σ = oj_X10_countTemplates_97 T (oF κ T n) κ (some y) (some m) σ := by
    rw [oE_X10_countTemplates]
    unfold ob_X10_countTemplates oj_X10_countTemplates_30
    simp only [e0, ovi_in, obn_at, k2, k3, k4, k5, k6, if_false]
  rw [pre]
  by_cases c6 : q.1 ≤ 60
  · obtain ⟨e1, e2⟩ := c2 c6
    refine ⟨σ, l, ?_, h, hF, hl, by omega⟩
    rw [e2, rd σ 12 hF (by decide), h12]
    rw [show ovr (some Value.null) = some none from rfl, obn_at, if_pos rfl]
    unfold oj_X10_countTemplates_144
    rw [rd σ 13 hF (by decide), h13]
    rw [show ovr (some Value.null) = some none from rfl, obn_at, if_pos rfl]
    exact c_159 hT e0 k1
  · obtain ⟨σ2, a1, a2, a3⟩ := c1 (by omega)
    exact ⟨σ2, l, a1, a2, hF.tr a3, hl, by omega⟩
/-- a node whose own type counts -/
theorem c_own (hT : 500000 ≤ T) (hy : V.2.1 ≤ y) (hA : ∀ i, i < 6 → V.2.1 ≤ A i) (hv : vK V σ0) (hm : V.1 m = some (.inr (7, fs))) (h0 : fs[0]? = some (.int kd)) (hkd : kd = 212 ∨ kd = 206 ∨ kd = 207 ∨ kd = 214) {u : Nat} (hX : eXw σ0 g ρ tE m u) (hl : lQ l q) (h : yTf y A mo g ρ (nI l) q.2 σ) (hF : yF y A σ0 σ) : ∃ σ1, oF κ T (n + 3) 161 [va_rf (some y), va_rf (some m)] σ = oj_X10_countTemplates_97 T (oF κ T (n + 2)) κ (some y) (some m) σ1 ∧ lR (l + min 61 (yLv (tE u))) q (fVo (tE u) pl q) pl ∧ yTf y A mo g ρ (nI (l + min 61 (yLv (tE u)))) q.2 σ1 ∧ yF y A σ0 σ1 := by
  have rd : ∀ σ k, yF y A σ0 σ → k ≠ 8 → ofd σ (some m) 7 k = fs[k]? := fun σ k hF hk => (hv.yF hy hA hF).nd hm hk
  obtain ⟨c, x1, x2, x3⟩ := hX
  have hlt := hv.lt hm
  have e8 : ofd σ (some m) 7 8 = some (.int (nI c)) := (ofd_cg (hF.1 m (by omega) (fun i hi => by have := hA i hi; omega))).trans x1
  have e0 := (rd σ 0 hF (by decide)).trans h0
  obtain ⟨s7, σ1, a1, a2, a3, a4⟩ := c_ad (κ := κ) (n := n) hT h x2
  rw [x3] at a1 a2 a3
  refine ⟨σ1, ?_, hl.r.v _, a3, hF.tr a4⟩
  have go : oj_X10_countTemplates_80 T (oF κ T (n + 2)) κ (some y) (some m) σ = oj_X10_countTemplates_97 T (oF κ T (n + 2)) κ (some y) (some m) σ1 := by
    unfold oj_X10_countTemplates_80
    rw [h.f7.1, ovi_in, obn_at, e8, ovi_in, obn_at, h.f7.2.2, obn_at, a1, oin_at, a2, obn_at]
  rw [show n + 3 = (n + 2) + 1 from rfl, oE_X10_countTemplates]
  unfold ob_X10_countTemplates oj_X10_countTemplates_30
  rw [e0, ovi_in, obn_at]
  rcases hkd with rfl | rfl | rfl | rfl
  · rw [if_neg (by decide), obn_at, if_pos rfl, go]
  · rw [if_neg (by decide), obn_at, if_neg (by decide), obn_at, if_neg (by decide), obn_at, if_pos rfl, go]
  · rw [if_neg (by decide), obn_at, if_neg (by decide), obn_at, if_neg (by decide), obn_at, if_neg (by decide), obn_at, if_pos rfl, go]
  · rw [if_neg (by decide), obn_at, if_neg (by decide), obn_at, if_neg (by decide), obn_at, if_neg (by decide), obn_at, if_neg (by decide), obn_at, if_pos rfl, go]
end CCT
