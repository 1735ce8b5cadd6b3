/-! countTemplates() of the class: all -/
/-- the loop through ARGS -/
def cAw (κ : oKv) (T y mo : Nat) (A : Nat → Nat) (g : gG) (ρ : Nat → tY) (σ0 : oSt) (n m k fu : Nat) (fa : Nat × Int32 → Nat × Int32) (i j : Nat) : Prop := ∀ σ q l, lQ l q → l ≤ 122 * i → yTf y A mo g ρ (nI l) q.2 σ → yF y A σ0 σ → ∃ σ' l', ol_X10_countTemplates_161 T (oF κ T n) κ fu (some y) (some m) (nI k) σ = some (none, σ') ∧ yTf y A mo g ρ (nI l') (fa q).2 σ' ∧ yF y A σ0 σ' ∧ lQ l' (fa q) ∧ l' ≤ 122 * j
/-- what stands fast -/
def cHw (κ : oKv) (T mo y cnt : Nat) (A : Nat → Nat) (V : oSt) (nm : Nat → Option Nat) (pp : Nat → Int32) (L : List Nat) (g : gG) (ρ tN : Nat → tY) (σ0 : oSt) : Prop := 500000 ≤ T ∧ wH κ T mo y cnt A V nm pp L ∧ vK V σ0 ∧ ∀ u, u ∈ L → nK V nm g ρ tN σ0 u
def cCw (κ : oKv) (T T0 mo y cnt : Nat) (A B : Nat → Nat) (D : cDt) (V : oSt) (nm : Nat → Option Nat) (kk pp ee f : Nat → Int32) (L : List Nat) (g : gG) (ρ tE tN : Nat → tY) (σ0 : oSt) (t : tT) : Prop := ∀ env fk lo m i j n, cTX κ T0 kk pp ee f B D (eXw σ0 g ρ tE) lo V nm t env fk (fun _ => none) 0 m → tWf kk cnt t 0 → tGd kk cnt t → tRg t i j → j ≤ 2000 → (∀ u, u ∈ tW t → u ∈ L) → tH t + 5 ≤ n → cKw κ T y mo A g ρ σ0 n m (tOv pp tE tN t) i j
def cCa (κ : oKv) (T T0 mo y cnt : Nat) (A B : Nat → Nat) (D : cDt) (V : oSt) (nm : Nat → Option Nat) (kk pp ee f : Nat → Int32) (L : List Nat) (g : gG) (ρ tE tN : Nat → tY) (σ0 : oSt) (t : tT) : Prop := ∀ env fk lo gq k u m pa dd cap mc fs i j n fu, V.1 m = some (.inr (7, fs)) → fs[0]? = some (.int 401) → fs[18]? = some (.ref pa) → cLs κ V pa dd cap u mc gq 7 → u ≤ 2000 → cTX κ T0 kk pp ee f B D (eXw σ0 g ρ tE) lo V nm t env fk gq k u → tWf kk cnt t 2 → tGd kk cnt t → tRg t i j → j ≤ 2000 → (∀ u, u ∈ tW t → u ∈ L) → tH t + 5 ≤ n → tQn t < fu → cAw κ T y mo A g ρ σ0 n m k fu (tOv pp tE tN t) i j
section CCW
variable {κ : oKv} {T T0 mo y cnt : Nat} {A B : Nat → Nat} {D : cDt} {V σ0 : oSt} {nm : Nat → Option Nat} {kk pp ee f : Nat → Int32} {L : List Nat} {g : gG} {ρ tE tN : Nat → tY}
theorem c_own2 {σ : oSt} {m n u w wn : Nat} {fs : List Value} {l : Nat} {q : Nat × Int32} {pl : Int32} (H : cHw κ T mo y cnt A V nm pp L g ρ tN σ0) (hm : V.1 m = some (.inr (7, fs))) (h0 : fs[0]? = some (.int 219)) (h10 : fs[10]? = some (.ref wn)) (hw : nm w = some wn) (hwL : w ∈ L) (hX : eXw σ0 g ρ tE m u) (hl : lQ l q) (h : yTf y A mo g ρ (nI l) q.2 σ) (hF : yF y A σ0 σ) : ∃ σ1, oF κ T (n + 3) 161 [va_rf (some y), va_rf (some m)] σ = oj_X10_countTemplates_97 T (oF κ T (n + 2)) κ (some y) (some m) σ1 ∧ lR (l + min 61 (yLv (tN w)) + min 61 (yLv (tE u))) q (fVo (tN w) pl (fVo (tE u) pl q)) pl ∧ yTf y A mo g ρ (nI (l + min 61 (yLv (tN w)) + min 61 (yLv (tE u)))) q.2 σ1 ∧ yF y A σ0 σ1 := by
  obtain ⟨hT, hH, hv, hN⟩ := H
  have hy := hH.1.2.1
  have hA := hH.1.2.2.1
  have rd : ∀ σ k, yF y A σ0 σ → k ≠ 8 → ofd σ (some m) 7 k = fs[k]? := fun σ k hF hk => (hv.yF hy hA hF).nd hm hk
  have low : ∀ σ a, yF y A σ0 σ → a < V.2.1 → σ.1 a = σ0.1 a := fun σ a hF ha => hF.1 a (by omega) (fun i hi => by have := hA i hi; omega)
  obtain ⟨c, x1, x2, x3⟩ := hX
  have hlt := hv.lt hm
  obtain ⟨b, fs', c', gs, n1, n2, n3, n4, n5, n6, n7⟩ := hN w hwL
  rw [hw] at n1
  injection n1 with n1
  subst n1
  have f2 : ofd σ (some wn) 6 2 = some (.int (nI c')) := by
    rw [ofd_cg (low σ wn hF (hv.lt n2)), ofd_at n3]
    exact n5
  have e0 := (rd σ 0 hF (by decide)).trans h0
  have e10 := (rd σ 10 hF (by decide)).trans h10
  obtain ⟨s7, σ1, a1, a2, a3, a4⟩ := c_ad (κ := κ) (n := n) hT h n6
  rw [n7] at a1 a2 a3
  have hF1 := hF.tr a4
  obtain ⟨s8, σ2, b1, b2, b3, b4⟩ := c_ad (κ := κ) (n := n) hT a3 x2
  rw [x3] at b1 b2 b3
  have e0' := (rd σ1 0 hF1 (by decide)).trans h0
  have e8 : ofd σ1 (some m) 7 8 = some (.int (nI c)) := (ofd_cg (low σ1 m hF1 hlt)).trans x1
  refine ⟨σ2, ?_, ?_, b3, hF1.tr b4⟩
  · rw [show n + 3 = (n + 2) + 1 from rfl, oE_X10_countTemplates]
    unfold ob_X10_countTemplates
    rw [e0, ovi_in, obn_at, if_pos rfl, h.f7.1, ovi_in, obn_at, e10, ovr_rf, obn_at, f2, ovi_in, obn_at, h.f7.2.2, obn_at, a1, oin_at, a2, obn_at]
    unfold oj_X10_countTemplates_30
    rw [e0', ovi_in, obn_at, if_neg (by decide), obn_at, if_pos rfl]
    unfold oj_X10_countTemplates_80
    rw [a3.f7.1, ovi_in, obn_at, e8, ovi_in, obn_at, a3.f7.2.2, obn_at, b1, oin_at, b2, obn_at]
  · have := ((hl.r (pl := pl)).v (tE u)).v (tN w)
    rw [show l + min 61 (yLv (tN w)) + min 61 (yLv (tE u)) = l + min 61 (yLv (tE u)) + min 61 (yLv (tN w)) by omega]
    exact this
/-- a node without a type of its own that counts -/
theorem c_own0 {σ : oSt} {m n : Nat} {fs : List Value} {kd : Int32} (H : cHw κ T mo y cnt A V nm pp L g ρ tN σ0) (hm : V.1 m = some (.inr (7, fs))) (h0 : fs[0]? = some (.int kd)) (hkd : kd ≠ 219 ∧ kd ≠ 212 ∧ kd ≠ 206 ∧ kd ≠ 207 ∧ kd ≠ 214) (hF : yF y A σ0 σ) : oF κ T (n + 1) 161 [va_rf (some y), va_rf (some m)] σ = oj_X10_countTemplates_97 T (oF κ T n) κ (some y) (some m) σ := by
  obtain ⟨hT, hH, hv, hN⟩ := H
  obtain ⟨k2, k3, k4, k5, k6⟩ := hkd
  have e0 := ((hv.yF hH.1.2.1 hH.1.2.2.1 hF).nd hm (k := 0) (by decide)).trans h0
  rw [oE_X10_countTemplates]
  unfold ob_X10_countTemplates oj_X10_countTemplates_30
  simp only [e0, ovi_in, obn_at, k2, k3, k4, k5, k6, if_false]
theorem ca_0 (H : cHw κ T mo y cnt A V nm pp L g ρ tN σ0) : cCa κ T T0 mo y cnt A B D V nm kk pp ee f L g ρ tE tN σ0 .leaf := fun env fk lo gq k u m pa dd cap mc fs i j n fu hm h0 h18 hls hu hX wf hg hr hj hW hn hf σ q l hl hb h hF => by
  obtain ⟨hT, hH, hv, hN⟩ := H
  obtain ⟨fu, rfl⟩ : ∃ f', fu = f' + 1 := ⟨fu - 1, by omega⟩
  obtain ⟨n, rfl⟩ : ∃ n', n = n' + 1 := ⟨n - 1, by omega⟩
  have hk : k = u := hX
  have hr : i ≤ j := hr
  have K := hv.yF hH.1.2.1 hH.1.2.2.1 hF
  have ls := K.ls hH.1.2.2.2.1 hls
  refine ⟨σ, l, ?_, h, hF, hl, by omega⟩
  rw [ol_X10_countTemplates_161, K.nd hm (by decide), h0, ovi_in, obn_at, if_pos rfl, K.nd hm (by decide), h18, ovr_rf, obn_at, oob_at ls.1, obn_at, l_sz (n := n) ls, oin_at, if_pos (nI_le (by omega) (by omega))]
theorem cTX_qn : ∀ (t : tT) (env : List Nat) (fk lo : Nat) (gq : Nat → Option Nat) (k u : Nat), tWf kk cnt t 2 → cTX κ T0 kk pp ee f B D (eXw σ0 g ρ tE) lo V nm t env fk gq k u → u = k + tQn t
  | .leaf, _, _, _, _, k, u, _, h => by
    have h : k = u := h
    show u = k + 0
    omega
  | .inner tg d _ a b, env, fk, lo, gq, k, u, wf, h => by
    rcases wf with ⟨c, _⟩ | ⟨_, _, wb, hg⟩ | ⟨c, _⟩
    · cases c
    · have fin : ∀ fk, cTX κ T0 kk pp ee f B D (eXw σ0 g ρ tE) lo V nm b env fk gq (k + 1) u → u = k + (tQn b + 1) := fun fk hb => by
        have := cTX_qn b env fk lo gq (k + 1) u wb hb
        omega
      rcases hg with ⟨rfl, _⟩ | ⟨rfl, _⟩ | ⟨rfl, _⟩
      · obtain ⟨x, su, h1, h2, h3⟩ := h
        exact fin _ h3
      · obtain ⟨x, fs, h1, h2, h3, h4⟩ := h
        exact fin _ h4
      · obtain ⟨x, h1, h2, h3⟩ := h
        exact fin _ h3
    · cases c
/-- one ARG and the rest -/
theorem ca_1 {m n k u pa dd cap x i j i' fu : Nat} {mc : Int32} {fs : List Value} {gq : Nat → Option Nat} {fa fb : Nat × Int32 → Nat × Int32} (H : cHw κ T mo y cnt A V nm pp L g ρ tN σ0) (hm : V.1 m = some (.inr (7, fs))) (h0 : fs[0]? = some (.int 401)) (h18 : fs[18]? = some (.ref pa)) (hls : cLs κ V pa dd cap u mc gq 7) (hu : u ≤ 2000) (hk : k < u) (hx : gq k = some x) (Ka : cKw κ T y mo A g ρ σ0 (n + 3) x fa i i') (Kb : cAw κ T y mo A g ρ σ0 (n + 3) m (k + 1) fu fb i' j) : cAw κ T y mo A g ρ σ0 (n + 3) m k (fu + 1) (fun q => fb (fa q)) i j := fun σ q l hl hb h hF => by
  obtain ⟨hT, hH, hv, hN⟩ := H
  have K := hv.yF hH.1.2.1 hH.1.2.2.1 hF
  have ls := K.ls hH.1.2.2.2.1 hls
  obtain ⟨b, fs', g1, g2⟩ := hls.2.2 k hk
  rw [hx] at g1
  injection g1 with g1
  subst g1
  obtain ⟨fs2, g3⟩ := K.oc g2
  have oc : ocs σ (some x) 7 = true := by simp only [ocs, g3]; rfl
  have lg : oF κ T (n + 3) 234 [va_rf (some pa), .int (nI k)] σ = some (some (va_rf (some x)), σ) := by rw [← hx]; exact l_get (ls.o (by omega)) (by omega)
  obtain ⟨σ2, l2, a1, a2, a3, a4, a5⟩ := Ka σ q l hl hb h hF
  obtain ⟨σ3, l3, b1, b2, b3, b4, b5⟩ := Kb σ2 _ l2 a4 a5 a2 a3
  refine ⟨σ3, l3, ?_, b2, b3, b4, b5⟩
  rw [ol_X10_countTemplates_161, K.nd hm (by decide), h0, ovi_in, obn_at, if_pos rfl, K.nd hm (by decide), h18, ovr_rf, obn_at, oob_at ls.1, obn_at, l_sz (n := n + 2) ls, oin_at, if_neg (nI_ge (by omega) (by omega)), K.nd hm (by decide), h18, ovr_rf, obn_at, oob_at ls.1, obn_at, lg, orn_at, ogd_at oc, h.f7.2.2, obn_at, a1, ocv_at, nI_p1]
  exact b1
end CCW
