/-! the class's typer: NAMES, sums, conditions -/
/-- the NAME told at u has its type -/
def nY (V : oSt) (nm : Nat → Option Nat) (σ : oSt) (g : gG) (T : Nat → mF) (s : mS) (u : Nat) : Prop := ∃ b fs v, nm u = some b ∧ V.1 b = some (.inr (6, fs)) ∧ ofd σ (some b) 6 2 = some (.int v) ∧ (mSat s.1 → ∃ c, v = nI c ∧ gY g T s c (s.2.2.1 u))
def cXE (V : oSt) (y : Nat) (A : Nat → Nat) (mo : Nat) (nm : Nat → Option Nat) (env : List Nat) (σ : oSt) (s : mS) (g : gG) (T : Nat → mF) : Prop := cX V y A mo σ s g T ∧ ∀ u, u ∈ env → nY V nm σ g T s u
section CSU
variable {κ : oKv} {Tt n mo y : Nat} {A : Nat → Nat} {V σ σ' : oSt} {s s' : mS} {g g' : gG} {T T' : Nat → mF} {nm : Nat → Option Nat} {env W : List Nat} {f pp ee : Nat → Int32}
theorem mLe.sat (h : mLe W s s') (hs : mSat s'.1) : mSat s.1 := by
  obtain ⟨⟨l, e⟩, -⟩ := h
  rw [e] at hs
  exact hs.pre
theorem nY.up {u : Nat} (h : nY V nm σ g T s u) (hσ : ∀ b, nm u = some b → ofd σ' (some b) 6 2 = ofd σ (some b) 6 2) (e : xE g T g' T') (hs : mLe W s s') (hu : u ∉ W) : nY V nm σ' g' T' s' u := by
  obtain ⟨b, fs, v, h1, h2, h3, h4⟩ := h
  refine ⟨b, fs, v, h1, h2, (hσ b h1).trans h3, fun z => ?_⟩
  obtain ⟨c, q1, q2⟩ := h4 (hs.sat z)
  exact ⟨c, q1, by rw [hs.2.2 u hu]; exact q2.up e hs⟩
/-- below V nothing changes -/
theorem yF.lo (hy : V.2.1 ≤ y) (hA : ∀ i, i < 6 → V.2.1 ≤ A i) (h : yF y A σ σ') {a : Nat} (ha : a < V.2.1) : σ'.1 a = σ.1 a := h.1 a (by omega) (fun i hi => by have := hA i hi; omega)
theorem ofd_cg {a ci k : Nat} (h : σ'.1 a = σ.1 a) : ofd σ' (some a) ci k = ofd σ (some a) ci k := by
  simp only [ofd, h]
theorem nY.yF {u : Nat} (hy : V.2.1 ≤ y) (hA : ∀ i, i < 6 → V.2.1 ≤ A i) (hv : vR V σ) (h : nY V nm σ g T s u) (e0 : yF y A σ σ') (e : xE g T g' T') (hs : mLe [] s s') : nY V nm σ' g' T' s' u := by
  have h' := h
  obtain ⟨b, fs, v, h1, h2, h3, h4⟩ := h'
  exact h.up (fun b' e' => ofd_cg (e0.lo hy hA (by rw [h1] at e'; injection e' with e'; rw [← e']; exact hv.lt h2))) e hs (fun z => by cases z)
/-- the NAME that a word means -/
theorem c_nm (hE : ∀ u, u ∈ env → nY V nm σ g T s u) {w : Nat} (hw : usW (cFd f pp ee) w env = []) : ∃ b fs v, nR f pp ee nm env w = some b ∧ V.1 b = some (.inr (6, fs)) ∧ ofd σ (some b) 6 2 = some (.int v) ∧ (mSat s.1 → ∃ c, v = nI c ∧ gY g T s c (mNm f pp ee env w s)) := by
  have e1 : cFd f pp ee env w = true := by
    unfold usW at hw
    split at hw
    · assumption
    · cases hw
  obtain ⟨u, eu⟩ := Option.isSome_iff_exists.mp e1
  obtain ⟨k, -, ek⟩ := nFind_mem eu
  obtain ⟨b, fs, v, h1, h2, h3, h4⟩ := hE u (List.mem_of_getElem? ek)
  refine ⟨b, fs, v, by unfold nR; rw [eu]; exact h1, h2, h3, ?_⟩
  unfold mNm
  rw [eu]
  exact h4
theorem cXE.cg (h : cXE V y A mo nm env σ s g T) {s' : mS} (e1 : s'.1 = s.1) (e2 : s.2.1 ≤ s'.2.1) (e3 : s'.2.2.1 = s.2.2.1) : cXE V y A mo nm env σ s' g T := by
  refine ⟨h.1.cg e1 e2, fun u hu => ?_⟩
  obtain ⟨b, fs, v, h1, h2, h3, h4⟩ := h.2 u hu
  refine ⟨b, fs, v, h1, h2, h3, fun z => ?_⟩
  obtain ⟨c, q1, q2, q3⟩ := h4 (by rw [← e1]; exact z)
  exact ⟨c, q1, q2, fun α hα => by rw [e3]; exact q3 α (by rw [← e1]; exact hα)⟩
/-- must() -/
theorem cXE.must (hT : 25000 ≤ Tt) (hy : V.2.1 ≤ y) (hA : ∀ i, i < 6 → V.2.1 ≤ A i) (h : cXE V y A mo nm env σ s g T) {v1 v2 pl : Int32} {t1 t2 : mF} (hp : 0 ≤ pl) (h1 : mSat s.1 → ∃ c1, v1 = nI c1 ∧ gY g T s c1 t1) (h2 : mSat s.1 → ∃ c2, v2 = nI c2 ∧ gY g T s c2 t2) : ∃ σ' g', oF κ Tt (n + 3) 152 [va_rf (some y), .int v1, .int v2, .int pl] σ = some (none, σ') ∧ cXE V y A mo nm env σ' (mMu t1 t2 pl s) g' T ∧ yF y A σ σ' ∧ g'.n = g.n := by
  obtain ⟨σ', g', a1, a2, a3, a4⟩ := h.1.must (κ := κ) (n := n) hT hy hA hp h1 h2
  exact ⟨σ', g', a1, ⟨a2, fun u hu => (h.2 u hu).yF hy hA h.1.1 a3 ⟨by omega, fun _ _ => rfl⟩ (mLe.mu _ _ _ _)⟩, a3, a4⟩
theorem mPs_Nm (ps : List tP) (s : mS) : mPs f pp ee env (sNm ps) s = mPs f pp ee env ps s := by
  induction ps generalizing s with
  | nil => rfl
  | cons p ps IH =>
    unfold sNm
    by_cases c : 0 < p.1
    · rw [List.filter_cons_of_pos (by simpa using c)]
      show mPs f pp ee env (sNm ps) (mPt f pp ee env p s) = mPs f pp ee env ps (mPt f pp ee env p s)
      exact IH _
    · rw [List.filter_cons_of_neg (by simpa using c)]
      show mPs f pp ee env (sNm ps) s = mPs f pp ee env ps (mPt f pp ee env p s)
      have e : mPt f pp ee env p s = s := by unfold mPt; rw [if_pos (by omega)]
      rw [e]
      exact IH _
/-- checkSum's loop -/
theorem c_ckL {e pa d pc cd : Nat} {mc : Int32} {gg : Nat → Option Nat} {L : List Value} {ps : List tP} (hT : 25000 ≤ Tt) (hy : V.2.1 ≤ y) (hA : ∀ i, i < 6 → V.2.1 ≤ A i) (hκ : κ.2.2.1 < V.2.1) (hpp : ∀ w, 0 ≤ pp w) (he : V.1 e = some (.inr (7, L))) (hL : L[18]? = some (.ref pa)) (hls : cLs κ V pa d pc ps.length mc gg 7) (hel : ∀ k p, ps[k]? = some p → p.1 ≠ 0 ∧ ∃ a, gg k = some a ∧ V.1 a = some (.inr (7, cPf pp (nR f pp ee nm env) cd p))) (hln : ps.length ≤ 2000) (hw : ∀ p ∈ ps, usW (cFd f pp ee) p.2.2 env = []) : ∀ (qs : List tP) (k t : Nat) (σ : oSt) (s : mS) (g : gG), ps.drop k = qs → k + qs.length = ps.length → qs.length < t → cXE V y A mo nm env σ s g T → ∃ σ' g', ol_X10_checkSum_2 Tt (oF κ Tt (n + 3)) κ t (some y) (some e) (nI k) σ = some (none, σ') ∧ cXE V y A mo nm env σ' (mPs f pp ee env qs s) g' T ∧ yF y A σ σ' ∧ g'.n = g.n
  | [], k, t, σ, s, g, hd, hk, ht, h => by
    obtain ⟨t, rfl⟩ : ∃ t', t = t' + 1 := ⟨t - 1, by omega⟩
    have hk : k = ps.length := hk
    rw [ol_X10_checkSum_2, h.1.1.nd he (by decide), hL, ovr_rf, obn_at]
    have ls := h.1.1.ls hκ hls
    rw [oob_at ls.1, obn_at, l_sz (n := n + 2) ls, oin_at, if_pos (nI_le (by omega) (by omega))]
    exact ⟨σ, g, rfl, h, yF.rf y A σ, rfl⟩
  | p :: qs, k, t, σ, s, g, hd, hk, ht, h => by
    rw [List.length_cons] at hk ht
    obtain ⟨t, rfl⟩ : ∃ t', t = t' + 1 := ⟨t - 1, by omega⟩
    have hp : ps[k]? = some p := by
      have : (ps.drop k)[0]? = some p := by rw [hd]; rfl
      rw [List.getElem?_drop] at this
      exact this
    have hd' : ps.drop (k + 1) = qs := by rw [← List.drop_drop, hd]; rfl
    have ls := h.1.1.ls hκ hls
    obtain ⟨p0, a, ga, ea⟩ := hel k p hp
    have lg : oF κ Tt (n + 3) 234 [va_rf (some pa), .int (nI k)] σ = some (some (va_rf (some a)), σ) := by rw [← ga]; exact l_get (ls.o (by omega)) (by omega)
    obtain ⟨fs', ea'⟩ := h.1.1.oc ea
    have oc : ocs σ (some a) 7 = true := by simp only [ocs, ea']; rfl
    obtain ⟨b, fb, v, n1, n2, n3, n4⟩ := c_nm h.2 (hw p (List.mem_of_getElem? hp))
    have e9 : ofd σ (some a) 7 9 = some (va_rf (nR f pp ee nm env p.2.2)) := h.1.1.nd ea (by decide)
    have e0 : ofd σ (some a) 7 0 = some (.int (sCd p.1)) := h.1.1.nd ea (by decide)
    have e1 : ofd σ (some a) 7 1 = some (.int (pp p.2.2)) := h.1.1.nd ea (by decide)
    have bk : (if sCd p.1 = 202 then (1 : Int32) else if sCd p.1 = 200 then 2 else if sCd p.1 = 213 then 3 else 0) = nI (mPk p.1) := by
      unfold sCd mPk
      by_cases c2 : p.1 = 2
      · rw [if_pos c2, if_pos c2]; rfl
      · rw [if_neg c2, if_neg c2]
        by_cases c3 : p.1 = 3
        · rw [if_pos c3, if_pos c3]; rfl
        · rw [if_neg c3, if_neg c3]; rfl
    have yt : oob σ (some y) 12 = some y := by
      rcases h.1.2 with ⟨-, F, q, -⟩ | ⟨pl, c, F, -, -, -, q⟩
      · exact q.ob
      · exact q.ob
    obtain ⟨σ1, g1, m1, m2, m3, m4⟩ := h.must (κ := κ) (n := n) (v1 := v) (v2 := nI (mPk p.1)) hT hy hA (hpp p.2.2) n4 (fun z => ⟨mPk p.1, rfl, h.1.bas z (by unfold mPk; split; omega; split <;> omega)⟩)
    obtain ⟨σ2, g2, i1, i2, i3, i4⟩ := c_ckL hT hy hA hκ hpp he hL hls hel hln hw qs (k + 1) t σ1 _ g1 hd' (by omega) (by omega) m2
    refine ⟨σ2, g2, ?_, ?_, m3.tr i3, by omega⟩
    · have e18 : ofd σ (some e) 7 18 = some (.ref pa) := (h.1.1.nd he (by decide)).trans hL
      rw [ol_X10_checkSum_2, e18, ovr_rf, obn_at, oob_at ls.1, obn_at, l_sz (n := n + 2) ls, oin_at, if_neg (nI_ge (by omega) (by omega)), e18, ovr_rf, obn_at, oob_at ls.1, obn_at, lg, orn_at, ogd_at oc, e9, ovr_va, obn_at, n1, n3, ovi_in, obn_at, e0, ovi_in, obn_at, c_basic (n := n + 2), oin_at, bk, e1, ovi_in, obn_at, yt, obn_at, m1, ocv_at, nI_p1]
      exact i1
    · show cXE V y A mo nm env σ2 (mPs f pp ee env qs (mPt f pp ee env p s)) g2 T
      have : mPt f pp ee env p s = mMu (mNm f pp ee env p.2.2 s) (mB (mPk p.1)) (pp p.2.2) s := by unfold mPt; rw [if_neg p0]
      rw [this]
      exact i2
/-- checkSum(S) -/
theorem c_ck {e pa d pc cd : Nat} {mc : Int32} {gg : Nat → Option Nat} {L : List Value} {ps : List tP} (hT : 25000 ≤ Tt) (hy : V.2.1 ≤ y) (hA : ∀ i, i < 6 → V.2.1 ≤ A i) (hκ : κ.2.2.1 < V.2.1) (hpp : ∀ w, 0 ≤ pp w) (he : V.1 e = some (.inr (7, L))) (hL : L[18]? = some (.ref pa)) (hls : cLs κ V pa d pc (sNm ps).length mc gg 7) (hel : ∀ k p, (sNm ps)[k]? = some p → ∃ a, gg k = some a ∧ V.1 a = some (.inr (7, cPf pp (nR f pp ee nm env) cd p))) (hln : (sNm ps).length ≤ 2000) (hw : plW (cFd f pp ee) env (sEv ps) = []) (h : cXE V y A mo nm env σ s g T) : ∃ σ' g', oF κ Tt (n + 4) 153 [va_rf (some y), va_rf (some e)] σ = some (none, σ') ∧ cXE V y A mo nm env σ' (mPs f pp ee env ps s) g' T ∧ yF y A σ σ' ∧ g'.n = g.n := by
  rw [oE_X10_checkSum]
  unfold ob_X10_checkSum
  have hw' : ∀ p ∈ sNm ps, usW (cFd f pp ee) p.2.2 env = [] := fun p hp => by
    unfold plW at hw
    rw [List.flatMap_eq_nil_iff] at hw
    exact hw _ (List.mem_map.mpr ⟨p, hp, rfl⟩)
  have hpos : ∀ p ∈ sNm ps, p.1 ≠ 0 := fun p hp => by
    have := (List.mem_filter.mp hp).2
    have := of_decide_eq_true this
    omega
  obtain ⟨σ', g', a1, a2, a3, a4⟩ := c_ckL (n := n) hT hy hA hκ hpp he hL hls (fun k p hp => ⟨hpos p (List.mem_of_getElem? hp), hel k p hp⟩) hln hw' (sNm ps) 0 Tt σ s g rfl (Nat.zero_add _) (by omega) h
  rw [mPs_Nm] at a2
  exact ⟨σ', g', a1, a2, a3, a4⟩
end CSU
