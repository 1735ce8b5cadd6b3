/-! the class's infer: let rec -/
section CIR
variable {κ : oKv} {Tt T0 mo y cnt : Nat} {A B : Nat → Nat} {D : cDt} {V σ σ1 : oSt} {nm : Nat → Option Nat} {env U W : List Nat} {kk f pp ee : Nat → Int32} {s s1 : mS} {g g1 : gG} {T T1 : Nat → mF} {n m lo fk i j : Nat}
variable {d : Nat × Nat × Nat × tS × tS} {z : Unit} {a b : tT}
/-- parameters, each with a free type -/
def mPb : Nat → Nat → mS → mS
  | 0, _, s => s
  | q + 1, w, s => mPb q (w + 1) (mNt w (mV s.2.1) (mFr 1 s))
theorem mPa_fr : ∀ (q w v k : Nat) (s : mS), mPa q w v (mFr k s) = mFr k (mPa q w v s)
  | 0, _, _, _, _ => rfl
  | q + 1, w, v, k, s => by
    show mPa q (w + 1) (v + 1) (mNt w (mV v) (mFr k s)) = mFr k (mPa q (w + 1) (v + 1) (mNt w (mV v) s))
    exact mPa_fr q (w + 1) (v + 1) k (mNt w (mV v) s)
theorem mPa_nv : ∀ (q w v : Nat) (s : mS), (mPa q w v s).2.1 = s.2.1 ∧ (mPa q w v s).1 = s.1
  | 0, _, _, _ => ⟨rfl, rfl⟩
  | q + 1, w, v, s => mPa_nv q (w + 1) (v + 1) (mNt w (mV v) s)
theorem mPb_eq : ∀ (q w : Nat) (s : mS), mPb q w s = mFr q (mPa q w s.2.1 s)
  | 0, w, s => rfl
  | q + 1, w, s => by
    have h := mPb_eq q (w + 1) (mNt w (mV s.2.1) (mFr 1 s))
    have e : mNt w (mV s.2.1) (mFr 1 s) = mFr 1 (mNt w (mV s.2.1) s) := rfl
    have h2 : mPb q (w + 1) (mNt w (mV s.2.1) (mFr 1 s)) = mFr q (mFr 1 (mPa q (w + 1) (s.2.1 + 1) (mNt w (mV s.2.1) s))) := by
      rw [h, e, mPa_fr]
      rfl
    show mPb q (w + 1) (mNt w (mV s.2.1) (mFr 1 s)) = mFr (q + 1) (mPa q (w + 1) (s.2.1 + 1) (mNt w (mV s.2.1) s))
    rw [h2]
    unfold mFr
    rw [show (mPa q (w + 1) (s.2.1 + 1) (mNt w (mV s.2.1) s)).2.1 + 1 + q = (mPa q (w + 1) (s.2.1 + 1) (mNt w (mV s.2.1) s)).2.1 + (q + 1) by omega]
theorem mPa_at : ∀ (q w v : Nat) (s : mS) (k : Nat), k < q → (mPa q w v s).2.2.1 (w + k) = mV (v + k)
  | 0, _, _, _, _, h => by omega
  | q + 1, w, v, s, 0, _ => by
    show (mPa q (w + 1) (v + 1) (mNt w (mV v) s)).2.2.1 w = mV v
    rw [(mLe.pa q (w + 1) (v + 1) (mNt w (mV v) s)).2.2 w (fun z => by rw [List.mem_range'_1] at z; omega)]
    exact mUp_at _ _ _
  | q + 1, w, v, s, k + 1, h => by
    have := mPa_at q (w + 1) (v + 1) (mNt w (mV v) s) k (by omega)
    rw [show w + (k + 1) = w + 1 + k by omega, show v + (k + 1) = v + 1 + k by omega]
    exact this
theorem mFu_s : ∀ (k v : Nat) (t : mF), mFu (k + 1) v t = mFu k v (mA (mV (v + k)) t)
  | 0, _, _ => rfl
  | k + 1, v, t => by
    show mA (mV v) (mFu (k + 1) (v + 1) t) = mA (mV v) (mFu k (v + 1) (mA (mV (v + (k + 1))) t))
    rw [mFu_s k (v + 1) t, show v + 1 + k = v + (k + 1) by omega]
/-- a NAME that has its type counts -/
theorem cXE.told (h : cXE V y A mo nm env σ s g T) {w b : Nat} {fs : List Value} {v : Int32} {ty : mF} (hb : nm w = some b) (e : V.1 b = some (.inr (6, fs))) (ho : ofd σ (some b) 6 2 = some (.int v)) (hv : mSat s.1 → ∃ c, v = nI c ∧ gY g T s c ty) (hw : w ∉ env) : cXE V y A mo nm (env ++ [w]) σ (mNt w ty s) g T := by
  refine ⟨h.1.cg rfl (Nat.le_refl _), fun u hu => ?_⟩
  rcases List.mem_append.mp hu with z | z
  · exact (h.2 u z).up (fun _ _ => rfl) (xE.rf g T) (mLe.nt w ty s) (fun q => hw (by rw [← List.mem_singleton.mp q]; exact z))
  · rw [List.mem_singleton.mp z]
    refine ⟨b, fs, v, hb, e, ho, fun q => ?_⟩
    obtain ⟨c, c1, c2⟩ := hv q
    exact ⟨c, c1, c2.1, fun α hα => by show T c α = mUp s.2.2.1 w ty w α; rw [mUp_at]; exact c2.2 α hα⟩
/-- the names of parameters get free types -/
theorem c_recL (hH : wH κ Tt mo y cnt A V nm pp U) {q0 d0 cap w q : Nat} {mc : Int32} {gg : Nat → Option Nat} {fs : List Value} (e1 : V.1 m = some (.inr (7, fs))) (e11 : fs[11]? = some (.ref q0)) (l1 : cLs κ V q0 d0 cap q mc gg 6) (l2 : ∀ x, x < q → ∃ b fb, gg x = some b ∧ nm (w + x) = some b ∧ V.1 b = some (.inr (6, fb)) ∧ 2 < fb.length) (hq : q ≤ 4) (hwU : ∀ x, x < q → w + x ∈ U) {X : oSt → oRs} (hX : ∀ t σ s g T env, cXE V y A mo nm env σ s g T → ol_X10_inferRec_2 Tt (oF κ Tt (n + 3)) κ (t + 1) (some y) (some m) (nI q) σ = X σ) : ∀ (r k t : Nat) (env : List Nat) (σ : oSt) (s : mS) (g : gG) (T : Nat → mF), k + r = q → r < t → cXE V y A mo nm env σ s g T → mSat s.1 → (∀ u, u ∈ env → u ∈ U) → (∀ x, k ≤ x → x < q → w + x ∉ env) → g.n + r ≤ mo → ∃ σ' g' T', ol_X10_inferRec_2 Tt (oF κ Tt (n + 3)) κ t (some y) (some m) (nI k) σ = X σ' ∧ cXE V y A mo nm (env ++ List.range' (w + k) r) σ' (mPb r (w + k) s) g' T' ∧ xE g T g' T' ∧ g'.n ≤ g.n + r ∧ ∀ i j, wF V nm pp σ σ' i j (List.range' (w + k) r)
  | 0, k, t, env, σ, s, g, T, hk, ht, h, hs, _, _, _ => by
    obtain ⟨t, rfl⟩ : ∃ t', t = t' + 1 := ⟨t - 1, by omega⟩
    have : k = q := hk
    subst this
    exact ⟨σ, g, T, hX t σ s g T env h, by rw [List.range'_zero, List.append_nil]; exact h, xE.rf g T, by omega, fun i j => wF.rf σ i j _⟩
  | r + 1, k, t, env, σ, s, g, T, hk, ht, h, hs, hE, hn, hM => by
    obtain ⟨t, rfl⟩ : ∃ t', t = t' + 1 := ⟨t - 1, by omega⟩
    obtain ⟨b, fb, gb, nb, eb, lb⟩ := l2 k (by omega)
    have ls := h.1.1.ls hH.1.2.2.2.1 l1
    have f11 : ofd σ (some m) 7 11 = some (.ref q0) := (h.1.1.nd e1 (by decide)).trans e11
    have lg : oF κ Tt (n + 3) 234 [va_rf (some q0), .int (nI k)] σ = some (some (va_rf (some b)), σ) := by rw [← gb]; exact l_get (ls.o (by omega)) (by omega)
    obtain ⟨fb', eb'⟩ := h.1.1.oc eb
    have oc : ocs σ (some b) 6 = true := by simp only [ocs, eb']; rfl
    obtain ⟨σ1, v1, g1, T1, a1, a2, a3, a4, a5, a6⟩ := h.1.free (κ := κ) (Tt := Tt) (n := n + 2) hH.1.2.1 hH.1.2.2.1 (by omega)
    have h1 : cXE V y A mo nm env σ1 (mFr 1 s) g1 T1 := ⟨a2, fun u hu => (h.2 u hu).yF hH.1.2.1 hH.1.2.2.1 h.1.1 a3 a4 (mLe.fr 1 s)⟩
    obtain ⟨σ2, t1, t2, t3, -⟩ := h1.tell hH nb eb lb (fun _ => a6 hs) (hn k (Nat.le_refl _) (by omega)) (hwU k (by omega)) hE
    obtain ⟨σ3, g3, T3, i1, i2, i3, i4, i5⟩ := c_recL hH e1 e11 l1 l2 hq hwU hX r (k + 1) t (env ++ [w + k]) σ2 _ g1 T1 (by omega) (by omega) t2 hs (fun u hu => by
      rcases List.mem_append.mp hu with z | z
      · exact hE u z
      · rw [List.mem_singleton.mp z]; exact hwU k (by omega)) (fun x x1 x2 z => by
      rcases List.mem_append.mp z with z | z
      · exact hn x (by omega) x2 z
      · have := List.mem_singleton.mp z; omega) (by omega)
    refine ⟨σ3, g3, T3, ?_, ?_, a4.tr i3, by omega, fun i j => ?_⟩
    · rw [ol_X10_inferRec_2, f11, ovr_rf, obn_at, oob_at ls.1, obn_at, l_sz (n := n + 2) ls, oin_at, if_neg (nI_ge (by omega) (by omega)), f11, ovr_rf, obn_at, oob_at ls.1, obn_at, lg, orn_at, ogd_at oc, h.yo, obn_at, a1, oin_at, t1, obn_at, nI_p1]
      exact i1
    · rw [List.range'_succ, show w + k + 1 = w + (k + 1) by omega]
      rw [List.append_assoc] at i2
      exact i2
    · rw [List.range'_succ, show w + k + 1 = w + (k + 1) by omega]
      exact ((wF.yF hH.1.2.1 hH.1.2.2.1 h.1.1 a3 i j _).tr ((t3 i j).wd (Nat.le_refl _) (Nat.le_refl _) (fun u hu => by rw [List.mem_singleton.mp hu]; exact List.mem_cons_self ..))).tr ((i5 i j).wd (Nat.le_refl _) (Nat.le_refl _) (fun u hu => List.mem_cons_of_mem _ hu))
/-- the function's type out of its parameters' types -/
theorem c_recM (hH : wH κ Tt mo y cnt A V nm pp U) {q0 d0 cap w q b0 w0 v0 : Nat} {mc : Int32} {gg : Nat → Option Nat} {fs fb0 : List Value} {x2 : Int32} (e1 : V.1 m = some (.inr (7, fs))) (e11 : fs[11]? = some (.ref q0)) (e10 : fs[10]? = some (.ref b0)) (eb0 : V.1 b0 = some (.inr (6, fb0))) (lb0 : 2 < fb0.length) (nb0 : nm w0 = some b0) (wU0 : w0 ∈ U) (l1 : cLs κ V q0 d0 cap q mc gg 6) (l2 : ∀ x, x < q → ∃ b fb, gg x = some b ∧ nm (w + x) = some b ∧ V.1 b = some (.inr (6, fb)) ∧ 2 < fb.length) (hq : q ≤ 4) (hwE : ∀ x, x < q → w + x ∈ env) (hE : ∀ u, u ∈ env → u ∈ U) (hw0 : w0 ∉ env) (hnt : ∀ x, x < q → s.2.2.1 (w + x) = mV (v0 + x)) : ∀ (k t : Nat) (σ : oSt) (g : gG) (T : Nat → mF) (v : Int32) (ty : mF), k ≤ q → k < t → cXE V y A mo nm env σ s g T → ofd σ (some b0) 6 2 = some (.int v) → (mSat s.1 → ∃ c, v = nI c ∧ gY g T s c ty) → g.n + k ≤ mo → ∃ σ' g' T' v', ol_X10_inferRec_62 Tt (oF κ Tt (n + 3)) κ t (some y) (some m) x2 (nI k - 1) σ = ol_X10_inferRec_62 Tt (oF κ Tt (n + 3)) κ (t - k) (some y) (some m) x2 (-1) σ' ∧ cXE V y A mo nm env σ' s g' T' ∧ xE g T g' T' ∧ g'.n ≤ g.n + k ∧ ofd σ' (some b0) 6 2 = some (.int v') ∧ (mSat s.1 → ∃ c, v' = nI c ∧ gY g' T' s c (mFu k v0 ty)) ∧ ∀ i j, wF V nm pp σ σ' i j [w0]
  | 0, t, σ, g, T, v, ty, hk, ht, h, ho, hv, hM => ⟨σ, g, T, v, rfl, h, xE.rf g T, by omega, ho, hv, fun i j => wF.rf σ i j _⟩
  | k + 1, t, σ, g, T, v, ty, hk, ht, h, ho, hv, hM => by
    obtain ⟨t, rfl⟩ : ∃ t', t = t' + 1 := ⟨t - 1, by omega⟩
    obtain ⟨b, fb, gb, nb, eb, lb⟩ := l2 k (by omega)
    have ls := h.1.1.ls hH.1.2.2.2.1 l1
    have f11 : ofd σ (some m) 7 11 = some (.ref q0) := (h.1.1.nd e1 (by decide)).trans e11
    have f10 : ofd σ (some m) 7 10 = some (.ref b0) := (h.1.1.nd e1 (by decide)).trans e10
    have lg : oF κ Tt (n + 3) 234 [va_rf (some q0), .int (nI k)] σ = some (some (va_rf (some b)), σ) := by rw [← gb]; exact l_get (ls.o (by omega)) (by omega)
    obtain ⟨fb', eb'⟩ := h.1.1.oc eb
    have oc : ocs σ (some b) 6 = true := by simp only [ocs, eb']; rfl
    obtain ⟨b', fb2, vk, k1, k2, k3, k4⟩ := h.2 (w + k) (hwE k (by omega))
    have bb : b' = b := by rw [nb] at k1; injection k1 with k1; exact k1.symm
    subst bb
    obtain ⟨σ1, v1, g1, T1, a1, a2, a3, a4, a5, a6⟩ := h.1.fn (κ := κ) (Tt := Tt) (n := n + 1) hH.1.2.1 hH.1.2.2.1 (by omega) (v1 := vk) (v2 := v) (t1 := mV (v0 + k)) (t2 := ty) (fun z => by
      obtain ⟨c, q1, q2⟩ := k4 z
      rw [hnt k (by omega)] at q2
      exact ⟨c, q1, q2⟩) hv
    obtain ⟨σ2, p1, p2, p3, p4, p5⟩ := a2.name hH.1.2.1 hH.1.2.2.1 eb0 lb0 v1
    have h1 : cXE V y A mo nm env σ1 s g1 T1 := ⟨a2, fun u hu => (h.2 u hu).yF hH.1.2.1 hH.1.2.2.1 h.1.1 a3 a4 (mLe.rf _ _)⟩
    have h2 : cXE V y A mo nm env σ2 s g1 T1 := ⟨p2, fun u hu => (h1.2 u hu).up (fun b' e' => ofd_cg (p4 b' (fun q => hw0 (by
      have := hH.2.2.2 u (hE u hu) w0 wU0 (by rw [e', nb0, q])
      rw [← this]; exact hu)))) (xE.rf _ _) (mLe.rf [] s) (fun q => by cases q)⟩
    have w12 : ∀ i j, wF V nm pp σ1 σ2 i j [w0] := fun i j => ⟨fun a fs' e' _ => p4 a (fun q => by rw [q, eb0] at e'; cases e'), fun b' fs' e' z => p4 b' (fun q => z w0 (List.mem_singleton_self _) (by rw [q]; exact nb0)), p5⟩
    obtain ⟨σ3, g3, T3, v3, i1, i2, i3, i4, i5, i6, i7⟩ := c_recM hH e1 e11 e10 eb0 lb0 nb0 wU0 l1 l2 hq hwE hE hw0 hnt k t σ2 g1 T1 v1 (mA (mV (v0 + k)) ty) (by omega) (by omega) h2 p3 a6 (by omega)
    refine ⟨σ3, g3, T3, v3, ?_, i2, a4.tr i3, by omega, i5, fun z => ?_, fun i j => ((wF.yF hH.1.2.1 hH.1.2.2.1 h.1.1 a3 i j _).tr (w12 i j)).tr (i7 i j)⟩
    · rw [ol_X10_inferRec_62, nI_s1, if_neg (nI_pos (by omega)), f10, ovr_rf, obn_at, f11, ovr_rf, obn_at, oob_at ls.1, obn_at, lg, orn_at, ogd_at oc, k3, ovi_in, obn_at, f10, ovr_rf, obn_at, ho, ovi_in, obn_at, h.yo, obn_at, a1, oin_at, p1, obn_at, ← Int32.sub_eq_add_neg, show t + 1 - (k + 1) = t - k by omega]
      exact i1
    · obtain ⟨c, q1, q2⟩ := i6 z
      exact ⟨c, q1, by rw [mFu_s]; exact q2⟩
end CIR
