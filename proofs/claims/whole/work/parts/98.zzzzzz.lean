/-! the reference's typed(): let rec, the free ones in another order -/
section RPE
variable {k0 c0 am am0 B : Nat} {Z : List (Nat × Nat)} {L env W : List Nat} {Q : List (Int32 × mF)} {τ τ' : zSt} {s sv s1 : mS} {g0 : gG} {T0 : Nat → mF}
def mPm (π : Nat → Nat) (t : mF) : mF := fun α => t (fun i => α (π i))
theorem rS.perm (π : Nat → Nat) (h : rXE k0 L env τ s g0 T0 c0 am0) (G : rS k0 [] L env W Q τ g0 T0 c0 am B sv τ') (e1 : sv.1 = s.1) (hp : ∀ i, π (π i) = i) (hf : ∀ i, i < s.2.1 → π i = i) (hr : ∀ i, i < sv.2.1 → π i < sv.2.1) (hE : ∀ u, u ∈ env → u ∉ W) (f1 : s1.1 = s.1) (f2 : s1.2.1 = sv.2.1) (f20 : s.2.1 ≤ s1.2.1) (f3 : ∀ u, u ∈ env → s1.2.2.1 u = s.2.2.1 u) (f4 : ∀ u, u ∈ W → s1.2.2.1 u = mPm π (sv.2.2.1 u)) : rS k0 [] L env W (Q.map (fun q => (q.1, mPm π q.2))) τ g0 T0 c0 am B s1 τ' := by
  obtain ⟨g, T, c, ⟨h1, -⟩, h2, h3, h4, h5, h6, h7, h8⟩ := G
  obtain ⟨p0, p⟩ := h1
  have row : ∀ u, u ∈ env → ∀ n, L[n]? = some u → τ'.2.2.1 31 n = τ.2.2.1 31 n := fun u hu n hn => h7 n (fun w hw e => by
    rw [hn] at e
    injection e with e
    rw [e] at hu
    exact hE w hu hw)
  rcases p with ⟨p1, p2, p3, p4, k, p5, p6, p7, p8, p9⟩ | ⟨pl, p1, p2⟩
  · have hs : mSat s.1 := by rw [← e1]; exact p1
    obtain ⟨gt0⟩ : Nonempty (gT g0 T0 s) := by
      obtain ⟨-, y⟩ := h.1
      rcases y with ⟨-, -, -, -, -, -, -, -, y, -⟩ | ⟨pl, y, -⟩
      · exact ⟨y⟩
      · exact absurd hs y.no
    have ag : ∀ α : Nat → tY, ∀ i, i < s.2.1 → (fun j => α (π j)) i = α i := fun α i hi => by show α (π i) = α i; rw [hf i hi]
    have gp := p8.perm (k := s.2.1) π hp hf hr (fun α α' e => by rw [e1]; exact (gt0.2.2 α α' e).1)
    have gp1 : gT g (fun c α => T c (fun i => α (π i))) s1 := by
      refine gp.cg (f1.trans e1.symm) (by rw [f2]; exact Nat.le_refl _)
    have xe : xE g0 T0 g (fun c α => T c (fun i => α (π i))) := ⟨h4.1, fun c hc => by
      show (fun α => T c (fun i => α (π i))) = T0 c
      rw [h4.2 c hc]
      exact funext fun α => (gt0.2.2 _ _ (ag α)).2 c hc⟩
    have gy : ∀ x t, gY g T sv x t → gY g (fun c α => T c (fun i => α (π i))) s1 x (mPm π t) := fun x t hy => ⟨hy.1, fun α hα => by
      refine hy.2 _ ?_
      rw [e1]
      rw [f1] at hα
      exact (gt0.2.2 _ _ (ag α)).1.mpr hα⟩
    refine ⟨g, fun c α => T c (fun i => α (π i)), c, ⟨⟨p0, Or.inl ⟨by rw [f1]; exact hs, p2, p3, p4, k, p5, p6, p7, gp1, p9⟩⟩, fun u hu n hn z => ?_⟩, h2, h3, xe, fun q hq z => ?_, fun u hu n hn z => ?_, h7, fun p hp => (by cases hp), h8.2⟩
    · obtain ⟨x, x1, x2⟩ := h.2 u hu n hn hs
      refine ⟨x, (row u hu n hn).trans x1, Nat.lt_of_lt_of_le x2.1 xe.1, fun α hα => ?_⟩
      rw [xe.2 x x2.1, f3 u hu]
      exact x2.2 α (by rw [← f1]; exact hα)
    · obtain ⟨q0, m0, rfl⟩ := List.mem_map.mp hq
      obtain ⟨x, x1, x2⟩ := h5 q0 m0 p1
      exact ⟨x, x1, gy x _ x2⟩
    · obtain ⟨x, x1, x2⟩ := h6 u hu n hn p1
      exact ⟨x, x1, by rw [f4 u hu]; exact gy x _ x2⟩
  · have hn : ¬ mSat s1.1 := by rw [f1, ← e1]; exact p1.no
    exact ⟨g, T, c, ⟨⟨p0, Or.inr ⟨pl, by rw [f1, ← e1]; exact p1, p2⟩⟩, fun u hu => dY.no hn⟩, h2, h3, h4, fun q hq z => absurd z hn, fun u hu => dY.no hn, h7, fun p hp => (by cases hp), h8.2⟩
end RPE
/-- the reference's state of k parameters from the last on: base + q is the word behind them -/
def sV (be : Nat) (s : mS) : Nat → mS
  | 0 => mFr 1 s
  | k + 1 => mNt (be - (k + 1)) (mV (s.2.1 + (k + 1))) (mFr 1 (sV be s k))
def fV (s : mS) : Nat → mF
  | 0 => mV s.2.1
  | k + 1 => mA (mV (s.2.1 + (k + 1))) (fV s k)
def wV (be : Nat) : Nat → List Nat
  | 0 => []
  | k + 1 => wV be k ++ [be - (k + 1)]
theorem sV_1 (be : Nat) (s : mS) : ∀ k, (sV be s k).1 = s.1 ∧ (sV be s k).2.1 = s.2.1 + (k + 1)
  | 0 => ⟨rfl, rfl⟩
  | k + 1 => ⟨(sV_1 be s k).1, by show (sV be s k).2.1 + 1 = _; rw [(sV_1 be s k).2]; omega⟩
theorem wV_mem (be : Nat) : ∀ k u, k ≤ be → (u ∈ wV be k ↔ be - k ≤ u ∧ u < be)
  | 0, u, h => ⟨fun z => (by cases z), fun z => (by omega)⟩
  | k + 1, u, h => by
    show u ∈ wV be k ++ [be - (k + 1)] ↔ _
    rw [List.mem_append, wV_mem be k u (by omega), List.mem_singleton]
    omega
theorem sV_nt (be : Nat) (s : mS) : ∀ k p, k ≤ be → 1 ≤ p → p ≤ k → (sV be s k).2.2.1 (be - p) = mV (s.2.1 + p)
  | 0, p, _, h1, h2 => by omega
  | k + 1, p, hb, h1, h2 => by
    show mUp (sV be s k).2.2.1 (be - (k + 1)) (mV (s.2.1 + (k + 1))) (be - p) = _
    by_cases e : p = k + 1
    · rw [e, mUp_at]
    · rw [mUp_ne _ _ (by omega)]
      exact sV_nt be s k p (by omega) h1 (by omega)
/-- the other order -/
def pV (v q : Nat) (i : Nat) : Nat := if v ≤ i ∧ i ≤ v + q then v + (v + q - i) else i
theorem pV_2 (v q i : Nat) : pV v q (pV v q i) = i := by
  unfold pV
  by_cases h : v ≤ i ∧ i ≤ v + q
  · rw [if_pos h, if_pos (by omega)]; omega
  · rw [if_neg h, if_neg h]
theorem pV_fu (s : mS) (q : Nat) : ∀ k, k ≤ q → mPm (pV s.2.1 q) (fV s k) = mFu k (s.2.1 + (q - k)) (mV (s.2.1 + q))
  | 0, _ => by
    funext α
    show α (pV s.2.1 q s.2.1) = α (s.2.1 + q)
    unfold pV
    rw [if_pos (by omega)]
    congr 1
    omega
  | k + 1, h => by
    have IH := pV_fu s q k (by omega)
    funext α
    show yA (α (pV s.2.1 q (s.2.1 + (k + 1)))) (mPm (pV s.2.1 q) (fV s k) α) = yA (α (s.2.1 + (q - (k + 1)))) (mFu k (s.2.1 + (q - (k + 1)) + 1) (mV (s.2.1 + q)) α)
    rw [IH, show s.2.1 + (q - (k + 1)) + 1 = s.2.1 + (q - k) by omega]
    congr 2
    unfold pV
    rw [if_pos (by omega)]
    omega
theorem mPa_nt : ∀ (q w v p : Nat) (s : mS), p < q → (mPa q w v s).2.2.1 (w + p) = mV (v + p)
  | 0, w, v, p, s, h => by omega
  | q + 1, w, v, 0, s, h => by
    show (mPa q (w + 1) (v + 1) (mNt w (mV v) s)).2.2.1 (w + 0) = _
    rw [(mLe.pa q (w + 1) (v + 1) (mNt w (mV v) s)).2.2 (w + 0) (fun z => by have := (List.mem_range'_1.mp z).1; omega)]
    exact mUp_at _ _ _
  | q + 1, w, v, p + 1, s, h => by
    show (mPa q (w + 1) (v + 1) (mNt w (mV v) s)).2.2.1 (w + (p + 1)) = _
    rw [show w + (p + 1) = w + 1 + p by omega, mPa_nt q (w + 1) (v + 1) p _ (by omega), show v + 1 + p = v + (p + 1) by omega]
theorem mPa_1 : ∀ (q w v : Nat) (s : mS), (mPa q w v s).1 = s.1 ∧ (mPa q w v s).2.1 = s.2.1
  | 0, _, _, _ => ⟨rfl, rfl⟩
  | q + 1, w, v, s => mPa_1 q (w + 1) (v + 1) (mNt w (mV v) s)
