/-! the reference: under(), conditions' NAMES, its table, lengths -/
/-- a condition that can be asked about: a C of measured NAMES among S, or a list's size -/
def gCq (T cnt : Nat) (kk pp ee f R : Nat → Int32) (L : List Nat) (B : Int) (S : List gN) : gCd → Prop
  | .inl c => (∀ u, u ∈ c.2 → u ∈ L) ∧ c.2.length ≤ 12 ∧ tGd kk cnt c.1 ∧ rWs f pp ee R L c.2 (cEv c.1) ∧ dFo T f pp ee c.2 (fun u => .inl u ∈ S) B c.1 ∧ dOk c.1 = true ∧ kD c.1 ≤ 1200
  | .inr l => .inl l ∈ S ∧ l ∈ L
section UNL
variable {ks : Nat → Nat} {qs : List Nat} {T n h0 len cnt lo N Ss P A c : Nat} {Γ : uGm} {V : zSt} {v : Nat → Nat} {CD : tT → Nat → Prop} {L ns : List Nat} {kk pp ee f : Nat → Int32} {B : Int} {S : List gN} {sl : gN → Nat}
theorem nFr.lh {τ : zSt} {env : List Nat} (H : rLh T len cnt Ss P L env V kk pp ee f) (q : nFr V τ) : rLh T len cnt Ss P L env τ kk pp ee f := ⟨H.1, H.2.1.keep (q.2.2.1 1 (by decide) (by decide)) (q.2.2.1 3 (by decide) (by decide)) (q.2.2.1 4 (by decide) (by decide)) (q.2.2.1 5 (by decide) (by decide)), by rw [q.2.2.1 32 (by decide) (by decide)]; exact H.2.2.1, H.2.2.2⟩
theorem nFr.at {τ : zSt} (q : nFr V τ) : rAt lo N Ss P A V τ := ⟨fun m _ _ => funext fun k => congrFun (q.2.2.1 _ (by omega) (by omega)) m, fun k j a b _ => congrFun (q.2.2.1 k (by omega) (by omega)) j, fun k j a b _ => congrFun (q.2.2.1 k (by omega) (by omega)) j, fun m _ => funext fun k => congrFun (q.2.2.1 _ (by omega) (by omega)) m⟩
/-- what stands fast of the tree -/
def uTr (T len cnt lo N Ss P A : Nat) (L : List Nat) (V : zSt) (kk pp ee f : Nat → Int32) (CD : tT → Nat → Prop) : Prop := N ≤ 2100 ∧ rLh T len cnt Ss P L [] V kk pp ee f ∧ ∀ t m, CD t m → rTr pp V lo N Ss P A t 0 0 m ∧ cWf cnt t false
theorem uTr.env {env : List Nat} (h : uTr T len cnt lo N Ss P A L V kk pp ee f CD) (h1 : ∀ u, u ∈ env → u ∈ L) (h2 : env.length ≤ 12) : rLh T len cnt Ss P L env V kk pp ee f := ⟨h.2.1.1, h.2.1.2.1, h.2.1.2.2.1, h1, h2⟩
/-- namesOfGone() over the chain -/
theorem r_unD {x1 x2 x3 : Int32} (hT : 8400 ≤ T) (hn : 1210 ≤ n) (hv : ∀ k, v k ≤ uLm k) (W : uTr T len cnt lo N Ss P A L V kk pp ee f CD) (hco : rCo V ns) (hS : ∀ y, y ∈ S → ns[sl y]? = some (Γ.1 y)) (hΓ : ∀ u, u ∈ L → Γ.1 (.inl u) = nuO (V.2.2.1 32) u) (hSL : ∀ u, Sum.inl u ∈ S → u ∈ L) : ∀ (r : List (gCd × Bool)) (g : Int32) (t : Nat) (τ : zSt), uGo CD Γ v V r g → r.length < t → nFr V τ → (∀ x, x ∈ r → gCq T cnt kk pp ee f (V.2.2.1 32) L B S x.1) → ∃ τ', l_under_101 T (zF h0 qs ks T n) h0 qs ks t x1 x2 x3 g τ = (if (τ'.1 155) < 0 then j_under_144 T (zF h0 qs ks T n) h0 qs ks x1 x2 x3 τ' else zcv (zF h0 qs ks T n 104 [.ref h0, .int (τ'.1 155)] τ') fun s3 => j_under_144 T (zF h0 qs ks T n) h0 qs ks x1 x2 x3 s3) ∧ nFr V τ'
  | [], g, t, τ, h, ht, f, _ => by
    obtain ⟨t, rfl⟩ : ∃ t', t = t' + 1 := ⟨t - 1, by omega⟩
    have h : g = -1 := h
    rw [l_under_101, h, if_pos m1_lt.2]
    exact ⟨τ, rfl, f⟩
  | x :: r, g, t, τ, ⟨i, ⟨h1, h2⟩, h3, h4, h5⟩, ht, fr, hx => by
    obtain ⟨t, rfl⟩ : ∃ t', t = t' + 1 := ⟨t - 1, by omega⟩
    have i12 : i < 12000 := by have : v 110 ≤ 12000 := hv 110; omega
    have hx0 := hx x (List.mem_cons_self ..)
    rw [l_under_101, h1, if_neg (nI_nn (by omega)), zgd_at (zin_n i12 (by decide)), nI_clamp (show i < 2 ^ 31 by omega), fr.q.r (k := 71)]
    have step : ∃ τ1, zF h0 qs ks T n 106 [.ref h0, .int (V.2.2.1 71 i)] τ = some (none, τ1) ∧ nFr V τ1 := by
      rcases x with ⟨cc | l, hh⟩
      · obtain ⟨m, m1, m2, m3⟩ := h4
        obtain ⟨c1, c2, c3, c4, c5, c6, c7⟩ := hx0
        obtain ⟨w1, w2⟩ := W.2.2 _ _ m3
        have m1 : V.2.2.1 71 i = nI m := m1
        rw [m1]
        have e32 : τ.2.2.1 32 = V.2.2.1 32 := fr.2.2.1 32 (by decide) (by decide)
        obtain ⟨τ1, a1, a2⟩ := r_nog (h0 := h0) (qs := qs) (ks := ks) (V := τ) (B := B) (ns := ns) W.1 (fr.lh (W.env c1 c2)) (fr.co hco) (cov := fun u => .inl u ∈ S) (fun u hu => ⟨_, by rw [e32, ← hΓ u (hSL u hu)]; exact hS _ hu⟩) cc.1 m w2 c3 (by rw [e32]; exact c4) c5 (rTr.keep (fr.at) (Nat.le_refl _) (Nat.le_refl _) (Nat.le_refl _) (Nat.le_refl _) (Nat.le_refl _) _ _ _ _ w1) n τ (by omega) (gFm.rf τ)
        exact ⟨τ1, a1, fr.tr a2.n⟩
      · obtain ⟨c1, c2⟩ := hx0
        have h4 : V.2.2.1 71 i = (-2) - nI (Γ.1 (.inl l)) := h4
        have l1 := (hco.2.2.2.1 _ _ (hS _ c1)).1
        obtain ⟨b1, b2⟩ := neg_l _ l1
        obtain ⟨n, rfl⟩ : ∃ n', n = n' + 2 := ⟨n - 2, by omega⟩
        rw [h4, show n + 2 = (n + 1) + 1 from rfl, zE_namesOfGone]
        unfold b_namesOfGone
        rw [if_neg b1, b2, r_clA (fr.co hco) (hS _ c1), zci_at]
        exact ⟨τ, rfl, fr⟩
    obtain ⟨τ1, a1, a2⟩ := step
    rw [a1, zcv_at, zgd_at (zin_n i12 (by decide)), a2.q.r (k := 73)]
    exact r_unD hT hn hv W hco hS hΓ hSL r _ t τ1 h5 (by have : r.length + 1 < t + 1 := ht; omega) a2 (fun y hy => hx y (List.mem_cons_of_mem _ hy))
theorem r_un165 {call : zCl} {k155 : Int32 → Int32 → Int32 → Int32 → Int32 → zSt → zRs} {x1 x2 x3 : Int32} {τ : zSt} {W i : Nat} (hW : W ≤ 160) (hi : i < W) : ∀ (d j t : Nat) (m : Nat → Int64), j + d = W → d < t → ∃ m', l_under_165 T call h0 qs ks k155 t x1 x2 x3 (nI W) (nI i) (nI j) (zG τ 87 m) = k155 x1 x2 x3 (nI W) (nI (i + 1)) (zG τ 87 m') ∧ ∀ e, m' e = if 160 * i + j ≤ e ∧ e < 160 * i + W then (if e = 161 * i then 0 else 1125899906842624) else m e
  | 0, j, t, m, hj, ht => by
    obtain ⟨t, rfl⟩ : ∃ t', t = t' + 1 := ⟨t - 1, by omega⟩
    refine ⟨m, ?_, fun e => (if_neg (by omega)).symm⟩
    rw [l_under_165, if_pos (nI_le (by omega) (by omega)), nI_p1]
  | d + 1, j, t, m, hj, ht => by
    obtain ⟨t, rfl⟩ : ∃ t', t = t' + 1 := ⟨t - 1, by omega⟩
    obtain ⟨m', i1, i2⟩ := r_un165 (call := call) (k155 := k155) (x1 := x1) (x2 := x2) (x3 := x3) (τ := τ) hW hi d (j + 1) t (vp_updL m (160 * i + j) (if i = j then 0 else 1125899906842624)) (by omega) (by omega)
    refine ⟨m', ?_, fun e => ?_⟩
    · rw [l_under_165, if_neg (nI_ge (by omega) (by omega))]
      have go : ∀ z : Int64, j_under_199 T call h0 qs ks k155 (l_under_165 T call h0 qs ks k155 t) x1 x2 x3 (nI W) (nI i) (nI j) (160 * nI i + nI j) z (zG τ 87 m) = l_under_165 T call h0 qs ks k155 t x1 x2 x3 (nI W) (nI i) (nI (j + 1)) (zG τ 87 (vp_updL m (160 * i + j) z)) := fun z => by
        unfold j_under_199
        simp only [n160, zgd, zin_n (show 160 * i + j < 25600 by omega) (by decide), if_true, nI_clamp (show 160 * i + j < 2 ^ 31 by omega), zG_at, zlet, zG_zG, nI_p1]
      by_cases z : i = j
      · rw [if_pos (show nI i = nI j by rw [z]), go, ← i1, if_pos z]
      · rw [if_neg (fun e => z (nI_inj' (by omega) (by omega) e)), go, ← i1, if_neg z]
    · rw [i2 e, vp_L]
      by_cases z : e = 160 * i + j
      · rw [if_neg (by omega), if_pos z, if_pos (show 160 * i + j ≤ e ∧ e < 160 * i + W by omega)]
        by_cases y : i = j
        · rw [if_pos y, if_pos (by omega)]
        · rw [if_neg y, if_neg (by omega)]
      · rw [if_neg z]
        by_cases y : 160 * i + j ≤ e ∧ e < 160 * i + W
        · rw [if_pos (by omega), if_pos y]
        · rw [if_neg (by omega), if_neg y]
theorem r_un155 {call : zCl} {x1 x2 x3 : Int32} {τ : zSt} {W : Nat} (hT : 400 ≤ T) (hW : W ≤ 160) : ∀ (d i t : Nat) (m : Nat → Int64), i + d = W → d < t → (∀ p q, p < i → q < W → m (160 * p + q) = if p = q then 0 else 1125899906842624) → ∃ m', l_under_155 T call h0 qs ks t x1 x2 x3 (nI W) (nI i) (zG τ 87 m) = l_under_218 T call h0 qs ks T x1 x2 x3 1 0 (zG τ 87 m') ∧ ∀ p q, p < W → q < W → m' (160 * p + q) = if p = q then 0 else 1125899906842624
  | 0, i, t, m, hi, ht, hm => by
    obtain ⟨t, rfl⟩ : ∃ t', t = t' + 1 := ⟨t - 1, by omega⟩
    have : i = W := by omega
    subst this
    refine ⟨m, ?_, hm⟩
    rw [l_under_155, if_pos (nI_le (by omega) (by omega))]
  | d + 1, i, t, m, hi, ht, hm => by
    obtain ⟨t, rfl⟩ : ∃ t', t = t' + 1 := ⟨t - 1, by omega⟩
    obtain ⟨m1, s1, s2⟩ := r_un165 (ks := ks) (qs := qs) (T := T) (h0 := h0) (τ := τ) (call := call) (x1 := x1) (x2 := x2) (x3 := x3) (k155 := l_under_155 T call h0 qs ks t) hW (show i < W by omega) W 0 T m (Nat.zero_add _) (by omega)
    obtain ⟨m', i1, i2⟩ := r_un155 (call := call) (x1 := x1) (x2 := x2) (x3 := x3) (τ := τ) hT hW d (i + 1) t m1 (by omega) (by omega) (fun p q hp hq => by
      rw [s2]
      by_cases z : p = i
      · rw [if_pos (by omega)]
        by_cases y : p = q
        · rw [if_pos y, if_pos (by omega)]
        · rw [if_neg y, if_neg (by omega)]
      · rw [if_neg (by omega)]
        exact hm p q (by omega) hq)
    refine ⟨m', ?_, i2⟩
    rw [l_under_155, if_neg (nI_ge (by omega) (by omega))]
    exact s1.trans i1
/-- a table without a limit -/
theorem rTc.new {B : Int} {W : Nat} {m : Nat → Int64} (h : ∀ p q, p < W → q < W → m (160 * p + q) = if p = q then 0 else 1125899906842624) (hB : 0 ≤ B) : rTc B W (([] : List oLm).map rnd) m := by
  have e : ∀ p q, p < W → q < W → fm m p q = if p = q then 0 else 1125899906842624 := fun p q hp hq => by
    unfold fm
    rw [h p q hp hq]
    split <;> rfl
  refine ⟨fun i hi => by rw [e i i hi hi, if_pos rfl], fun i j hi hj => ?_, fun i j x => ?_⟩
  · rw [e i j hi hj]
    split
    · exact Or.inr ⟨by omega, by omega⟩
    · exact Or.inl rfl
  · constructor
    · rintro (⟨a, b, d, g⟩ | z)
      · rw [e i j a b] at d g
        by_cases z : i = j
        · rw [if_pos z] at g
          exact Or.inr ⟨z, g⟩
        · rw [if_neg z] at d
          omega
      · exact Or.inr z
    · rintro (⟨l, hl, _⟩ | z)
      · cases hl
      · exact Or.inr z
/-- lengths and sizes are 0 or more -/
def lnL (R : Nat → Int32) : Nat → List Nat → List oLm
  | _, [] => []
  | k, x :: ns => (if R x = 0 then [] else [(2 * k + 1, 2 * k + 1, 0)]) ++ lnL R (k + 1) ns
/-- where the lengths end -/
def uEnd (T : Nat) (call : zCl) (h0 : Nat) (qs : List Nat) (ks : Nat → Nat) (x1 x2 x3 : Int32) (σ : zSt) : zRs := if x3 < 0 then j_under_339 T call h0 qs ks x1 x2 1 σ else zgd (zin x3 40000) (if (σ.2.2.1 42 (x3).toNatClampNeg) = 1 then j_under_311 T call h0 qs ks x1 x2 x3 1 σ else zci (call 85 [.ref h0, .int 1500] σ) fun r7 s5 => zci (call 88 [.ref h0, .ref (qs.getD 87 0), .int r7, .int (-1), .int 0, .int 0, .long 0] s5) fun r10 s8 => j_under_311 T call h0 qs ks x1 x2 x3 1 s8)
theorem r_un218 {x1 x2 x3 : Int32} (hc : c ≤ 60) (hB : 0 ≤ B ∧ B < 1125899906842624) (hcl : ns.length = c) : ∀ (d k t : Nat) (τ : zSt) (L : List oLm), k + d = c → d < t → rCo τ ns → rTc B (2 * c) (L.map rnd) (τ.2.2.2 87) → ∃ m', l_under_218 T (zF h0 qs ks T (n + 2)) h0 qs ks t x1 x2 x3 1 (nI k) τ = uEnd T (zF h0 qs ks T (n + 2)) h0 qs ks x1 x2 x3 (zG τ 87 m') ∧ rTc B (2 * c) ((lnL (τ.2.2.1 66) k (ns.drop k) ++ L).map rnd) m'
  | 0, k, t, τ, L, hk, ht, w, h => by
    obtain ⟨t, rfl⟩ : ∃ t', t = t' + 1 := ⟨t - 1, by omega⟩
    rw [l_under_218, w.1, if_pos (nI_le (by omega) (by omega)), List.drop_of_length_le (by omega)]
    exact ⟨_, by rw [zG_id]; rfl, h⟩
  | d + 1, k, t, τ, L, hk, ht, w, h => by
    obtain ⟨t, rfl⟩ : ∃ t', t = t' + 1 := ⟨t - 1, by omega⟩
    have hkl : k < ns.length := by omega
    have ek := List.getElem?_eq_getElem hkl
    obtain ⟨y1, y2, y3⟩ := w.2.2.2.1 k _ ek
    rw [l_under_218, w.1, if_neg (nI_ge (by omega) (by omega)), zgd_at (zin_n (show k < 100 by omega) (by decide)), nI_clamp (show k < 2 ^ 31 by omega), y2, zgd_at (zin_n y1 (by decide)), nI_clamp (by omega), List.drop_eq_getElem_cons hkl]
    by_cases z : τ.2.2.1 66 ns[k] = 0
    · rw [if_pos z]
      unfold j_under_271
      rw [nI_p1]
      obtain ⟨m', a1, a2⟩ := r_un218 hc hB hcl d (k + 1) t τ L (by omega) (by omega) w h
      refine ⟨m', a1, ?_⟩
      rw [lnL, if_pos z]
      exact a2
    · rw [if_neg z]
      obtain ⟨m1, a1, a2⟩ := r_atL (h0 := h0) (qs := qs) (ks := ks) (T := T) (n := n) (τ := τ) (a := k) (b := 0) (ta := -1) (tb := 0) (num := 0) hc (by omega) (by omega) hB.2 (by show -B ≤ 0 ∧ 0 ≤ B; omega) (by decide) (by decide) (fun z => absurd z.1 (by decide)) (fun _ z => absurd rfl z) h
      have a1 : zF h0 qs ks T (n + 2) 88 [.ref h0, .ref (qs.getD 87 0), .int (nI k), .int (-1), .int 0, .int 0, .long 0] τ = _ := a1
      rw [a1, zci_at, if_neg (by decide), if_neg (by decide)]
      unfold j_under_269 j_under_271
      rw [nI_p1]
      have el : aM k (-1 : Int32).toInt 0 (0 : Int32).toInt (-(0 : Int64).toInt) = (2 * k + 1, 2 * k + 1, 0) := by
        show aM k (-1) 0 0 0 = _
        unfold aM sd
        rw [if_neg (by decide), if_pos rfl, if_neg (by decide), if_pos (by decide)]
        rfl
      rw [el] at a2
      obtain ⟨m', b1, b2⟩ := r_un218 hc hB hcl d (k + 1) t (zG τ 87 m1) _ (by omega) (by omega) (w.cg rfl rfl rfl) (by rw [zG_at]; exact a2)
      rw [zG_zG] at b1
      refine ⟨m', b1, rTc.cg (fun l => ?_) b2⟩
      rw [lnL, if_neg z]
      simp only [List.map_append, List.mem_append, List.map_cons, List.mem_cons, List.map_nil, List.not_mem_nil, or_false]
      constructor
      · rintro (z | z | z)
        · exact Or.inl (Or.inr z)
        · exact Or.inl (Or.inl z)
        · exact Or.inr z
      · rintro ((z | z) | z)
        · exact Or.inr (Or.inl z)
        · exact Or.inl z
        · exact Or.inr (Or.inr z)
end UNL
