/-! leaf() of the reference up to its questions -/
abbrev oWy : Type := Nat × Int32 × Nat × Int32 × Int64
def wLm (w : oWy) : oLm := aM w.1 w.2.1.toInt w.2.2.1 w.2.2.2.1.toInt (-w.2.2.2.2.toInt)
/-- a way that can be noted -/
def wyOk (B : Int) (c : Nat) (w : oWy) : Prop := w.1 < c ∧ w.2.2.1 < c ∧ (-2 ≤ w.2.1.toInt ∧ w.2.1.toInt ≤ 2) ∧ (-2 ≤ w.2.2.2.1.toInt ∧ w.2.2.2.1.toInt ≤ 2) ∧ (w.2.1 ≠ 0 → w.2.2.2.1 ≠ 0 → w.1 ≠ w.2.2.1) ∧ -B ≤ 2 * w.2.2.2.2.toInt ∧ 2 * w.2.2.2.2.toInt ≤ B
/-- the ways that are noted -/
def rWy (τ : zSt) (Ws : List oWy) : Prop := τ.1 152 = nI Ws.length ∧ Ws.length ≤ 300 ∧ ∀ (k : Nat) (w : oWy), Ws[k]? = some w → τ.2.2.1 93 k = nI w.1 ∧ τ.2.2.1 94 k = w.2.1 ∧ τ.2.2.1 95 k = nI w.2.2.1 ∧ τ.2.2.1 96 k = w.2.2.2.1 ∧ τ.2.2.2 99 k = w.2.2.2.2
def lEnd (T : Nat) (call : zCl) (h0 : Nat) (qs : List Nat) (ks : Nat → Nat) (s : zSt) : zRs := zlet (zI s 154 1) fun s6 => if 0 ≤ (s6.1 155) then zgd (zin (s6.1 155) 24000) (zgd (zin (s6.2.2.1 47 ((s6.1 155)).toNatClampNeg) 64) (l_leaf_153 T call h0 qs ks T (s6.2.2.1 47 ((s6.1 155)).toNatClampNeg) (s6.2.2.1 61 ((s6.2.2.1 47 ((s6.1 155)).toNatClampNeg)).toNatClampNeg) s6)) else some (none, s6)
/-- what closes() tells of the limits -/
def rSay (W : Nat) (L : List oLm) (m : Nat → Int64) : Prop := xOk (xC L) ∧ ∀ i j, i < W → j < W → ∀ e, (xDv bx (xC L) i j e ↔ fm m i j < 1125899906842624 ∧ fm m i j ≤ e)
theorem rSay.cg {W : Nat} {L L' : List oLm} {m : Nat → Int64} (h : ∀ l, l ∈ L ↔ l ∈ L') (w : rSay W L m) : rSay W L' m := by
  unfold rSay at w ⊢
  rw [← xC.cg h]
  exact w
theorem zG_ne {τ : zSt} {j k : Nat} {a : Nat → Int64} (h : j ≠ k) : (zG τ k a).2.2.2 j = τ.2.2.2 j := if_neg h
section LEF
variable {ks : Nat → Nat} {qs : List Nat} {T n h0 c : Nat} {τ : zSt} {B : Int} {Ws : List oWy}
theorem aM_side {a b : Nat} {ta tb y : Int} (ha : a < c) (hb : b < c) (hy : 0 ≤ y ∨ ¬ (ta = 0 ∧ tb = 0)) : (aM a ta b tb y).1 < 2 * c ∧ (aM a ta b tb y).2.1 < 2 * c := by
  unfold aM sd
  split
  · exact ⟨by show 0 < 2 * c; omega, by show 1 < 2 * c; omega⟩
  · split
    · refine ⟨?_, ?_⟩ <;> (show 2 * a + (if 0 < ta then 0 else 1) < 2 * c; split <;> omega)
    · split
      · refine ⟨?_, ?_⟩ <;> (show 2 * b + (if 0 < tb then 0 else 1) < 2 * c; split <;> omega)
      · refine ⟨?_, ?_⟩
        · show 2 * a + (if 0 < ta then 0 else 1) < 2 * c; split <;> omega
        · show 2 * b + (if 0 < tb then 0 else 1) < 2 * c; split <;> omega
/-- the ways, then closes() -/
theorem r_lf59 (hq : qs.getD 88 0 ≠ qs.getD 87 0) (hT : 400 ≤ T) (hc : c ≤ 60) (h131 : τ.1 131 = nI c) (hB : 0 ≤ B) (hBW : ((2 * c : Nat) : Int) * B + B < 1125899906842624) (hW : rWy τ Ws) (hWs : ∀ w, w ∈ Ws → wyOk B c w) : ∀ (d k t : Nat) (m : Nat → Int64) (L : List oLm), k + d = Ws.length → d < t → rTc B (2 * c) (L.map rnd) m → ∃ m', (l_leaf_59 T (zF h0 qs ks T (n + 2)) h0 qs ks t (nI k) (zG τ 88 m) = some (none, zG τ 88 m') ∧ ¬ xOk (xC ((Ws.drop k).map wLm ++ L))) ∨ (l_leaf_59 T (zF h0 qs ks T (n + 2)) h0 qs ks t (nI k) (zG τ 88 m) = lEnd T (zF h0 qs ks T (n + 2)) h0 qs ks (zG τ 88 m') ∧ rSay (2 * c) ((Ws.drop k).map wLm ++ L) m')
  | 0, k, t, m, L, hk, ht, hm => by
    obtain ⟨t, rfl⟩ : ∃ t', t = t' + 1 := ⟨t - 1, by omega⟩
    obtain ⟨w1, w2, w3⟩ := hW
    have e0 : (Ws.drop k).map wLm ++ L = L := by rw [List.drop_of_length_le (by omega)]; rfl
    rw [e0, l_leaf_59]
    have h152 : (zG τ 88 m).1 152 = nI Ws.length := w1
    rw [h152, if_pos (nI_le (by omega) (by omega))]
    obtain ⟨m', c1, c2⟩ := r_closes (ks := ks) (qs := qs) (T := T) (n := n) (h0 := h0) (τ := zG τ 88 m) (c := c) hq (by omega) (by omega) h131
    rw [zG_at] at c1 c2
    obtain ⟨q1, q2, q3⟩ := hm
    have eT : tbA 1125899906842624 (2 * c) (fm m) = xCz (L.map rnd) := funext fun i => funext fun j => funext fun e => propext (q3 i j e)
    obtain ⟨o1, o2⟩ := oct_ref (W := 2 * c) (c := c) (B := B) (m := m) (C := xC (L.map rnd)) (by omega) rfl hB hBW (fun i hi => by rw [q1 i hi]; exact Int.le_refl _) q2 (by rw [eT]; exact xCz.coh) (fun p q e h => by rw [eT]; exact Or.inl h) (fun p q e h => by rw [eT] at h; exact xCz.dv p q e h)
    rw [c1]
    cases eo : oCls (2 * c) m with
    | none =>
      refine ⟨m', Or.inl ⟨?_, fun h => o1 eo ((rnd_ok L).mpr h)⟩⟩
      show zci (some (some (.int 0), _)) _ = _
      rw [zG_zG]
      rfl
    | some m1 =>
      obtain ⟨p1, p2⟩ := o2 m1 eo
      have em : m' = m1 := c2 m1 eo
      refine ⟨m', Or.inr ⟨?_, (rnd_ok L).mp p1, fun i j hi hj e => ?_⟩⟩
      · show zci (some (some (.int 1), _)) _ = _
        rw [zG_zG]
        rfl
      · rw [← rnd_dv, em]
        exact p2 i j hi hj e
  | d + 1, k, t, m, L, hk, ht, hm => by
    obtain ⟨t, rfl⟩ : ∃ t', t = t' + 1 := ⟨t - 1, by omega⟩
    have hkl : k < Ws.length := by omega
    obtain ⟨w1, w2, w3⟩ := hW
    have ew : Ws[k]? = some Ws[k] := List.getElem?_eq_getElem hkl
    obtain ⟨a1, a2, a3, a4, a5⟩ := w3 k _ ew
    obtain ⟨b1, b2, b3, b4, b5, b6, b7⟩ := hWs _ (List.getElem_mem hkl)
    have ed : Ws.drop k = Ws[k] :: Ws.drop (k + 1) := List.drop_eq_getElem_cons hkl
    generalize Ws[k] = w at a1 a2 a3 a4 a5 b1 b2 b3 b4 b5 b6 b7 ed
    have mem : ∀ l, l ∈ (Ws.drop (k + 1)).map wLm ++ (wLm w :: L) ↔ l ∈ (Ws.drop k).map wLm ++ L := fun l => by
      rw [ed, List.map_cons]
      simp only [List.mem_append, List.mem_cons]
      constructor
      · rintro (z | z | z)
        · exact Or.inl (Or.inr z)
        · exact Or.inl (Or.inl z)
        · exact Or.inr z
      · rintro ((z | z) | z)
        · exact Or.inr (Or.inl z)
        · exact Or.inl z
        · exact Or.inr (Or.inr z)
    have h152 : (zG τ 88 m).1 152 = nI Ws.length := w1
    have go : l_leaf_59 T (zF h0 qs ks T (n + 2)) h0 qs ks (t + 1) (nI k) (zG τ 88 m) = zci (zF h0 qs ks T (n + 2) 88 [.ref h0, .ref (qs.getD 88 0), .int (nI w.1), .int w.2.1, .int (nI w.2.2.1), .int w.2.2.2.1, .long w.2.2.2.2] (zG τ 88 m)) fun r18 s16 => if r18 = 0 then some (none, s16) else l_leaf_59 T (zF h0 qs ks T (n + 2)) h0 qs ks t (nI (k + 1)) s16 := by
      rw [l_leaf_59, h152, if_neg (nI_ge (by omega) (by omega))]
      simp only [zgd, zin_n (show k < 300 by omega) (by decide), if_true, nI_clamp (show k < 2 ^ 31 by omega), nI_p1]
      show zci (zF h0 qs ks T (n + 2) 88 [.ref h0, .ref (qs.getD 88 0), .int (τ.2.2.1 93 k), .int (τ.2.2.1 94 k), .int (τ.2.2.1 95 k), .int (τ.2.2.1 96 k), .long ((zG τ 88 m).2.2.2 99 k)] (zG τ 88 m)) _ = _
      have e99 : (zG τ 88 m).2.2.2 99 = τ.2.2.2 99 := zG_ne (by decide)
      rw [e99, a1, a2, a3, a4, a5]
    rw [go, r_atm88 hq (by omega) (by omega)]
    by_cases z : w.2.1 = 0 ∧ w.2.2.2.1 = 0
    · rw [if_pos z]
      have ez : wLm w = (0, 1, -w.2.2.2.2.toInt) := if_pos ⟨(i32_0 _).mp z.1, (i32_0 _).mp z.2⟩
      by_cases y : 0 < lg_cmp w.2.2.2.2 0
      · rw [if_pos y]
        refine ⟨m, Or.inl ⟨rfl, fun hO => ?_⟩⟩
        have y' := (l_gt _ _).mp y
        have y' : 0 < w.2.2.2.2.toInt := y'
        have : xC ((Ws.drop k).map wLm ++ L) (bx 1) 0 (-w.2.2.2.2.toInt) := ⟨wLm w, (mem _).mp (List.mem_append_right _ (List.mem_cons_self ..)), by rw [ez]; exact Or.inl ⟨rfl, rfl⟩, by rw [ez]; exact Int.le_refl _⟩
        have := hO 0 _ (xDv.base _ _ _ this)
        omega
      · rw [if_neg y]
        have y' : ¬ 0 < w.2.2.2.2.toInt := fun h => y ((l_gt _ _).mpr h)
        have hm' : rTc B (2 * c) ((wLm w :: L).map rnd) m := by
          rw [List.map_cons, ez, show rnd (0, 1, -w.2.2.2.2.toInt) = (bx 1, 1, -w.2.2.2.2.toInt) from if_neg (show ¬ (0 : Nat) = 1 by decide)]
          exact rTc.triv (by omega) hm
        obtain ⟨m', ih⟩ := r_lf59 hq hT hc h131 hB hBW ⟨w1, w2, w3⟩ hWs d (k + 1) t m (wLm w :: L) (by omega) (by omega) hm'
        refine ⟨m', ?_⟩
        rcases ih with ⟨i1, i2⟩ | ⟨i1, i2⟩
        · exact Or.inl ⟨i1, by rw [← xC.cg mem]; exact i2⟩
        · exact Or.inr ⟨i1, i2.cg mem⟩
    · rw [if_neg z]
      have hm' : rTc B (2 * c) ((wLm w :: L).map rnd) (oAt w.1 w.2.1 w.2.2.1 w.2.2.2.1 w.2.2.2.2 m) := oAt_rT (c := c) rfl (by omega) b1 b2 (by
        have : 0 ≤ ((2 * c : Nat) : Int) * B := Int.mul_nonneg (by omega) hB
        omega) ⟨b6, b7⟩ b3 b4 z b5 hm
      obtain ⟨m', ih⟩ := r_lf59 hq hT hc h131 hB hBW ⟨w1, w2, w3⟩ hWs d (k + 1) t _ (wLm w :: L) (by omega) (by omega) hm'
      refine ⟨m', ?_⟩
      rcases ih with ⟨i1, i2⟩ | ⟨i1, i2⟩
      · exact Or.inl ⟨i1, by rw [← xC.cg mem]; exact i2⟩
      · exact Or.inr ⟨i1, i2.cg mem⟩
/-- the copy of the base -/
theorem r_lf16 {call : zCl} {k9 : Int32 → Int32 → zSt → zRs} {W i : Nat} (hW : W ≤ 160) (hi : i < W) : ∀ (d j t : Nat) (m : Nat → Int64), j + d = W → d < t → ∃ m', l_leaf_16 T call h0 qs ks k9 t (nI W) (nI i) (nI j) (zG τ 88 m) = k9 (nI W) (nI (i + 1)) (zG τ 88 m') ∧ ∀ e, m' e = if 160 * i + j ≤ e ∧ e < 160 * i + W then τ.2.2.2 87 e else m e
  | 0, j, t, m, hj, ht => by
    obtain ⟨t, rfl⟩ : ∃ t', t = t' + 1 := ⟨t - 1, by omega⟩
    refine ⟨m, ?_, fun e => (if_neg (by omega)).symm⟩
    rw [l_leaf_16, if_pos (nI_le (by omega) (by omega)), nI_p1]
  | d + 1, j, t, m, hj, ht => by
    obtain ⟨t, rfl⟩ : ∃ t', t = t' + 1 := ⟨t - 1, by omega⟩
    obtain ⟨m', i1, i2⟩ := r_lf16 (call := call) (k9 := k9) hW hi d (j + 1) t (vp_updL m (160 * i + j) (τ.2.2.2 87 (160 * i + j))) (by omega) (by omega)
    refine ⟨m', ?_, fun e => ?_⟩
    · rw [l_leaf_16, if_neg (nI_ge (by omega) (by omega))]
      simp only [n160, zgd, zin_n (show 160 * i + j < 25600 by omega) (by decide), if_true, nI_clamp (show 160 * i + j < 2 ^ 31 by omega), zG_at, zlet, zG_zG, nI_p1]
      have e87 : (zG τ 88 m).2.2.2 87 = τ.2.2.2 87 := zG_ne (by decide)
      rw [e87]
      exact i1
    · rw [i2 e, vp_L]
      by_cases z : e = 160 * i + j
      · rw [if_neg (by omega), if_pos z, if_pos (by omega), z]
      · rw [if_neg z]
        by_cases y : 160 * i + j ≤ e ∧ e < 160 * i + W
        · rw [if_pos (by omega), if_pos y]
        · rw [if_neg (by omega), if_neg y]
theorem r_lf9 {call : zCl} {W : Nat} (hT : 400 ≤ T) (hW : W ≤ 160) : ∀ (d i t : Nat) (m : Nat → Int64), i + d = W → d < t → (∀ p q, p < i → q < W → fm m p q = fm (τ.2.2.2 87) p q) → ∃ m', l_leaf_9 T call h0 qs ks t (nI W) (nI i) (zG τ 88 m) = l_leaf_59 T call h0 qs ks T 0 (zG τ 88 m') ∧ ∀ p q, p < W → q < W → fm m' p q = fm (τ.2.2.2 87) p q
  | 0, i, t, m, hi, ht, hm => by
    obtain ⟨t, rfl⟩ : ∃ t', t = t' + 1 := ⟨t - 1, by omega⟩
    have : i = W := by omega
    subst this
    refine ⟨m, ?_, hm⟩
    rw [l_leaf_9, if_pos (nI_le (by omega) (by omega))]
  | d + 1, i, t, m, hi, ht, hm => by
    obtain ⟨t, rfl⟩ : ∃ t', t = t' + 1 := ⟨t - 1, by omega⟩
    obtain ⟨m1, s1, s2⟩ := r_lf16 (ks := ks) (qs := qs) (T := T) (h0 := h0) (τ := τ) (call := call) (k9 := l_leaf_9 T call h0 qs ks t) hW (show i < W by omega) W 0 T m (Nat.zero_add _) (by omega)
    obtain ⟨m', i1, i2⟩ := r_lf9 (call := call) hT hW d (i + 1) t m1 (by omega) (by omega) (fun p q hp hq => by
      unfold fm
      rw [s2]
      by_cases z : p = i
      · rw [if_pos (by omega)]
      · rw [if_neg (by omega)]
        exact hm p q (by omega) hq)
    refine ⟨m', ?_, i2⟩
    rw [l_leaf_9, if_neg (nI_ge (by omega) (by omega))]
    exact s1.trans i1
/-- **leaf()**: what the limits of this way say -/
theorem r_leaf {L : List oLm} (hq : qs.getD 88 0 ≠ qs.getD 87 0) (hT : 400 ≤ T) (hc : c ≤ 60) (h131 : τ.1 131 = nI c) (hB : 0 ≤ B) (hBW : ((2 * c : Nat) : Int) * B + B < 1125899906842624) (hW : rWy τ Ws) (hWs : ∀ w, w ∈ Ws → wyOk B c w) (hb : rTc B (2 * c) (L.map rnd) (τ.2.2.2 87)) : ∃ m', (zF h0 qs ks T (n + 3) 98 [.ref h0] τ = some (none, zG τ 88 m') ∧ ¬ xOk (xC (Ws.map wLm ++ L))) ∨ (zF h0 qs ks T (n + 3) 98 [.ref h0] τ = lEnd T (zF h0 qs ks T (n + 2)) h0 qs ks (zG τ 88 m') ∧ rSay (2 * c) (Ws.map wLm ++ L) m') := by
  rw [show n + 3 = (n + 2) + 1 from rfl, zE_leaf]
  unfold b_leaf
  rw [h131, n2a]
  obtain ⟨m1, a1, a2⟩ := r_lf9 (ks := ks) (qs := qs) (T := T) (h0 := h0) (τ := τ) (call := zF h0 qs ks T (n + 2)) (W := 2 * c) hT (by omega) (2 * c) 0 T (τ.2.2.2 88) (Nat.zero_add _) (by omega) (fun p q hp => absurd hp (Nat.not_lt_zero _))
  rw [zG_id] at a1
  have a1 : l_leaf_9 T (zF h0 qs ks T (n + 2)) h0 qs ks T (nI (2 * c)) 0 τ = _ := a1
  rw [a1]
  have hm : rTc B (2 * c) (L.map rnd) m1 := by
    obtain ⟨q1, q2, q3⟩ := hb
    refine ⟨fun i hi => by rw [a2 i i hi hi]; exact q1 i hi, fun i j hi hj => by rw [a2 i j hi hj]; exact q2 i j hi hj, fun i j e => ?_⟩
    rw [← q3]
    unfold tbA
    constructor
    · rintro (⟨h1, h2, h3, h4⟩ | h)
      · rw [a2 i j h1 h2] at h3 h4
        exact Or.inl ⟨h1, h2, h3, h4⟩
      · exact Or.inr h
    · rintro (⟨h1, h2, h3, h4⟩ | h)
      · exact Or.inl ⟨h1, h2, by rw [a2 i j h1 h2]; exact h3, by rw [a2 i j h1 h2]; exact h4⟩
      · exact Or.inr h
  exact r_lf59 hq hT hc h131 hB hBW hW hWs Ws.length 0 T m1 L (Nat.zero_add _) (by have := hW.2.1; omega) hm
end LEF
