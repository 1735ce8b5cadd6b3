/-! the reference's lines -/
section SFP
variable {L M : List (Nat × Int32)}
theorem sFa_iff (L : List (Nat × Int32)) : sFa L = true ↔ (L.length = 2 ∧ ∀ q, q ∈ L → jAbs q.2 = 1) ∨ L.length = 0 ∨ (L.length = 1 ∧ ∀ q, q ∈ L → ¬ 2 < jAbs q.2) := by
  match L with
  | [] => simp [sFa]
  | [p] => simp [sFa, sAt]
  | [p, q] => simp [sFa, sAt]
  | p :: q :: r :: L => simp [sFa]
theorem sTe_iff (L : List (Nat × Int32)) : sTe L = true ↔ L.length = 0 ∨ (L.length = 1 ∧ ∀ q, q ∈ L → jAbs q.2 = 1) := by
  match L with
  | [] => simp [sTe]
  | [p] => simp [sTe, sAt]
  | p :: q :: L => simp [sTe]
theorem sFa_pm (h : L.Perm M) : sFa L = sFa M := by
  rw [Bool.eq_iff_iff, sFa_iff, sFa_iff, h.length_eq]
  simp only [h.mem_iff]
theorem sTe_pm (h : L.Perm M) : sTe L = sTe M := by
  rw [Bool.eq_iff_iff, sTe_iff, sTe_iff, h.length_eq]
  simp only [h.mem_iff]
/-- at most K times, or -K times -/
def sBd (K : Nat) (L : List (Nat × Int32)) : Prop := ∀ q, q ∈ L → -(K : Int) ≤ q.2.toInt ∧ q.2.toInt ≤ K
theorem jAbs_1 {v : Int32} {K : Nat} (hK : K ≤ 100000) (h : -(K : Int) ≤ v.toInt ∧ v.toInt ≤ K) : (jAbs v).toInt = if 0 ≤ v.toInt then v.toInt else -v.toInt := by
  unfold jAbs
  by_cases c : (0 : Int32) ≤ v
  · rw [if_pos c]
    rw [Int32.le_iff_toInt_le] at c
    have c : (0 : Int) ≤ v.toInt := c
    rw [if_pos c]
  · rw [if_neg c]
    rw [Int32.le_iff_toInt_le] at c
    have c : ¬ (0 : Int) ≤ v.toInt := c
    rw [if_neg c, Int32.toInt_sub]
    show (0 - v.toInt).bmod (2 ^ 32) = _
    rw [Int.bmod_eq_of_le (by omega) (by omega)]
    omega
theorem jAbs_eq1 {v : Int32} {K : Nat} (hK : K ≤ 100000) (h : -(K : Int) ≤ v.toInt ∧ v.toInt ≤ K) : jAbs v = 1 ↔ v.toInt = 1 ∨ v.toInt = -1 := by
  rw [← Int32.toInt_inj, jAbs_1 hK h]
  show (if 0 ≤ v.toInt then v.toInt else -v.toInt) = 1 ↔ _
  split <;> omega
theorem jAbs_lt2 {v : Int32} {K : Nat} (hK : K ≤ 100000) (h : -(K : Int) ≤ v.toInt ∧ v.toInt ≤ K) : ¬ 2 < jAbs v ↔ v.toInt ≤ 2 ∧ -2 ≤ v.toInt := by
  rw [Int32.lt_iff_toInt_lt, jAbs_1 hK h]
  show ¬ (2 : Int) < (if 0 ≤ v.toInt then v.toInt else -v.toInt) ↔ _
  split <;> omega
def rFa (M : List (Nat × Int32)) : Bool := decide (M.length ≤ 2 ∧ ∀ q, q ∈ M → (¬ 2 < q.2 ∧ ¬ q.2 < -2) ∧ (M.length = 2 → ¬ 1 < q.2 ∧ -1 ≤ q.2))
def rTq (M : List (Nat × Int32)) : Bool := decide (M.length = 0 ∨ (M.length = 1 ∧ ∀ q, q ∈ M → q.2 = 1 ∨ q.2 = -1))
theorem i32_ne0 {v : Int32} : v ≠ 0 ↔ v.toInt ≠ 0 := by
  rw [Ne, ← Int32.toInt_inj]
  rfl
theorem rFa_s {K : Nat} (hK : K ≤ 100000) (h : sNi M) (hb : sBd K M) : rFa M = sFa M := by
  rw [Bool.eq_iff_iff, sFa_iff]
  unfold rFa
  rw [decide_eq_true_iff]
  have l2 : ∀ v : Int32, (2 < v ↔ 2 < v.toInt) ∧ (v < -2 ↔ v.toInt < -2) ∧ (1 < v ↔ 1 < v.toInt) ∧ (-1 ≤ v ↔ -1 ≤ v.toInt) := fun v => ⟨Int32.lt_iff_toInt_lt, Int32.lt_iff_toInt_lt, Int32.lt_iff_toInt_lt, Int32.le_iff_toInt_le⟩
  constructor
  · rintro ⟨h1, h2⟩
    by_cases e2 : M.length = 2
    · refine Or.inl ⟨e2, fun q hq => ?_⟩
      obtain ⟨-, h4⟩ := h2 q hq
      obtain ⟨h5, h6⟩ := h4 e2
      rw [(l2 q.2).2.2.1] at h5
      rw [(l2 q.2).2.2.2] at h6
      have := i32_ne0.mp (h.2 q hq)
      rw [jAbs_eq1 hK (hb q hq)]
      omega
    · by_cases e0 : M.length = 0
      · exact Or.inr (Or.inl e0)
      · refine Or.inr (Or.inr ⟨by omega, fun q hq => ?_⟩)
        obtain ⟨⟨h3, h4⟩, -⟩ := h2 q hq
        rw [(l2 q.2).1] at h3
        rw [(l2 q.2).2.1] at h4
        rw [jAbs_lt2 hK (hb q hq)]
        omega
  · rintro (⟨e, h1⟩ | e | ⟨e, h1⟩)
    · refine ⟨by omega, fun q hq => ?_⟩
      have := h1 q hq
      rw [jAbs_eq1 hK (hb q hq)] at this
      rw [(l2 q.2).1, (l2 q.2).2.1, (l2 q.2).2.2.1, (l2 q.2).2.2.2]
      omega
    · refine ⟨by omega, fun q hq => ?_⟩
      rw [List.length_eq_zero_iff.mp e] at hq
      cases hq
    · refine ⟨by omega, fun q hq => ?_⟩
      have := h1 q hq
      rw [jAbs_lt2 hK (hb q hq)] at this
      rw [(l2 q.2).1, (l2 q.2).2.1]
      exact ⟨by omega, fun z => by omega⟩
theorem rTq_s {K : Nat} (hK : K ≤ 100000) (hb : sBd K M) : rTq M = sTe M := by
  rw [Bool.eq_iff_iff, sTe_iff]
  unfold rTq
  rw [decide_eq_true_iff]
  have e1 : ∀ q, q ∈ M → ((q.2 = 1 ∨ q.2 = -1) ↔ jAbs q.2 = 1) := fun q hq => by
    rw [jAbs_eq1 hK (hb q hq), ← Int32.toInt_inj, ← Int32.toInt_inj]
    exact Iff.rfl
  constructor
  · rintro (h | ⟨h, h1⟩)
    · exact Or.inl h
    · exact Or.inr ⟨h, fun q hq => (e1 q hq).mp (h1 q hq)⟩
  · rintro (h | ⟨h, h1⟩)
    · exact Or.inl h
    · exact Or.inr ⟨h, fun q hq => (e1 q hq).mpr (h1 q hq)⟩
theorem sBd.mo {K K' : Nat} (h : sBd K M) (hk : K ≤ K') : sBd K' M := fun q hq => by
  have := h q hq
  omega
theorem sBd.add {K : Nat} {b : Nat} {v : Int32} (hK : K ≤ 100000) (h : sBd K M) (hv : -1 ≤ v.toInt ∧ v.toInt ≤ 1) : sBd (K + 1) (sAdd M b v) := by
  obtain ⟨c, hc⟩ := sL1_at M b
  have h1 : sBd K (sL1 M b) := by
    unfold sL1
    split
    · intro q hq
      rcases List.mem_append.mp hq with z | z
      · exact h q z
      · rw [List.mem_singleton.mp z]
        show -(K : Int) ≤ (0 : Int) ∧ (0 : Int) ≤ K
        omega
    · exact h
  have hcb : -(K : Int) ≤ c.toInt ∧ c.toInt ≤ K := h1 (b, c) (List.mem_of_getElem? hc)
  have eAt : sAt (sL1 M b) (sIx M b) = c := by unfold sAt; rw [hc]
  unfold sAdd sUp
  rw [eAt]
  generalize sL1 M b = L1 at h1 hc
  split
  · cases e : L1[L1.length - 1]? with
    | none => exact h1.mo (by omega)
    | some p =>
      intro q hq
      rcases List.mem_or_eq_of_mem_set (List.mem_of_mem_take hq) with z | z
      · exact h1.mo (by omega) q z
      · rw [z]; exact h1.mo (by omega) p (List.mem_of_getElem? e)
  · intro q hq
    rcases List.mem_or_eq_of_mem_set hq with z | z
    · exact h1.mo (by omega) q z
    · rw [z]
      show -((K + 1 : Nat) : Int) ≤ (c + v).toInt ∧ (c + v).toInt ≤ ((K + 1 : Nat) : Int)
      rw [Int32.toInt_add, Int.bmod_eq_of_le (by omega) (by omega)]
      omega
end SFP
/-- the line: names' numbers and how often each stands -/
def rLn (τ : zSt) (M : List (Nat × Int32)) : Prop := τ.1 63 = nI M.length ∧ ∀ i q, M[i]? = some q → τ.2.2.1 40 i = nI q.1 ∧ τ.2.2.1 41 i = q.2
/-- all but lines and what forms note is as it was -/
def fFm (τ τ' : zSt) : Prop := (∀ k, k ≠ 52 → k ≠ 63 → k ≠ 65 → τ'.1 k = τ.1 k) ∧ (∀ k, k ≠ 64 → τ'.2.1 k = τ.2.1 k) ∧ (∀ k, k ≠ 40 → k ≠ 41 → τ'.2.2.1 k = τ.2.2.1 k) ∧ τ'.2.2.2 = τ.2.2.2
theorem fFm.rf (τ : zSt) : fFm τ τ := ⟨fun _ _ _ _ => rfl, fun _ _ => rfl, fun _ _ _ => rfl, rfl⟩
theorem fFm.tr {τ τ' τ'' : zSt} (h : fFm τ τ') (g : fFm τ' τ'') : fFm τ τ'' := ⟨fun k a b c => (g.1 k a b c).trans (h.1 k a b c), fun k a => (g.2.1 k a).trans (h.2.1 k a), fun k a b => (g.2.2.1 k a b).trans (h.2.2.1 k a b), g.2.2.2.trans h.2.2.2⟩
/-- and the line alone changes -/
def gFm (τ τ' : zSt) : Prop := (∀ k, k ≠ 63 → τ'.1 k = τ.1 k) ∧ (∀ k, k ≠ 64 → τ'.2.1 k = τ.2.1 k) ∧ (∀ k, k ≠ 40 → k ≠ 41 → τ'.2.2.1 k = τ.2.2.1 k) ∧ τ'.2.2.2 = τ.2.2.2
theorem gFm.rf (τ : zSt) : gFm τ τ := ⟨fun _ _ => rfl, fun _ _ => rfl, fun _ _ _ => rfl, rfl⟩
theorem gFm.tr {τ τ' τ'' : zSt} (h : gFm τ τ') (g : gFm τ' τ'') : gFm τ τ'' := ⟨fun k b => (g.1 k b).trans (h.1 k b), fun k a => (g.2.1 k a).trans (h.2.1 k a), fun k a b => (g.2.2.1 k a b).trans (h.2.2.1 k a b), g.2.2.2.trans h.2.2.2⟩
theorem gFm.f {τ τ' : zSt} (h : gFm τ τ') : fFm τ τ' := ⟨fun k _ b _ => h.1 k b, h.2⟩
section RLN
variable {ks : Nat → Nat} {qs : List Nat} {T n h0 : Nat} {τ : zSt} {M : List (Nat × Int32)}
theorem r_clr : ∃ τ', zF h0 qs ks T (n + 1) 53 [.ref h0] τ = some (none, τ') ∧ rLn τ' [] ∧ gFm τ τ' ∧ τ'.2.1 64 = 0 := by
  rw [zE_clearLine]
  unfold b_clearLine
  simp only [zlet]
  exact ⟨_, rfl, ⟨rfl, fun i q h => by cases h⟩, ⟨fun k a => zIn _ _ a, fun k a => if_neg a, fun _ _ _ => rfl, rfl⟩, rfl⟩
theorem r_an58 {call : zCl} {k b : Nat} {c v : Int32} (h : rLn τ M) (hl : M.length ≤ 40) (hk : M[k]? = some (b, c)) : ∃ τ', j_addName_58 T call h0 qs ks v (nI k) τ = some (none, τ') ∧ rLn τ' (sUp M b k v) ∧ gFm τ τ' ∧ τ'.2.1 = τ.2.1 := by
  have hkl : k < M.length := by
    by_cases q : k < M.length
    · exact q
    · rw [List.getElem?_eq_none (by omega)] at hk; cases hk
  obtain ⟨q1, q2⟩ := h.2 k (b, c) hk
  have eAt : sAt M k = c := by unfold sAt; rw [hk]
  have zk : zin (nI k) 40 = true := zin_n (by omega) (by decide)
  unfold j_addName_58
  simp only [zgd, zk, if_true, nI_clamp (show k < 2 ^ 31 by omega), zlet, q2]
  have e41 : (zA τ 41 (upd (τ.2.2.1 41) k (c + v))).2.2.1 41 k = c + v := by rw [zAe, upd_at]
  rw [e41]
  by_cases c0 : c + v = 0
  · rw [if_pos c0]
    obtain ⟨q, hq⟩ : ∃ q, M[M.length - 1]? = some q := ⟨_, List.getElem?_eq_getElem (by omega)⟩
    obtain ⟨l1, l2⟩ := h.2 _ q hq
    have e63 : (zI (zA τ 41 (upd (τ.2.2.1 41) k (c + v))) 63 ((zA τ 41 (upd (τ.2.2.1 41) k (c + v))).1 63 - 1)).1 63 = nI (M.length - 1) := by
      rw [zIe]
      show τ.1 63 - 1 = _
      rw [h.1]
      obtain ⟨m, hm⟩ : ∃ m, M.length = m + 1 := ⟨M.length - 1, by omega⟩
      rw [hm, nI_s1]
      rfl
    have zl : zin (nI (M.length - 1)) 40 = true := zin_n (by omega) (by decide)
    have e63' : ∀ r, (zA (zI (zA τ 41 (upd (τ.2.2.1 41) k (c + v))) 63 ((zA τ 41 (upd (τ.2.2.1 41) k (c + v))).1 63 - 1)) 40 r).1 63 = nI (M.length - 1) := fun r => e63
    simp only [e63, e63', zl, if_true, nI_clamp (show M.length - 1 < 2 ^ 31 by omega)]
    refine ⟨_, rfl, ⟨?_, fun i p hp => ?_⟩, ⟨fun j a => ?_, fun _ _ => rfl, fun j a b => ?_, rfl⟩, rfl⟩
    · unfold sUp
      rw [eAt, if_pos c0, hq]
      show _ = nI ((M.set k q).take (M.length - 1)).length
      rw [List.length_take, List.length_set, Nat.min_eq_left (by omega)]
      exact e63
    · unfold sUp at hp
      rw [eAt, if_pos c0, hq] at hp
      have hp : ((M.set k q).take (M.length - 1))[i]? = some p := hp
      have hi : i < M.length - 1 := by
        by_cases z : i < M.length - 1
        · exact z
        · rw [List.getElem?_eq_none (by rw [List.length_take, List.length_set]; omega)] at hp; cases hp
      rw [List.getElem?_take_of_lt hi, List.getElem?_set] at hp
      have r40 : ∀ (υ : zSt) (r r' : Nat → Int32), (zA (zA υ 40 r) 41 r').2.2.1 40 = r := fun υ r r' => by rw [zAn _ _ (by decide), zAe]
      have r41 : ∀ (υ : zSt) (r : Nat → Int32), (zA υ 41 r).2.2.1 41 = r := fun υ r => zAe _ _ _
      rw [r40, r41]
      have s40 : (zI (zA τ 41 (upd (τ.2.2.1 41) k (c + v))) 63 ((zA τ 41 (upd (τ.2.2.1 41) k (c + v))).1 63 - 1)).2.2.1 40 = τ.2.2.1 40 := zAn _ _ (by decide)
      have s41 : ∀ r, (zA (zI (zA τ 41 (upd (τ.2.2.1 41) k (c + v))) 63 ((zA τ 41 (upd (τ.2.2.1 41) k (c + v))).1 63 - 1)) 40 r).2.2.1 41 = upd (τ.2.2.1 41) k (c + v) := fun r => by
        rw [zAn _ _ (by decide)]
        exact zAe _ _ _
      rw [s40, s41]
      by_cases e : k = i
      · rw [if_pos e, if_pos (by omega)] at hp
        have hpe := Option.some.inj hp
        subst e
        rw [← hpe, upd_at, upd_at, upd_ne _ _ (by omega)]
        exact ⟨l1, l2⟩
      · rw [if_neg e] at hp
        rw [upd_ne _ _ (fun z => e z.symm), upd_ne _ _ (fun z => e z.symm), upd_ne _ _ (fun z => e z.symm)]
        exact h.2 i p hp
    · exact zIn _ _ a
    · rw [zAn _ _ b, zAn _ _ a]
      exact zAn _ _ b
  · rw [if_neg c0]
    refine ⟨_, rfl, ⟨?_, fun i p hp => ?_⟩, ⟨fun j a => rfl, fun _ _ => rfl, fun j a b => zAn _ _ b, rfl⟩, rfl⟩
    · unfold sUp
      rw [eAt, if_neg c0, List.length_set]
      exact h.1
    · unfold sUp at hp
      rw [eAt, if_neg c0, List.getElem?_set] at hp
      rw [zAe, zAn _ _ (by decide)]
      by_cases e : k = i
      · rw [if_pos e, if_pos hkl] at hp
        have hpe := Option.some.inj hp
        subst e
        rw [← hpe, upd_at]
        exact ⟨q1, rfl⟩
      · rw [if_neg e] at hp
        rw [upd_ne _ _ (fun z => e z.symm)]
        exact h.2 i p hp
/-- addName(name, times) -/
theorem r_addName {d : Nat} {v : Int32} (hT : 50 ≤ T) (h : rLn τ M) (hl : M.length < 39) (hq : ∀ q, q ∈ M → q.1 < 2 ^ 31) (hd : d < 2 ^ 31) : ∃ τ', zF h0 qs ks T (n + 1) 54 [.ref h0, .int (nI d), .int v] τ = some (none, τ') ∧ rLn τ' (sAdd M d v) ∧ gFm τ τ' ∧ τ'.2.1 = τ.2.1 := by
  have six := sIx_le d M
  have lp : ∀ (f k : Nat), k ≤ sIx M d → sIx M d - k < f → l_addName_2 T (zF h0 qs ks T n) h0 qs ks f (nI d) v (nI k) τ = j_addName_26 T (zF h0 qs ks T n) h0 qs ks (nI d) v (nI (sIx M d)) τ := fun f => by
    induction f with
    | zero => intro k _ hf; omega
    | succ f IH =>
      intro k hk hf
      rw [l_addName_2, h.1]
      by_cases e : k = sIx M d
      · by_cases e2 : sIx M d = M.length
        · rw [if_pos (by rw [e, e2]; exact nI_le (Nat.le_refl _) (by omega)), e]
        · obtain ⟨c, hc⟩ := sIx_eq d M (by omega)
          obtain ⟨q1, -⟩ := h.2 _ _ hc
          rw [if_neg (nI_ge (by omega) (by omega))]
          simp only [zgd, zin_n (show k < 40 by omega) (by decide), if_true, nI_clamp (show k < 2 ^ 31 by omega)]
          rw [e, if_pos q1]
      · rw [if_neg (nI_ge (by omega) (by omega))]
        have hkl : k < M.length := by omega
        have hk' := List.getElem?_eq_getElem hkl
        obtain ⟨q1, -⟩ := h.2 k _ hk'
        simp only [zgd, zin_n (show k < 40 by omega) (by decide), if_true, nI_clamp (show k < 2 ^ 31 by omega)]
        rw [if_neg (fun z => sIx_lt d M k _ (by omega) hk' (nI_inj' (hq _ (List.getElem_mem hkl)) hd (q1.symm.trans z))), nI_p1]
        exact IH (k + 1) (by omega) (by omega)
  rw [zE_addName]
  unfold b_addName
  rw [show (0 : Int32) = nI 0 from rfl, lp T 0 (Nat.zero_le _) (by omega)]
  unfold j_addName_26
  obtain ⟨c, hc⟩ := sL1_at M d
  unfold sAdd
  by_cases e : sIx M d = M.length
  · rw [h.1, if_pos (by rw [e])]
    have zk : zin (nI (sIx M d)) 40 = true := zin_n (by omega) (by decide)
    simp only [zgd, zk, if_true, nI_clamp (show sIx M d < 2 ^ 31 by omega), zlet]
    have L1 : rLn (zI (zA (zA τ 40 (upd (τ.2.2.1 40) (sIx M d) (nI d))) 41 (upd ((zA τ 40 (upd (τ.2.2.1 40) (sIx M d) (nI d))).2.2.1 41) (sIx M d) 0)) 63 ((zA (zA τ 40 (upd (τ.2.2.1 40) (sIx M d) (nI d))) 41 (upd ((zA τ 40 (upd (τ.2.2.1 40) (sIx M d) (nI d))).2.2.1 41) (sIx M d) 0)).1 63 + 1)) (sL1 M d) := by
      unfold sL1
      rw [if_pos e]
      refine ⟨?_, fun i q hi => ?_⟩
      · rw [zIe, List.length_append]
        show τ.1 63 + 1 = nI (M.length + 1)
        rw [h.1, nI_p1]
      · show (zA (zA τ 40 _) 41 _).2.2.1 40 i = _ ∧ (zA (zA τ 40 _) 41 _).2.2.1 41 i = _
        rw [zAe, zAn _ _ (show 40 ≠ 41 by decide), zAe, zAn _ _ (show 41 ≠ 40 by decide)]
        by_cases z : i < M.length
        · rw [List.getElem?_append_left z] at hi
          rw [upd_ne _ _ (by omega), upd_ne _ _ (by omega)]
          exact h.2 i q hi
        · have z2 : i = M.length := by
            by_cases y : i = M.length
            · exact y
            · rw [List.getElem?_eq_none (by rw [List.length_append]; show M.length + 1 ≤ i; omega)] at hi; cases hi
          rw [z2, List.getElem?_append_right (Nat.le_refl _), Nat.sub_self] at hi
          have hi : some (d, (0 : Int32)) = some q := hi
          injection hi with hi
          rw [z2, ← hi, ← e, upd_at, upd_at]
          exact ⟨rfl, rfl⟩
    obtain ⟨τ', a1, a2, a3, a4⟩ := r_an58 (T := T) (call := zF h0 qs ks T n) (h0 := h0) (qs := qs) (ks := ks) (v := v) L1 (by unfold sL1; rw [if_pos e, List.length_append]; show M.length + 1 ≤ 40; omega) hc
    refine ⟨τ', a1, a2, gFm.tr ?_ a3, a4⟩
    refine ⟨fun k a => zIn _ _ a, fun _ _ => rfl, fun k a b => ?_, rfl⟩
    show (zA (zA τ 40 _) 41 _).2.2.1 k = _
    rw [zAn _ _ b, zAn _ _ a]
  · rw [h.1, if_neg (fun z => e (nI_inj' (by omega) (by omega) z))]
    have es : sL1 M d = M := by unfold sL1; rw [if_neg e]
    rw [es] at hc ⊢
    exact r_an58 h (by omega) hc
end RLN
