/-! the class's Sum: addAll, isFact, isTerm -/
/-- addAll(other, v) -/
def sAll (v : Int32) (L' L : List (Nat × Int32)) : List (Nat × Int32) := L'.foldl (fun L x => sAdd L x.1 (v * x.2)) L
def jAbs (v : Int32) : Int32 := if 0 ≤ v then v else 0 - v
def sFa (L : List (Nat × Int32)) : Bool := if L.length = 2 then decide (jAbs (sAt L 0) = 1) && decide (jAbs (sAt L 1) = 1) else L.length == 0 || (L.length == 1 && decide (¬ 2 < jAbs (sAt L 0)))
def sTe (L : List (Nat × Int32)) : Bool := L.length == 0 || (L.length == 1 && decide (jAbs (sAt L 0) = 1))
section CSB
variable {κ : oKv} {T n m x na ta cap y na2 ta2 cap2 : Nat} {σ : oSt} {L L' : List (Nat × Int32)} {pl pl' : Int64} {v : Int32}
theorem cSm.tm (h : cSm σ x na ta cap L pl) {k : Nat} (hk : k < L.length) : ofd σ (some x) 11 1 = some (.ref ta) ∧ oai σ (some ta) .int (nI k) = some (sAt L k) := by
  obtain ⟨g, h', h1, h2, h3, h4, h5⟩ := h
  refine ⟨by rw [ofd_at h1]; rfl, ?_⟩
  rw [oai_at h3 (zin_n (show k < cap by omega) (show cap < 2 ^ 31 by omega)), nI_clamp (show k < 2 ^ 31 by omega)]
  obtain ⟨q1, q2, -⟩ := h5 k (L[k]).1 (L[k]).2 (List.getElem?_eq_getElem hk)
  rw [q2]
  unfold sAt
  rw [List.getElem?_eq_getElem hk]
theorem cSm.nm (h : cSm σ x na ta cap L pl) {k : Nat} (hk : k < L.length) : ofd σ (some x) 11 0 = some (.ref na) ∧ oar σ (some na) (nI k) = some (some (L[k]).1) ∧ ∃ fs, σ.1 (L[k]).1 = some (.inr (6, fs)) := by
  obtain ⟨g, h', h1, h2, h3, h4, h5⟩ := h
  obtain ⟨q1, q2, q3⟩ := h5 k (L[k]).1 (L[k]).2 (List.getElem?_eq_getElem hk)
  exact ⟨by rw [ofd_at h1]; rfl, by simp only [oar, h2, zin_n (show k < cap by omega) (show cap < 2 ^ 31 by omega), if_true, nI_clamp (show k < 2 ^ 31 by omega), q1], q3⟩
theorem cSm.cn (h : cSm σ x na ta cap L pl) : ofd σ (some x) 11 2 = some (.int (nI L.length)) ∧ ofd σ (some x) 11 3 = some (.long pl) ∧ L.length ≤ 4096 := by
  obtain ⟨g, h', h1, h2, h3, h4, h5⟩ := h
  exact ⟨by rw [ofd_at h1]; rfl, by rw [ofd_at h1]; rfl, by omega⟩
/-- isFact() -/
theorem x_fact (h : cSm σ x na ta cap L pl) : oF κ T (n + 1) 38 [va_rf (some x)] σ = some (some (.int (if sFa L = true then 1 else 0)), σ) := by
  obtain ⟨c1, -, c3⟩ := h.cn
  rw [oE_X9_isFact]
  unfold ob_X9_isFact oj_X9_isFact_68 sFa
  rw [c1, ovi_in, obn_at, obn_at, obn_at]
  by_cases e2 : L.length = 2
  · obtain ⟨t1, t2⟩ := h.tm (k := 0) (by omega)
    obtain ⟨-, t3⟩ := h.tm (k := 1) (by omega)
    have t2' : oai σ (some ta) .int 0 = some (sAt L 0) := t2
    have t3' : oai σ (some ta) .int 1 = some (sAt L 1) := t3
    rw [if_pos (show nI L.length = 2 by rw [e2]; rfl), if_pos e2, t1, ovr_rf, obn_at, obn_at, t2', obn_at, t3', obn_at]
    show (if jAbs (sAt L 0) = 1 then if jAbs (sAt L 1) = 1 then _ else _ else _) = _
    by_cases a : jAbs (sAt L 0) = 1
    · by_cases b : jAbs (sAt L 1) = 1
      · rw [if_pos a, if_pos b, decide_eq_true a, decide_eq_true b]; rfl
      · rw [if_pos a, if_neg b, decide_eq_true a, decide_eq_false b]; rfl
    · rw [if_neg a, decide_eq_false a]; rfl
  · rw [if_neg (show ¬ nI L.length = 2 from fun z => e2 (nI_inj' (b := 2) (by omega) (by omega) z)), if_neg e2]
    by_cases e0 : L.length = 0
    · rw [if_pos (show nI L.length = 0 by rw [e0]; rfl), e0]; rfl
    · rw [if_neg (show ¬ nI L.length = 0 from fun z => e0 (nI_inj' (b := 0) (by omega) (by omega) z))]
      have b0 : (L.length == 0) = false := by simp [e0]
      by_cases e1 : L.length = 1
      · obtain ⟨t1, t2⟩ := h.tm (k := 0) (by omega)
        have t2' : oai σ (some ta) .int 0 = some (sAt L 0) := t2
        rw [if_pos (show nI L.length = 1 by rw [e1]; rfl), t1, ovr_rf, obn_at, t2', obn_at, e1]
        show (if 2 < jAbs (sAt L 0) then _ else _) = _
        by_cases a : 2 < jAbs (sAt L 0)
        · rw [if_pos a, decide_eq_false (fun z => z a)]; rfl
        · rw [if_neg a, decide_eq_true a]; rfl
      · have b1 : (L.length == 1) = false := by simp [e1]
        rw [if_neg (show ¬ nI L.length = 1 from fun z => e1 (nI_inj' (b := 1) (by omega) (by omega) z)), b0, b1]
        rfl
/-- isTerm() -/
theorem x_term (h : cSm σ x na ta cap L pl) : oF κ T (n + 1) 14 [va_rf (some x)] σ = some (some (.int (if sTe L = true then 1 else 0)), σ) := by
  obtain ⟨c1, -, c3⟩ := h.cn
  rw [oE_X9_isTerm]
  unfold ob_X9_isTerm oj_X9_isTerm_28 sTe
  rw [c1, ovi_in, obn_at, obn_at]
  by_cases e0 : L.length = 0
  · rw [if_pos (show nI L.length = 0 by rw [e0]; rfl), e0]; rfl
  · rw [if_neg (show ¬ nI L.length = 0 from fun z => e0 (nI_inj' (b := 0) (by omega) (by omega) z))]
    have b0 : (L.length == 0) = false := by simp [e0]
    by_cases e1 : L.length = 1
    · obtain ⟨t1, t2⟩ := h.tm (k := 0) (by omega)
      have t2' : oai σ (some ta) .int 0 = some (sAt L 0) := t2
      rw [if_pos (show nI L.length = 1 by rw [e1]; rfl), t1, ovr_rf, obn_at, t2', obn_at, e1]
      show (if jAbs (sAt L 0) = 1 then _ else _) = _
      by_cases a : jAbs (sAt L 0) = 1
      · rw [if_pos a, decide_eq_true a]; rfl
      · rw [if_neg a, decide_eq_false a]; rfl
    · have b1 : (L.length == 1) = false := by simp [e1]
      rw [if_neg (show ¬ nI L.length = 1 from fun z => e1 (nI_inj' (b := 1) (by omega) (by omega) z)), b0, b1]
      rfl
/-- the loop of addAll -/
theorem x_alp (hT : 2010 ≤ T) (hv : cSm σ y na2 ta2 cap2 L' pl') : ∀ (t i : Nat) (σ1 : oSt) (na ta cap : Nat) (L : List (Nat × Int32)), cSm σ1 x na ta cap L pl → cSm σ1 y na2 ta2 cap2 L' pl' → (x ≠ y ∧ na ≠ na2 ∧ ta ≠ ta2) → (∀ q, σ1.2.1 ≤ q → σ1.1 q = none) → i ≤ L'.length → L'.length < i + t → L.length + (L'.length - i) ≤ 2001 → ∃ σ' na' ta' cap', ol_X9_addAll_2 T (oF κ T (n + 3)) κ t (some x) (some y) v (nI i) σ1 = some (none, σ') ∧ cSm σ' x na' ta' cap' (sAll v (L'.drop i) L) (pl + v.toInt64 * pl') ∧ (∀ a, a < σ1.2.1 → a ≠ x → a ≠ na → a ≠ ta → σ'.1 a = σ1.1 a) ∧ (∀ q, σ'.2.1 ≤ q → σ'.1 q = none) ∧ σ1.2.1 ≤ σ'.2.1 ∧ ((na' = na ∨ (σ1.2.1 ≤ na' ∧ na' < σ'.2.1)) ∧ (ta' = ta ∨ (σ1.2.1 ≤ ta' ∧ ta' < σ'.2.1))) ∧ (σ'.2.2.1 ≤ σ1.2.2.1 + 2 * (L'.length - i) ∧ σ'.2.2.2 + 4 * cap ≤ σ1.2.2.2 + 4 * cap' ∧ (cap' ≤ cap ∨ cap' ≤ 2 * (L.length + (L'.length - i)))) := by
  intro t
  induction t with
  | zero => intro i σ1 na ta cap L h1 h2 h3 h4 h5 h6 h7; omega
  | succ t IH =>
    intro i σ1 na ta cap L h1 h2 h3 h4 h5 h6 h7
    obtain ⟨c1, c2, c3⟩ := h2.cn
    rw [ol_X9_addAll_2, c1, ovi_in, obn_at]
    by_cases c : i < L'.length
    · rw [if_neg (nI_ge c (by omega))]
      obtain ⟨n1, n2, fs, n3⟩ := h2.nm c
      obtain ⟨t1, t2⟩ := h2.tm c
      have ox : oob σ1 (some x) 11 = some x := by obtain ⟨_, _, w, -⟩ := h1; exact oob_at w
      rw [n1, ovr_rf, obn_at, n2, obn_at, t1, ovr_rf, obn_at, t2, obn_at, ox, obn_at]
      obtain ⟨σ2, na', ta', cap', a1, a2, a3, a4, a5⟩ := x_add (κ := κ) (T := T) (n := n) (v := v * sAt L' i) h1 (by omega) n3 h4 hT
      rw [a1, ocv_at, nI_1]
      obtain ⟨g2, h2', w1, w2, w3, w4, w5⟩ := h2
      obtain ⟨g1, h1', u1, u2, u3, u4, u5⟩ := h1
      have ly := alt h4 w1
      have lna := alt h4 w2
      have lta := alt h4 w3
      have lx := alt h4 u1
      have lnx := alt h4 u2
      have ltx := alt h4 u3
      have ny : na2 ≠ ta := fun z => by rw [z, u3] at w2; cases w2
      have ty : ta2 ≠ na := fun z => by rw [z, u2] at w3; cases w3
      have y1 : y ≠ na := fun z => by rw [z, u2] at w1; cases w1
      have y2 : y ≠ ta := fun z => by rw [z, u3] at w1; cases w1
      have x1 : na2 ≠ x := fun z => by rw [z, u1] at w2; cases w2
      have x2 : ta2 ≠ x := fun z => by rw [z, u1] at w3; cases w3
      have hv2 : cSm σ2 y na2 ta2 cap2 L' pl' := by
        refine ⟨g2, h2', ?_, ?_, ?_, w4, fun k b d ek => ?_⟩
        · rw [a3 y ly (Ne.symm h3.1) y1 y2]; exact w1
        · rw [a3 na2 lna x1 (Ne.symm h3.2.1) ny]; exact w2
        · rw [a3 ta2 lta x2 ty (Ne.symm h3.2.2)]; exact w3
        · obtain ⟨z1, z2, fs', z3⟩ := w5 k b d ek
          refine ⟨z1, z2, fs', ?_⟩
          rw [a3 b (alt h4 z3) (fun z => by rw [z, u1] at z3; cases z3) (fun z => by rw [z, u2] at z3; cases z3) (fun z => by rw [z, u3] at z3; cases z3)]
          exact z3
      have hle : σ1.2.1 ≤ σ2.2.1 := by
        rcases a5 with ⟨-, -, -, z⟩ | ⟨-, -, -, -, z⟩
        · rw [z]; exact Nat.le_refl _
        · rw [z]; exact Nat.le_add_right _ _
      have hlen := sAdd_len L (L'[i]).1 (v * sAt L' i)
      obtain ⟨σ', na3, ta3, cap3, b1, b2, b3, b4, b5, ⟨b6, b6b⟩, b7, b8, b9⟩ := IH (i + 1) σ2 na' ta' cap' (sAdd L (L'[i]).1 (v * sAt L' i)) a2 hv2 ⟨h3.1, by
          rcases a5 with ⟨z1, z2, -⟩ | ⟨z1, z2, -⟩
          · rw [z1]; exact h3.2.1
          · omega, by
          rcases a5 with ⟨z1, z2, -⟩ | ⟨z1, z2, -⟩
          · rw [z2]; exact h3.2.2
          · omega⟩ a4 (by omega) (by omega) (by omega)
      have ed : L'.drop i = (L'[i]) :: L'.drop (i + 1) := List.drop_eq_getElem_cons c
      have eA : sAt L' i = (L'[i]).2 := by unfold sAt; rw [List.getElem?_eq_getElem c]
      refine ⟨σ', na3, ta3, cap3, b1, ?_, fun a l1 l2 l3 l4 => ?_, b4, by omega, ⟨?_, ?_⟩, ?_, ?_, ?_⟩
      · have : sAll v (L'.drop i) L = sAll v (L'.drop (i + 1)) (sAdd L (L'[i]).1 (v * sAt L' i)) := by rw [ed, eA]; rfl
        rw [this]; exact b2
      · rw [b3 a (by omega) l2 ?_ ?_]
        · exact a3 a l1 l2 l3 l4
        · rcases a5 with ⟨z1, z2, -⟩ | ⟨z1, z2, -⟩ <;> omega
        · rcases a5 with ⟨z1, z2, -⟩ | ⟨z1, z2, -⟩ <;> omega
      · rcases a5 with ⟨z1, z2, -, -⟩ | ⟨z1, z2, -, -, z3⟩
        · rcases b6 with z | z
          · left; omega
          · right; omega
        · have z31 : σ2.2.1 = σ1.2.1 + 2 := by rw [z3]
          right
          rcases b6 with z | z <;> omega
      · rcases a5 with ⟨z1, z2, -, -⟩ | ⟨z1, z2, -, -, z3⟩
        · rcases b6b with z | z
          · left; omega
          · right; omega
        · have z31 : σ2.2.1 = σ1.2.1 + 2 := by rw [z3]
          right
          rcases b6b with z | z <;> omega
      · rcases a5 with ⟨-, -, -, z3⟩ | ⟨-, -, -, -, z3⟩
        · rw [z3] at b7; omega
        · rw [z3] at b7
          have b7' : σ'.2.2.1 ≤ σ1.2.2.1 + 2 + 2 * (L'.length - (i + 1)) := b7
          omega
      · rcases a5 with ⟨-, -, z1, z3⟩ | ⟨-, -, z1, z2, z3⟩
        · rw [z3] at b8; omega
        · rw [z3] at b8
          have b8' : σ'.2.2.2 + 4 * cap' ≤ σ1.2.2.2 + 4 * cap + 4 * cap3 := b8
          omega
      · rcases a5 with ⟨-, -, z1, z3⟩ | ⟨-, -, z1, z2, z3⟩
        · rcases b9 with z | z
          · left; omega
          · right; omega
        · right
          rcases b9 with z | z
          · omega
          · omega
    · rw [if_pos (nI_le (by omega) (by omega))]
      obtain ⟨d1, d2, d3⟩ := h1.cn
      rw [d2, ovl_lg, obn_at, c2, ovl_lg, obn_at]
      obtain ⟨g1, h1', u1, u2, u3, u4, u5⟩ := h1
      rw [opf_at u1 (show 3 < 4 by decide), obn_at]
      have ed : L'.drop i = [] := List.drop_eq_nil_of_le (by omega)
      have lx := alt h4 u1
      refine ⟨_, na, ta, cap, rfl, ⟨g1, h1', ?_, ?_, ?_, ?_, fun k b d ek => ?_⟩, fun a l1 l2 l3 l4 => oput_ne l2, fun q hq => ?_, Nat.le_refl _, ⟨Or.inl rfl, Or.inl rfl⟩, ?_, Nat.le_refl _, Or.inl (Nat.le_refl _)⟩
      · rw [oput_eq, ed]; rfl
      · rw [oput_ne (fun z => by rw [z, u1] at u2; cases u2)]; exact u2
      · rw [oput_ne (fun z => by rw [z, u1] at u3; cases u3)]; exact u3
      · rw [ed]; exact u4
      · rw [ed] at ek
        obtain ⟨z1, z2, fs, z3⟩ := u5 k b d ek
        exact ⟨z1, z2, fs, by rw [oput_ne (fun z => by rw [z, u1] at z3; cases z3)]; exact z3⟩
      · rw [oput_ne (by have hq' : σ1.2.1 ≤ q := hq; omega)]; exact h4 q hq
      · exact Nat.le_add_right _ _
/-- addAll(other, v) -/
theorem x_all (hT : 2010 ≤ T) (h1 : cSm σ x na ta cap L pl) (h2 : cSm σ y na2 ta2 cap2 L' pl') (h3 : x ≠ y ∧ na ≠ na2 ∧ ta ≠ ta2) (h4 : ∀ q, σ.2.1 ≤ q → σ.1 q = none) (h5 : L.length + L'.length ≤ 2001) : ∃ σ' na' ta' cap', oF κ T (n + 4) 124 [va_rf (some x), va_rf (some y), .int v] σ = some (none, σ') ∧ cSm σ' x na' ta' cap' (sAll v L' L) (pl + v.toInt64 * pl') ∧ (∀ a, a < σ.2.1 → a ≠ x → a ≠ na → a ≠ ta → σ'.1 a = σ.1 a) ∧ (∀ q, σ'.2.1 ≤ q → σ'.1 q = none) ∧ σ.2.1 ≤ σ'.2.1 ∧ ((na' = na ∨ (σ.2.1 ≤ na' ∧ na' < σ'.2.1)) ∧ (ta' = ta ∨ (σ.2.1 ≤ ta' ∧ ta' < σ'.2.1))) ∧ (σ'.2.2.1 ≤ σ.2.2.1 + 2 * L'.length ∧ σ'.2.2.2 + 4 * cap ≤ σ.2.2.2 + 4 * cap' ∧ (cap' ≤ cap ∨ cap' ≤ 2 * (L.length + L'.length))) := by
  rw [oE_X9_addAll]
  unfold ob_X9_addAll
  have c3 := h2.cn.2.2
  by_cases c : L'.length < T
  · obtain ⟨σ', na', ta', cap', a⟩ := x_alp (κ := κ) (T := T) (n := n) (v := v) hT h2 T 0 σ na ta cap L h1 h2 h3 h4 (Nat.zero_le _) (by omega) (by omega)
    exact ⟨σ', na', ta', cap', a⟩
  · omega
end CSB
