/-! the class's Sum: add -/
/-- where a name stands among the others, or behind them -/
def sIx : List (Nat × Int32) → Nat → Nat
  | [], _ => 0
  | q :: L, b => if q.1 = b then 0 else sIx L b + 1
theorem sIx_le (b : Nat) : ∀ L, sIx L b ≤ L.length
  | [] => Nat.le_refl _
  | q :: L => by
    rw [sIx, List.length_cons]
    have := sIx_le b L
    split <;> omega
theorem sIx_lt (b : Nat) : ∀ L (j : Nat) (q : Nat × Int32), j < sIx L b → L[j]? = some q → q.1 ≠ b
  | [], j, q, h, e => by cases e
  | p :: L, j, q, h, e => by
    rw [sIx] at h
    by_cases c : p.1 = b
    · rw [if_pos c] at h; omega
    · rw [if_neg c] at h
      cases j with
      | zero => cases e; exact c
      | succ j => exact sIx_lt b L j q (by omega) e
theorem sIx_eq (b : Nat) : ∀ L, sIx L b < L.length → ∃ c, L[sIx L b]? = some (b, c)
  | [], h => by cases h
  | p :: L, h => by
    rw [sIx] at h ⊢
    by_cases c : p.1 = b
    · rw [if_pos c]
      exact ⟨p.2, by rw [List.getElem?_cons_zero, ← c]⟩
    · rw [if_neg c] at h ⊢
      rw [List.length_cons] at h
      obtain ⟨d, hd⟩ := sIx_eq b L (by omega)
      exact ⟨d, by rw [List.getElem?_cons_succ]; exact hd⟩
/-- the list with the name in it -/
def sL1 (L : List (Nat × Int32)) (b : Nat) : List (Nat × Int32) := if sIx L b = L.length then L ++ [(b, 0)] else L
/-- how often place k stands -/
def sAt (L : List (Nat × Int32)) (k : Nat) : Int32 := match L[k]? with
  | some q => q.2
  | none => 0
/-- place k changed by v; without it if it is 0 then -/
def sUp (L : List (Nat × Int32)) (b k : Nat) (v : Int32) : List (Nat × Int32) := if sAt L k + v = 0 then (match L[L.length - 1]? with
  | some q => (L.set k q).take (L.length - 1)
  | none => L) else L.set k (b, sAt L k + v)
/-- add(name, v) -/
def sAdd (L : List (Nat × Int32)) (b : Nat) (v : Int32) : List (Nat × Int32) := sUp (sL1 L b) b (sIx L b) v
section CSA
variable {κ : oKv} {T n x na ta cap b k : Nat} {σ : oSt} {L : List (Nat × Int32)} {pl : Int64} {fs : List Value} {v : Int32}
set_option maxHeartbeats 1000000 in
/-- the change at a place -/
theorem x_44 {m : Nat} (h : cSm σ x na ta cap L pl) (hk : ∃ c, L[k]? = some (b, c)) : ∃ σ', oj_X9_add_44 T (oF κ T m) κ (some x) v (nI k) σ = some (none, σ') ∧ cSm σ' x na ta cap (sUp L b k v) pl ∧ (∀ a, a ≠ x → a ≠ na → a ≠ ta → σ'.1 a = σ.1 a) ∧ σ'.2 = σ.2 := by
  obtain ⟨g, h', h1, h2, h3, ⟨h4, h4b, h4c⟩, h5⟩ := h
  obtain ⟨c, hc⟩ := hk
  have hkl : k < L.length := by
    by_cases q : k < L.length
    · exact q
    · rw [List.getElem?_eq_none (by omega)] at hc; cases hc
  have d1 : x ≠ na := fun e => by rw [e, h2] at h1; cases h1
  have d2 : x ≠ ta := fun e => by rw [e, h3] at h1; cases h1
  have d3 : na ≠ ta := fun e => by rw [e, h3] at h2; cases h2
  obtain ⟨q1, q2, fs', q3⟩ := h5 k b c hc
  have z1 : zin (nI k) cap = true := zin_n (by omega) (by omega)
  have ck : (nI k).toNatClampNeg = k := nI_clamp (by omega)
  have eAt : sAt L k = c := by unfold sAt; rw [hc]
  have f1 : ofd σ (some x) 11 1 = some (.ref ta) := by rw [ofd_at h1]; rfl
  unfold oj_X9_add_44
  simp only [f1, ovr, obn, oai_at h3 z1, ck, q2, osi_at h3 z1]
  have k1 : (oput σ ta (.inl (.int, cap, .inl (upd h' k (c + v))))).1 x = some (.inr (11, [.ref na, .ref ta, .int (nI L.length), .long pl])) := by rw [oput_ne d2]; exact h1
  have k2 : (oput σ ta (.inl (.int, cap, .inl (upd h' k (c + v))))).1 ta = some (.inl (.int, cap, .inl (upd h' k (c + v)))) := oput_eq _ _ _
  have k3 : ∀ a, a ≠ ta → (oput σ ta (.inl (.int, cap, .inl (upd h' k (c + v))))).1 a = σ.1 a := fun a ha => oput_ne ha
  have k4 : (oput σ ta (.inl (.int, cap, .inl (upd h' k (c + v))))).2 = σ.2 := rfl
  generalize oput σ ta (.inl (.int, cap, .inl (upd h' k (c + v)))) = σ1 at k1 k2 k3 k4 ⊢
  have f1 : ofd σ1 (some x) 11 1 = some (.ref ta) := by rw [ofd_at k1]; rfl
  simp only [f1, ovr, oai_at k2 z1, ck, upd_at]
  by_cases c0 : c + v = 0
  · rw [if_pos c0]
    obtain ⟨ql, hql⟩ : ∃ q, L[L.length - 1]? = some q := ⟨_, List.getElem?_eq_getElem (by omega)⟩
    have eU : sUp L b k v = (L.set k ql).take (L.length - 1) := by unfold sUp; rw [eAt, if_pos c0, hql]
    obtain ⟨l1, l2, fsl, l3⟩ := h5 (L.length - 1) ql.1 ql.2 hql
    have ew : nI L.length - 1 = nI (L.length - 1) := nI_sub' (b := 1) (by omega)
    have f2 : ofd σ1 (some x) 11 2 = some (.int (nI L.length)) := by rw [ofd_at k1]; rfl
    simp only [f2, ovi, obn, ew, opf_at k1 (show 2 < 4 by decide), List.set_cons_zero, List.set_cons_succ]
    have z2 : zin (nI (L.length - 1)) cap = true := zin_n (by omega) (by omega)
    have cl : (nI (L.length - 1)).toNatClampNeg = L.length - 1 := nI_clamp (by omega)
    have p1 : (oput σ1 x (.inr (11, [.ref na, .ref ta, .int (nI (L.length - 1)), .long pl]))).1 x = some (.inr (11, [.ref na, .ref ta, .int (nI (L.length - 1)), .long pl])) := oput_eq _ _ _
    have p2 : (oput σ1 x (.inr (11, [.ref na, .ref ta, .int (nI (L.length - 1)), .long pl]))).1 na = some (.inl (.object "LiquidTongue$Name", cap, .inr (.inr (.inr (.inr g))))) := by rw [oput_ne (Ne.symm d1), k3 na d3]; exact h2
    have p3 : (oput σ1 x (.inr (11, [.ref na, .ref ta, .int (nI (L.length - 1)), .long pl]))).1 ta = some (.inl (.int, cap, .inl (upd h' k (c + v)))) := by rw [oput_ne (Ne.symm d2)]; exact k2
    have p4 : ∀ a, a ≠ x → a ≠ ta → (oput σ1 x (.inr (11, [.ref na, .ref ta, .int (nI (L.length - 1)), .long pl]))).1 a = σ.1 a := fun a a1 a2 => by rw [oput_ne a1]; exact k3 a a2
    have p5 : (oput σ1 x (.inr (11, [.ref na, .ref ta, .int (nI (L.length - 1)), .long pl]))).2 = σ.2 := k4
    generalize oput σ1 x (.inr (11, [.ref na, .ref ta, .int (nI (L.length - 1)), .long pl])) = σ2 at p1 p2 p3 p4 p5 ⊢
    have f0 : ofd σ2 (some x) 11 0 = some (.ref na) := by rw [ofd_at p1]; rfl
    have f2 : ofd σ2 (some x) 11 2 = some (.int (nI (L.length - 1))) := by rw [ofd_at p1]; rfl
    have er : oar σ2 (some na) (nI (L.length - 1)) = some (some ql.1) := by simp only [oar, p2, z2, if_true, cl, l1]
    have hql2 : σ2.1 ql.1 = some (.inr (6, fsl)) := by rw [p4 _ (fun e => by rw [e, h1] at l3; cases l3) (fun e => by rw [e, h3] at l3; cases l3)]; exact l3
    have es : osr σ2 (some na) (nI k) (some ql.1) = some (oput σ2 na (.inl (.object "LiquidTongue$Name", cap, .inr (.inr (.inr (.inr (va_up g k (some ql.1)))))))) := by
      simp only [osr, p2, z1, if_true, hql2, ofits_n, ck]
    simp only [f0, f2, ovr, ovi, obn, er, es]
    have w1 : (oput σ2 na (.inl (.object "LiquidTongue$Name", cap, .inr (.inr (.inr (.inr (va_up g k (some ql.1)))))))).1 x = some (.inr (11, [.ref na, .ref ta, .int (nI (L.length - 1)), .long pl])) := by rw [oput_ne d1]; exact p1
    have w2 : (oput σ2 na (.inl (.object "LiquidTongue$Name", cap, .inr (.inr (.inr (.inr (va_up g k (some ql.1)))))))).1 ta = some (.inl (.int, cap, .inl (upd h' k (c + v)))) := by rw [oput_ne (Ne.symm d3)]; exact p3
    have f1 : ofd (oput σ2 na (.inl (.object "LiquidTongue$Name", cap, .inr (.inr (.inr (.inr (va_up g k (some ql.1)))))))) (some x) 11 1 = some (.ref ta) := by rw [ofd_at w1]; rfl
    have f2 : ofd (oput σ2 na (.inl (.object "LiquidTongue$Name", cap, .inr (.inr (.inr (.inr (va_up g k (some ql.1)))))))) (some x) 11 2 = some (.int (nI (L.length - 1))) := by rw [ofd_at w1]; rfl
    simp only [f1, f2, ovr, ovi, obn, oai_at w2 z2, osi_at w2 z1, cl, ck]
    rw [eU]
    refine ⟨_, rfl, ⟨va_up g k (some ql.1), upd (upd h' k (c + v)) k (upd h' k (c + v) (L.length - 1)), ?_, ?_, ?_, ?_, fun j b' c' e => ?_⟩, fun a a1 a2 a3 => ?_, p5⟩
    · rw [oput_ne d2, w1, List.length_take, List.length_set, Nat.min_eq_left (by omega)]
    · rw [oput_ne d3, oput_eq]
    · rw [oput_eq]
    · rw [List.length_take, List.length_set]; exact ⟨by omega, h4b, h4c⟩
    · have hj : j < L.length - 1 := by
        by_cases q : j < L.length - 1
        · exact q
        · rw [List.getElem?_eq_none (by rw [List.length_take, List.length_set]; omega)] at e; cases e
      rw [List.getElem?_take_of_lt hj] at e
      by_cases ej : j = k
      · subst ej
        rw [List.getElem?_set_self (by omega)] at e
        cases e
        refine ⟨by simp [va_up], ?_, fsl, ?_⟩
        · rw [upd_at, upd_ne _ _ (by omega)]; exact l2
        · rw [oput_ne (fun z => by rw [z, h3] at l3; cases l3), oput_ne (fun z => by rw [z, h2] at l3; cases l3)]
          exact hql2
      · rw [List.getElem?_set_ne (Ne.symm ej)] at e
        obtain ⟨r1, r2, fr, r3⟩ := h5 j b' c' e
        refine ⟨by simp [va_up, ej, r1], by rw [upd_ne _ _ ej, upd_ne _ _ ej]; exact r2, fr, ?_⟩
        rw [oput_ne (fun z => by rw [z, h3] at r3; cases r3), oput_ne (fun z => by rw [z, h2] at r3; cases r3), p4 _ (fun z => by rw [z, h1] at r3; cases r3) (fun z => by rw [z, h3] at r3; cases r3)]
        exact r3
    · rw [oput_ne a3, oput_ne a2, p4 a a1 a3]
  · rw [if_neg c0]
    have eU : sUp L b k v = L.set k (b, c + v) := by unfold sUp; rw [eAt, if_neg c0]
    rw [eU]
    refine ⟨σ1, rfl, ⟨g, upd h' k (c + v), ?_, ?_, k2, ?_, fun j b' c' e => ?_⟩, fun a a1 a2 a3 => k3 a a3, k4⟩
    · rw [List.length_set]; exact k1
    · rw [k3 na d3]; exact h2
    · rw [List.length_set]; exact ⟨h4, h4b, h4c⟩
    · by_cases ej : j = k
      · subst ej
        rw [List.getElem?_set_self hkl] at e
        cases e
        refine ⟨q1, upd_at _ _ _, fs', ?_⟩
        rw [k3 _ (fun z => by rw [z, h3] at q3; cases q3)]
        exact q3
      · rw [List.getElem?_set_ne (Ne.symm ej)] at e
        obtain ⟨r1, r2, fr, r3⟩ := h5 j b' c' e
        refine ⟨r1, by rw [upd_ne _ _ ej]; exact r2, fr, ?_⟩
        rw [k3 _ (fun z => by rw [z, h3] at r3; cases r3)]
        exact r3
/-- add(name, v) -/
theorem x_add (h : cSm σ x na ta cap L pl) (hl : L.length ≤ 2000) (hb : σ.1 b = some (.inr (6, fs))) (hfr : ∀ q, σ.2.1 ≤ q → σ.1 q = none) (hT : 2010 ≤ T) : ∃ σ' na' ta' cap', oF κ T (n + 3) 10 [va_rf (some x), va_rf (some b), .int v] σ = some (none, σ') ∧ cSm σ' x na' ta' cap' (sAdd L b v) pl ∧ (∀ a, a < σ.2.1 → a ≠ x → a ≠ na → a ≠ ta → σ'.1 a = σ.1 a) ∧ (∀ q, σ'.2.1 ≤ q → σ'.1 q = none) ∧ ((na' = na ∧ ta' = ta ∧ cap' = cap ∧ σ'.2 = σ.2) ∨ (na' = σ.2.1 ∧ ta' = σ.2.1 + 1 ∧ L.length = cap ∧ cap' = 2 * cap ∧ σ'.2 = (σ.2.1 + 2, σ.2.2.1 + 2, σ.2.2.2 + 4 * cap))) := by
  have hh := h
  obtain ⟨g, h', h1, h2, h3, h4, h5⟩ := h
  have f0 : ofd σ (some x) 11 0 = some (.ref na) := by rw [ofd_at h1]; rfl
  have f2 : ofd σ (some x) 11 2 = some (.int (nI L.length)) := by rw [ofd_at h1]; rfl
  have lx := alt hfr h1
  have ln := alt hfr h2
  have lta := alt hfr h3
  -- at its place
  have J31 : ∃ σ' na' ta' cap', oj_X9_add_31 T (oF κ T (n + 2)) κ (some x) (some b) v (nI (sIx L b)) σ = some (none, σ') ∧ cSm σ' x na' ta' cap' (sAdd L b v) pl ∧ (∀ a, a < σ.2.1 → a ≠ x → a ≠ na → a ≠ ta → σ'.1 a = σ.1 a) ∧ (∀ q, σ'.2.1 ≤ q → σ'.1 q = none) ∧ ((na' = na ∧ ta' = ta ∧ cap' = cap ∧ σ'.2 = σ.2) ∨ (na' = σ.2.1 ∧ ta' = σ.2.1 + 1 ∧ L.length = cap ∧ cap' = 2 * cap ∧ σ'.2 = (σ.2.1 + 2, σ.2.2.1 + 2, σ.2.2.2 + 4 * cap))) := by
    have hle := sIx_le b L
    unfold oj_X9_add_31
    simp only [f2, ovi, obn]
    by_cases e : sIx L b = L.length
    · rw [if_pos (by rw [e]), oob_at h1]
      simp only []
      obtain ⟨σ1, na', ta', cap', e1, e2, e3, e4, e5⟩ := x_append (κ := κ) (T := T) (n := n) hh hl hb hfr
      rw [e1, ocv_at]
      obtain ⟨σ2, y1, y2, y3, y4⟩ := x_44 (κ := κ) (T := T) (m := n + 2) (k := sIx L b) (b := b) (v := v) e2 ⟨0, by rw [e, List.getElem?_append_right (Nat.le_refl _), Nat.sub_self]; rfl⟩
      have eA : sAdd L b v = sUp (L ++ [(b, 0)]) b (sIx L b) v := by unfold sAdd sL1; rw [if_pos e]
      refine ⟨σ2, na', ta', cap', y1, by rw [eA]; exact y2, fun a a1 a2 a3 a4 => ?_, fun q hq => ?_, ?_⟩
      · rw [y3 a a2 ?_ ?_]
        · exact e3 a a1 a2 a3 a4
        · rcases e5 with ⟨q1, q2, -⟩ | ⟨q1, q2, -⟩ <;> omega
        · rcases e5 with ⟨q1, q2, -⟩ | ⟨q1, q2, -⟩ <;> omega
      · rw [y4] at hq
        have hq2 : σ.2.1 ≤ q := by
          rcases e5 with ⟨q1, q2, q3, q4⟩ | ⟨q1, q2, q3, q4, q5⟩
          · rw [q4] at hq; exact hq
          · rw [q5] at hq
            have : σ.2.1 + 2 ≤ q := hq
            omega
        rw [y3 q (by omega) ?_ ?_]
        · exact e4 q hq
        · rcases e5 with ⟨q1, q2, q3, q4⟩ | ⟨q1, q2, q3, q4, q5⟩
          · omega
          · rw [q5] at hq; have : σ.2.1 + 2 ≤ q := hq; omega
        · rcases e5 with ⟨q1, q2, q3, q4⟩ | ⟨q1, q2, q3, q4, q5⟩
          · omega
          · rw [q5] at hq; have : σ.2.1 + 2 ≤ q := hq; omega
      · rw [y4]; exact e5
    · rw [if_neg (fun z => e (nI_inj' (by omega) (by omega) z))]
      obtain ⟨c, hc⟩ := sIx_eq b L (by omega)
      obtain ⟨σ2, y1, y2, y3, y4⟩ := x_44 (κ := κ) (T := T) (m := n + 2) (k := sIx L b) (b := b) (v := v) hh ⟨c, hc⟩
      have eA : sAdd L b v = sUp L b (sIx L b) v := by unfold sAdd sL1; rw [if_neg e]
      refine ⟨σ2, na, ta, cap, y1, by rw [eA]; exact y2, fun a a1 a2 a3 a4 => y3 a a2 a3 a4, fun q hq => ?_, Or.inl ⟨rfl, rfl, rfl, y4⟩⟩
      rw [y4] at hq
      rw [y3 q (by omega) (by omega) (by omega)]
      exact hfr q hq
  -- the search
  have LP : ∀ (t i : Nat), i ≤ sIx L b → L.length < i + t → ol_X9_add_7 T (oF κ T (n + 2)) κ t (some x) (some b) v (nI i) σ = oj_X9_add_31 T (oF κ T (n + 2)) κ (some x) (some b) v (nI (sIx L b)) σ := by
    intro t
    induction t with
    | zero => intro i hi ht; have := sIx_le b L; omega
    | succ t IH =>
      intro i hi ht
      have hle := sIx_le b L
      rw [ol_X9_add_7]
      simp only [f2, f0, ovi, ovr, obn]
      by_cases c : i < L.length
      · rw [if_neg (nI_ge c (by omega))]
        obtain ⟨q1, q2, fs', q3⟩ := h5 i (L[i]).1 (L[i]).2 (List.getElem?_eq_getElem c)
        have er : oar σ (some na) (nI i) = some (some (L[i]).1) := by simp only [oar, h2, zin_n (show i < cap by omega) (show cap < 2 ^ 31 by omega), if_true, nI_clamp (show i < 2 ^ 31 by omega), q1]
        simp only [er]
        by_cases eb : (L[i]).1 = b
        · rw [if_pos (by rw [eb])]
          have : i = sIx L b := by
            by_cases z : i < sIx L b
            · exact absurd eb (sIx_lt b L i _ z (List.getElem?_eq_getElem c))
            · omega
          rw [this]
        · rw [if_neg (fun z => eb (Option.some.inj z)), nI_1]
          refine IH (i + 1) ?_ (by omega)
          by_cases z : i = sIx L b
          · exfalso
            obtain ⟨d, hd⟩ := sIx_eq b L (by omega)
            rw [← z, List.getElem?_eq_getElem c] at hd
            exact eb (by rw [Option.some.inj hd])
          · omega
      · rw [if_pos (nI_le (by omega) (by omega)), show i = sIx L b by omega]
  rw [oE_X9_add]
  unfold ob_X9_add
  rw [if_neg (show ¬ (some b : Option Nat) = none from fun z => by cases z), show (0 : Int32) = nI 0 from rfl, LP T 0 (Nat.zero_le _) (by omega)]
  exact J31
/-- add(null, v) -/
theorem x_add0 : oF κ T (n + 1) 10 [va_rf (some x), va_rf none, .int v] σ = some (none, σ) := by
  rw [oE_X9_add]
  unfold ob_X9_add
  rw [if_pos rfl]
end CSA
