/-! substring, equals -/
/-- a text as cells: the object at r, its letters at v -/
def cTx (σ : oSt) (r v len : Nat) (f : Nat → Int32) : Prop := σ.1 r = some (.inr (0, [.ref v, .int 0, .int 0, .int 0])) ∧ σ.1 v = some (.inl (.byte, len, .inl f)) ∧ (∀ j, j < len → sB (f j)) ∧ len < 2 ^ 31
theorem sB_fits {b : Int32} (h : sB b) : fits .byte (.int b) = true := by
  obtain ⟨k, h1, h2, h3⟩ := sB_k h
  rw [h3]
  have : ∀ k, k < 256 → fits .byte (.int (nI k).toInt8.toInt32) = true := by decide +kernel
  exact this k h1
theorem cTx.tv {κ : oKv} {σ : oSt} {r v len : Nat} {f : Nat → Int32} (h : cTx σ r v len f) : oTv κ σ r v len f := by
  obtain ⟨h1, h2, h3, h4⟩ := h
  refine ⟨by simp only [oSt', oob_at h1], ?_, ?_, ?_, h4, fun j hj => ?_⟩
  · simp only [ofk, ofd_at h1, List.getElem?_cons_zero]
  · simp only [ofk, ofd_at h1, List.getElem?_cons_zero, List.getElem?_cons_succ]
  · simp only [oln2, h2]; rfl
  · simp only [oai8, oai_at h2 (zin_n hj h4), nI_clamp (show j < 2 ^ 31 by omega)]
theorem cTx.keep {σ σ' : oSt} {r v len : Nat} {f : Nat → Int32} (h : cTx σ r v len f) (h1 : σ'.1 r = σ.1 r) (h2 : σ'.1 v = σ.1 v) : cTx σ' r v len f := ⟨h1.trans h.1, h2.trans h.2.1, h.2.2⟩
section CSB
variable {κ : oKv} {T n r v len a e : Nat} {σ : oSt} {f : Nat → Int32}
set_option maxHeartbeats 1000000 in
/-- substring(a, e) -/
theorem s_sub (h : cTx σ r v len f) (hae : a < e) (hel : e ≤ len) (hl : len ≤ 60000) (hfr : ∀ q, σ.2.1 ≤ q → σ.1 q = none) : ∃ q u σ' g, oF κ T (n + 6) 209 [va_rf (some r), .int (nI a), .int (nI e)] σ = some (some (va_rf (some q)), σ') ∧ cTx σ' q u (e - a) g ∧ (∀ j, j < e - a → g j = f (a + j)) ∧ (∀ z, z < σ.2.1 → σ'.1 z = σ.1 z) ∧ (∀ z, σ'.2.1 ≤ z → σ'.1 z = none) ∧ ((q = r ∧ σ' = σ ∧ a = 0) ∨ (q = σ.2.1 ∧ u = σ.2.1 + 1 ∧ σ'.2 = (σ.2.1 + 2, σ.2.2.1 + 2, σ.2.2.2 + 4 + (e - a)))) := by
  have hv := h.tv (κ := κ)
  have hL := s_len (T := T) (n := n + 3) hv.tx
  have hLa := s_latin (T := T) (n := n + 4) hv.tx
  obtain ⟨t1, t2, t3, t4, t5, t6⟩ := hv
  obtain ⟨h1, h2, h3, h4⟩ := h
  have CB : oF κ T (n + 5) 210 [.int (nI a), .int (nI e), .int (nI len)] σ = some (none, σ) := by
    rw [oE_J0_checkBoundsBeginEnd_23922]
    unfold ob_J0_checkBoundsBeginEnd_23922
    rw [oE_J3_checkFromToIndex_8c36e]
    unfold ob_J3_checkFromToIndex_8c36e
    rw [if_neg (show ¬ nI a < 0 from nI_pos (by omega)), if_neg (show ¬ nI e < nI a from fun x => Int32.lt_irrefl (Int32.lt_trans x (nI_lt hae (by omega)))), if_pos (nI_le hel h4), oin_at]
  rw [oE_J0_substring_37a41]
  unfold ob_J0_substring_37a41
  rw [t1, obn_at, hL, oin_at, CB, ocv_at]
  have J : ¬ (a = 0 ∧ e = len) → ∃ q u σ' g, oj_J0_substring_37a41_22 T (oF κ T (n + 5)) κ (some r) (nI a) (nI e) σ = some (some (va_rf (some q)), σ') ∧ cTx σ' q u (e - a) g ∧ (∀ j, j < e - a → g j = f (a + j)) ∧ (∀ z, z < σ.2.1 → σ'.1 z = σ.1 z) ∧ (∀ z, σ'.2.1 ≤ z → σ'.1 z = none) ∧ ((q = r ∧ σ' = σ ∧ a = 0) ∨ (q = σ.2.1 ∧ u = σ.2.1 + 1 ∧ σ'.2 = (σ.2.1 + 2, σ.2.2.1 + 2, σ.2.2.2 + 4 + (e - a)))) := fun hne => by
    unfold oj_J0_substring_37a41_22
    rw [t1, obn_at, hLa, oin_at, if_neg (show ¬ (1 : Int32) = 0 by decide), t2]
    simp only [ovr, obn]
    have hsub : nI e - nI a = nI (e - a) := nI_sub' (by omega)
    rw [hsub, oE_J1_newString_b4f7a]
    unfold ob_J1_newString_b4f7a
    rw [if_neg (show ¬ nI (e - a) = 0 from fun x => by have := nI_inj' (by omega) (by decide) (x.trans (show (0 : Int32) = nI 0 from rfl)); omega), olet_at, nI_add, show a + (e - a) = e by omega]
    have hvn : v ≠ σ.2.1 := fun x => by rw [x, hfr _ (Nat.le_refl _)] at h2; cases h2
    have hvn2 : v ≠ σ.2.1 + 1 := fun x => by rw [x, hfr _ (Nat.le_succ _)] at h2; cases h2
    have oq0 : (oq 0).2.2 = 4 := by decide +kernel
    rw [oq0]
    have k0 : (onew σ (.inr (0, odef 0)) 4).1 σ.2.1 = some (.inr (0, odef 0)) := onew_eq _ _ _
    have kv : (onew σ (.inr (0, odef 0)) 4).1 v = some (.inl (.byte, len, .inl f)) := by rw [onew_ne hvn]; exact h2
    have kk' : ∀ z, z ≠ σ.2.1 → (onew σ (.inr (0, odef 0)) 4).1 z = σ.1 z := fun z hz => onew_ne hz
    have k2 : (onew σ (.inr (0, odef 0)) 4).2 = (σ.2.1 + 1, σ.2.2.1 + 1, σ.2.2.2 + 4) := rfl
    generalize onew σ (.inr (0, odef 0)) 4 = σ1 at k0 kv kk' k2 ⊢
    have k21 : σ1.2.1 = σ.2.1 + 1 := by rw [k2]
    -- the letters' copy
    have kv2 : (onew σ1 (.inl (.byte, e - a, .inl (fun _ => 0))) (e - a)).1 v = some (.inl (.byte, len, .inl f)) := by rw [onew_ne (by rw [k21]; exact hvn2)]; exact kv
    have CY : ocy (onew σ1 (.inl (.byte, e - a, .inl (fun _ => 0))) (e - a)) (some v) (nI a) (some σ1.2.1) 0 (nI (e - a)) = some (oput (onew σ1 (.inl (.byte, e - a, .inl (fun _ => 0))) (e - a)) σ1.2.1 (.inl (.byte, e - a, .inl (va_cpy f (fun _ => 0) a 0 (e - a))))) := by
      have ix : oix (nI a) 0 (nI (e - a)) len (e - a) = true := by
        unfold oix
        rw [nI_clamp (show e - a < 2 ^ 31 by omega), nI_clamp (show a < 2 ^ 31 by omega), show (0 : Int32).toNatClampNeg = 0 by decide, decide_eq_true (show ¬ nI a < 0 from nI_pos (by omega)), decide_eq_true (show ¬ (0 : Int32) < 0 by decide), decide_eq_true (show ¬ nI (e - a) < 0 from nI_pos (by omega)), decide_eq_true (show a + (e - a) ≤ len by omega), decide_eq_true (show 0 + (e - a) ≤ e - a by omega)]
        rfl
      have fi : (List.range (e - a)).all (fun i => fits .byte (.int (f (a + i)))) = true := List.all_eq_true.mpr (fun j hj => sB_fits (h3 _ (by have := List.mem_range.mp hj; omega)))
      have kn : (onew σ1 (.inl (.byte, e - a, .inl (fun _ => 0))) (e - a)).1 σ1.2.1 = some (.inl (.byte, e - a, .inl (fun _ => 0))) := onew_eq _ _ _
      simp only [ocy, kv2, kn, ix, nI_clamp (show e - a < 2 ^ 31 by omega), nI_clamp (show a < 2 ^ 31 by omega), show (0 : Int32).toNatClampNeg = 0 by decide, fi, and_self, if_true]
    have CR : oF κ T (n + 4) 213 [va_rf (some v), .int (nI a), .int (nI e)] σ1 = some (some (va_rf (some σ1.2.1)), oput (onew σ1 (.inl (.byte, e - a, .inl (fun _ => 0))) (e - a)) σ1.2.1 (.inl (.byte, e - a, .inl (va_cpy f (fun _ => 0) a 0 (e - a))))) := by
      have B : oF κ T (n + 3) 214 [va_rf (some v), .int (nI a), .int (nI e)] σ1 = some (some (va_rf (some σ1.2.1)), oput (onew σ1 (.inl (.byte, e - a, .inl (fun _ => 0))) (e - a)) σ1.2.1 (.inl (.byte, e - a, .inl (va_cpy f (fun _ => 0) a 0 (e - a))))) := by
        have C5 : oF κ T (n + 2) 215 [.int (nI a), .int (nI e)] σ1 = some (none, σ1) := by
          rw [oE_J7_checkLength_df160]
          unfold ob_J7_checkLength_df160
          rw [if_pos (nI_le (by omega) (by omega))]
        have o1 : onn (nI (e - a)) = true := by
          unfold onn
          rw [nI_clamp (by omega), decide_eq_true (show ¬ nI (e - a) < 0 from nI_pos (by omega)), decide_eq_true (show e - a ≤ 60000000 by omega)]
          rfl
        have l2 : oln2 κ (onew σ1 (.inl (.byte, e - a, .inl (fun _ => 0))) (e - a)) (some v) = some (nI len) := by simp only [oln2, kv2]; rfl
        rw [oE_J7_copyOfRangeByte_39247]
        unfold ob_J7_copyOfRangeByte_39247
        rw [C5, ocv_at, hsub, ogd_at o1, olet_at, nI_clamp (show e - a < 2 ^ 31 by omega), l2, obn_at, nI_sub' (show a ≤ len by omega)]
        have mn : (if nI (e - a) < nI (len - a) then nI (e - a) else nI (len - a)) = nI (e - a) := by
          by_cases c : e = len
          · rw [c]; split <;> rfl
          · rw [if_pos (nI_lt (by omega) (by omega))]
        rw [mn, CY, obn_at]
      rw [oE_J7_copyOfRange_39247]
      unfold ob_J7_copyOfRange_39247
      have l1 : oln2 κ σ1 (some v) = some (nI len) := by simp only [oln2, kv]; rfl
      have J10 : oj_J7_copyOfRange_39247_10 T (oF κ T (n + 3)) κ (some v) (nI a) (nI e) σ1 = some (some (va_rf (some σ1.2.1)), oput (onew σ1 (.inl (.byte, e - a, .inl (fun _ => 0))) (e - a)) σ1.2.1 (.inl (.byte, e - a, .inl (va_cpy f (fun _ => 0) a 0 (e - a))))) := by
        unfold oj_J7_copyOfRange_39247_10
        rw [B, orn_at]
      by_cases c0 : a = 0
      · rw [if_pos (by rw [c0]; rfl), l1, obn_at, if_neg (fun x => hne ⟨c0, nI_inj' (by omega) (by omega) x⟩)]
        exact J10
      · rw [if_neg (fun x => c0 (nI_inj' (by omega) (by decide) (x.trans (show (0 : Int32) = nI 0 from rfl))))]
        exact J10
    rw [CR, orn_at, obn_at]
    have k3 : (oput (onew σ1 (.inl (.byte, e - a, .inl (fun _ => 0))) (e - a)) σ1.2.1 (.inl (.byte, e - a, .inl (va_cpy f (fun _ => 0) a 0 (e - a))))).1 σ.2.1 = some (.inr (0, [.null, .int 0, .int 0, .int 0])) := by rw [oput_ne (by omega), onew_ne (by omega), k0, odef_0]
    have IN : oF κ T (n + 4) 216 [va_rf (some σ.2.1), va_rf (some σ1.2.1), .int 0] (oput (onew σ1 (.inl (.byte, e - a, .inl (fun _ => 0))) (e - a)) σ1.2.1 (.inl (.byte, e - a, .inl (va_cpy f (fun _ => 0) a 0 (e - a))))) = some (none, oput (oput (onew σ1 (.inl (.byte, e - a, .inl (fun _ => 0))) (e - a)) σ1.2.1 (.inl (.byte, e - a, .inl (va_cpy f (fun _ => 0) a 0 (e - a))))) σ.2.1 (.inr (0, [.ref σ1.2.1, .int 0, .int 0, .int 0]))) := by
      rw [oE_J0_init_031fb]
      unfold ob_J0_init_031fb
      have p1 : opf (oput (onew σ1 (.inl (.byte, e - a, .inl (fun _ => 0))) (e - a)) σ1.2.1 (.inl (.byte, e - a, .inl (va_cpy f (fun _ => 0) a 0 (e - a))))) (some σ.2.1) 0 0 (va_rf (some σ1.2.1)) = some (oput (oput (onew σ1 (.inl (.byte, e - a, .inl (fun _ => 0))) (e - a)) σ1.2.1 (.inl (.byte, e - a, .inl (va_cpy f (fun _ => 0) a 0 (e - a))))) σ.2.1 (.inr (0, [.ref σ1.2.1, .int 0, .int 0, .int 0]))) := opf_at k3 (show 0 < 4 by decide)
      have e0 : oby 0 = true := by decide
      rw [obn_at, p1, obn_at, ogd_at e0]
      have p2 := opf_at (oput_eq (oput (onew σ1 (.inl (.byte, e - a, .inl (fun _ => 0))) (e - a)) σ1.2.1 (.inl (.byte, e - a, .inl (va_cpy f (fun _ => 0) a 0 (e - a))))) σ.2.1 (.inr (0, [.ref σ1.2.1, .int 0, .int 0, .int 0]))) (v := .int 0) (show 1 < 4 by decide)
      rw [p2, obn_at]
      rw [oput_oput]
      rfl
    rw [IN, ocv_at, orn_at]
    refine ⟨σ.2.1, σ1.2.1, _, va_cpy f (fun _ => 0) a 0 (e - a), rfl, ⟨oput_eq _ _ _, ?_, fun j hj => ?_, by omega⟩, fun j hj => ?_, fun z hz => ?_, fun z hz => ?_, Or.inr ⟨rfl, k21, ?_⟩⟩
    · rw [oput_ne (by omega), oput_eq]
    · show sB (if 0 ≤ j ∧ j < 0 + (e - a) then f (a + (j - 0)) else 0)
      rw [if_pos (by omega)]
      exact h3 _ (by omega)
    · show (if 0 ≤ j ∧ j < 0 + (e - a) then f (a + (j - 0)) else 0) = f (a + j)
      rw [if_pos (by omega), Nat.sub_zero]
    · rw [oput_ne (by omega), oput_ne (by omega), onew_ne (by omega), kk' z (by omega)]
    · have hz' : σ1.2.1 + 1 ≤ z := hz
      rw [oput_ne (by omega), oput_ne (by omega), onew_ne (by omega), kk' z (by omega)]
      exact hfr z (by omega)
    · show (σ1.2.1 + 1, σ1.2.2.1 + 1, σ1.2.2.2 + (e - a)) = _
      rw [k2]
  by_cases c0 : a = 0
  · subst c0
    rw [if_pos (show nI 0 = 0 from rfl)]
    by_cases c1 : e = len
    · subst c1
      rw [if_pos rfl]
      exact ⟨r, v, σ, f, rfl, ⟨h1, h2, h3, h4⟩, fun j hj => by rw [Nat.zero_add], fun z _ => rfl, hfr, Or.inl ⟨rfl, rfl, rfl⟩⟩
    · rw [if_neg (fun x => c1 (nI_inj' (by omega) (by omega) x))]
      exact J (fun x => c1 x.2)
  · rw [if_neg (fun x => c0 (nI_inj' (by omega) (by decide) (x.trans (show (0 : Int32) = nI 0 from rfl))))]
    exact J (fun x => c0 x.1)
end CSB
/-- the texts are the same -/
def tEq (len : Nat) (f : Nat → Int32) (len' : Nat) (f' : Nat → Int32) : Bool := decide (len = len' ∧ ∀ j, j < len → f j = f' j)
section CEQ
variable {κ : oKv} {T n r v len r' v' len' : Nat} {σ : oSt} {f f' : Nat → Int32}
theorem s_eqL (h1 : oln2 κ σ (some v) = some (nI len)) (h2 : ∀ j, j < len → oai8 κ σ (some v) (nI j) = some (f j)) (h3 : ∀ j, j < len → oai8 κ σ (some v') (nI j) = some (f' j)) (hl : len < 2 ^ 31) (call : oCl) : ∀ (t i : Nat), i ≤ len → len < i + t → (∀ j, j < i → f j = f' j) → ol_J1_equals_b5fdf_9 T call κ t (some v) (some v') (nI i) σ = some (some (.int (b01 (decide (∀ j, j < len → f j = f' j)))), σ)
  | 0, i, hi, ht, _ => by omega
  | t + 1, i, hi, ht, hp => by
    rw [ol_J1_equals_b5fdf_9, h1, obn_at]
    by_cases c : i < len
    · rw [if_neg (nI_ge c hl), h2 i c, obn_at, h3 i c, obn_at]
      by_cases e : f i = f' i
      · rw [if_pos e, nI_1]
        exact s_eqL h1 h2 h3 hl call t (i + 1) (by omega) (by omega) (fun j hj => by
          by_cases ej : j = i
          · rw [ej]; exact e
          · exact hp j (by omega))
      · rw [if_neg e, decide_eq_false (fun x => e (x i c))]
        rfl
    · rw [if_pos (nI_le (by omega) (by omega)), decide_eq_true (fun j hj => hp j (by omega))]
      rfl
/-- equals(text) of a text -/
theorem s_equals (h : oTv κ σ r v len f) (h' : cTx σ r' v' len' f') (hT : len < T) : oF κ T (n + 2) 217 [va_rf (some r), va_rf (some r')] σ = some (some (.int (b01 (tEq len f len' f'))), σ) := by
  obtain ⟨t1, t2, t3, t4, t5, t6⟩ := h
  have hv' := h'.tv (κ := κ)
  obtain ⟨u1, u2, u3, u4, u5, u6⟩ := hv'
  rw [oE_J0_equals_9ea2d]
  unfold ob_J0_equals_9ea2d
  by_cases c : (some r : Option Nat) = some r'
  · rw [if_pos c]
    cases c
    have ev : v = v' := by rw [t2] at u2; cases u2; rfl
    subst ev
    have el : len = len' := by rw [t4] at u4; exact nI_inj' t5 u5 (Option.some.inj u4)
    subst el
    have : tEq len f len f' = true := decide_eq_true ⟨rfl, fun j hj => by have := t6 j hj; rw [u6 j hj] at this; exact (Option.some.inj this).symm⟩
    rw [this]
    rfl
  · have ocs1 : ocs σ (some r') 0 = true := by simp only [ocs, h'.1, decide_true]
    rw [if_neg c, oob_at h'.1, obn_at, if_neg (show ¬ (1 : Int32) = 0 by decide), ogd_at ocs1, if_neg (show ¬ (1 : Int32) = 0 by decide), t3]
    simp only [ovi, obn, u3, if_true]
    unfold oj_J0_equals_9ea2d_36
    rw [t2, u2]
    simp only [ovr, obn]
    have E : oF κ T (n + 1) 218 [va_rf (some v), va_rf (some v')] σ = some (some (.int (b01 (tEq len f len' f'))), σ) := by
      rw [oE_J1_equals_b5fdf]
      unfold ob_J1_equals_b5fdf
      rw [t4, obn_at, u4, obn_at]
      by_cases cl : len = len'
      · subst cl
        rw [if_pos rfl]
        have := s_eqL (κ := κ) (T := T) t4 t6 u6 t5 (oF κ T n) T 0 (Nat.zero_le _) (by omega) (fun j hj => by omega)
        rw [show (0 : Int32) = nI 0 from rfl, this]
        have e2 : tEq len f len f' = decide (∀ j, j < len → f j = f' j) := by
          unfold tEq
          rw [decide_eq_decide]
          exact ⟨fun x => x.2, fun x => ⟨rfl, x⟩⟩
        rw [e2]
      · rw [if_neg (fun x => cl (nI_inj' t5 u5 x))]
        have : tEq len f len' f' = false := decide_eq_false (fun x => cl x.1)
        rw [this]
        rfl
    rw [E, oin_at]
    cases tEq len f len' f' <;> rfl
end CEQ
