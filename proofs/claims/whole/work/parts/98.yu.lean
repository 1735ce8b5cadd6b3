/-! the class's Sum as cells: new, append, add -/
/-- the Sum at x: names at na, times at ta, cap places; L = its names (where their objects are) and how often each -/
def cSm (σ : oSt) (x na ta cap : Nat) (L : List (Nat × Int32)) (pl : Int64) : Prop := ∃ (g : Nat → Option Nat) (h : Nat → Int32), σ.1 x = some (.inr (11, [.ref na, .ref ta, .int (nI L.length), .long pl])) ∧ σ.1 na = some (.inl (.object "LiquidTongue$Name", cap, .inr (.inr (.inr (.inr g))))) ∧ σ.1 ta = some (.inl (.int, cap, .inl h)) ∧ (L.length ≤ cap ∧ 2 ≤ cap ∧ cap ≤ 4096 ∧ ∃ k, cap = 2 ^ k) ∧ (∀ k b c, L[k]? = some (b, c) → g k = some b ∧ h k = c ∧ ∃ fs, σ.1 b = some (.inr (6, fs)))
theorem oq_61 : (oq 6).1 = "LiquidTongue$Name" := by decide +kernel
theorem odef_11 : odef 11 = [.null, .null, .int 0, .long 0] := by decide +kernel
theorem ofits_n : ofits "LiquidTongue$Name" 6 = true := by decide +kernel
section CSM
variable {κ : oKv} {T n x na ta cap b : Nat} {σ : oSt} {L : List (Nat × Int32)} {pl : Int64} {fs : List Value}
theorem cSm.keep {σ' : oSt} (h : cSm σ x na ta cap L pl) (hk : ∀ a, a = x ∨ a = na ∨ a = ta → σ'.1 a = σ.1 a) (hn : ∀ a fs, σ.1 a = some (.inr (6, fs)) → ∃ fs', σ'.1 a = some (.inr (6, fs'))) : cSm σ' x na ta cap L pl := by
  obtain ⟨g, h', h1, h2, h3, h4, h5⟩ := h
  refine ⟨g, h', by rw [hk x (Or.inl rfl)]; exact h1, by rw [hk na (Or.inr (Or.inl rfl))]; exact h2, by rw [hk ta (Or.inr (Or.inr rfl))]; exact h3, h4, fun k b c e => ?_⟩
  obtain ⟨a1, a2, fs, a3⟩ := h5 k b c e
  exact ⟨a1, a2, hn b fs a3⟩
/-- new Sum() on a new cell -/
theorem x_init (h : σ.1 x = some (.inr (11, odef 11))) (hfr : ∀ q, σ.2.1 ≤ q → σ.1 q = none) : ∃ σ', oF κ T (n + 1) 8 [va_rf (some x)] σ = some (none, σ') ∧ cSm σ' x σ.2.1 (σ.2.1 + 1) 2 [] 0 ∧ (∀ a, a ≠ x → a < σ.2.1 → σ'.1 a = σ.1 a) ∧ (∀ q, σ.2.1 + 2 ≤ q → σ'.1 q = none) ∧ σ'.2 = (σ.2.1 + 2, σ.2.2.1 + 2, σ.2.2.2 + 4) := by
  rw [odef_11] at h
  have hxn : x ≠ σ.2.1 := fun e => by rw [e, hfr _ (Nat.le_refl _)] at h; cases h
  have hxn2 : x ≠ σ.2.1 + 1 := fun e => by rw [e, hfr _ (Nat.le_succ _)] at h; cases h
  have hxl : x < σ.2.1 := by
    by_cases c : x < σ.2.1
    · exact c
    · rw [hfr x (by omega)] at h; cases h
  have o2 : onn 2 = true := by decide
  have e2 : (2 : Int32).toNatClampNeg = 2 := by decide
  rw [oE_X9_init]
  unfold ob_X9_init
  rw [obn_at, ogd_at o2, olet_at, e2, oq_61]
  have k1 : (onew σ (.inl (.object "LiquidTongue$Name", 2, .inr (.inr (.inr (.inr (fun _ => none)))))) 2).1 x = some (.inr (11, [.null, .null, .int 0, .long 0])) := by rw [onew_ne hxn]; exact h
  rw [show opf (onew σ (.inl (.object "LiquidTongue$Name", 2, .inr (.inr (.inr (.inr (fun _ => none)))))) 2) (some x) 11 0 (va_rf (some σ.2.1)) = some (oput (onew σ (.inl (.object "LiquidTongue$Name", 2, .inr (.inr (.inr (.inr (fun _ => none)))))) 2) x (.inr (11, [.ref σ.2.1, .null, .int 0, .long 0]))) from opf_at k1 (show 0 < 4 by decide), obn_at, ogd_at o2, olet_at]
  have k2 : (oput (onew σ (.inl (.object "LiquidTongue$Name", 2, .inr (.inr (.inr (.inr (fun _ => none)))))) 2) x (.inr (11, [.ref σ.2.1, .null, .int 0, .long 0]))).1 x = some (.inr (11, [.ref σ.2.1, .null, .int 0, .long 0])) := oput_eq _ _ _
  have k3 : (oput (onew σ (.inl (.object "LiquidTongue$Name", 2, .inr (.inr (.inr (.inr (fun _ => none)))))) 2) x (.inr (11, [.ref σ.2.1, .null, .int 0, .long 0]))).1 σ.2.1 = some (.inl (.object "LiquidTongue$Name", 2, .inr (.inr (.inr (.inr (fun _ => none)))))) := by rw [oput_ne (Ne.symm hxn), onew_eq]
  have k4 : ∀ a, a ≠ x → a ≠ σ.2.1 → (oput (onew σ (.inl (.object "LiquidTongue$Name", 2, .inr (.inr (.inr (.inr (fun _ => none)))))) 2) x (.inr (11, [.ref σ.2.1, .null, .int 0, .long 0]))).1 a = σ.1 a := fun a h1 h2 => by rw [oput_ne h1, onew_ne h2]
  have k5 : (oput (onew σ (.inl (.object "LiquidTongue$Name", 2, .inr (.inr (.inr (.inr (fun _ => none)))))) 2) x (.inr (11, [.ref σ.2.1, .null, .int 0, .long 0]))).2 = (σ.2.1 + 1, σ.2.2.1 + 1, σ.2.2.2 + 2) := rfl
  generalize oput (onew σ (.inl (.object "LiquidTongue$Name", 2, .inr (.inr (.inr (.inr (fun _ => none)))))) 2) x (.inr (11, [.ref σ.2.1, .null, .int 0, .long 0])) = σ1 at k2 k3 k4 k5 ⊢
  have k51 : σ1.2.1 = σ.2.1 + 1 := by rw [k5]
  have k6 : (onew σ1 (.inl (.int, 2, .inl (fun _ => 0))) 2).1 x = some (.inr (11, [.ref σ.2.1, .null, .int 0, .long 0])) := by rw [onew_ne (by omega)]; exact k2
  rw [show opf (onew σ1 (.inl (.int, 2, .inl (fun _ => 0))) 2) (some x) 11 1 (va_rf (some σ1.2.1)) = some (oput (onew σ1 (.inl (.int, 2, .inl (fun _ => 0))) 2) x (.inr (11, [.ref σ.2.1, .ref σ1.2.1, .int 0, .long 0]))) from opf_at k6 (show 1 < 4 by decide), obn_at, k51]
  refine ⟨_, rfl, ⟨fun _ => none, fun _ => 0, oput_eq _ _ _, ?_, ?_, ⟨by decide, by decide, by decide, 1, rfl⟩, fun k b c e => by cases e⟩, fun a h1 h2 => ?_, fun q hq => ?_, ?_⟩
  · rw [oput_ne (Ne.symm hxn), onew_ne (by omega)]; exact k3
  · rw [oput_ne (Ne.symm hxn2), ← k51, onew_eq]
  · rw [oput_ne h1, onew_ne (by omega)]; exact k4 a h1 (by omega)
  · rw [oput_ne (by omega), onew_ne (by omega), k4 q (by omega) (by omega)]
    exact hfr q (by omega)
  · show (σ1.2.1 + 1, σ1.2.2.1 + 1, σ1.2.2.2 + 2) = _
    rw [k5]
/-- a name is put behind the others, 0 times -/
theorem x_put {k : Nat} (h : cSm σ x na ta cap L pl) (hl : L.length < cap) (hb : σ.1 b = some (.inr (6, fs))) : ∃ σ', oj_X9_append_58 T (oF κ T k) κ (some x) (some b) σ = some (none, σ') ∧ cSm σ' x na ta cap (L ++ [(b, 0)]) pl ∧ (∀ a, a ≠ x → a ≠ na → a ≠ ta → σ'.1 a = σ.1 a) ∧ σ'.2 = σ.2 := by
  obtain ⟨g, h', h1, h2, h3, h4, h5⟩ := h
  have d1 : x ≠ na := fun e => by rw [e, h2] at h1; cases h1
  have d2 : x ≠ ta := fun e => by rw [e, h3] at h1; cases h1
  have d3 : na ≠ ta := fun e => by rw [e, h3] at h2; cases h2
  have b1 : b ≠ na := fun e => by rw [e, h2] at hb; cases hb
  have b2 : b ≠ ta := fun e => by rw [e, h3] at hb; cases hb
  have b3 : b ≠ x := fun e => by rw [e, h1] at hb; cases hb
  have z1 : zin (nI L.length) cap = true := zin_n hl (by omega)
  unfold oj_X9_append_58
  rw [ofd_at h1]
  simp only [List.getElem?_cons_zero, List.getElem?_cons_succ, ovr, ovi, obn]
  rw [ofd_at h1]
  simp only [List.getElem?_cons_zero, List.getElem?_cons_succ, ovr, ovi, obn]
  have e1 : osr σ (some na) (nI L.length) (some b) = some (oput σ na (.inl (.object "LiquidTongue$Name", cap, .inr (.inr (.inr (.inr (va_up g L.length (some b)))))))) := by
    simp only [osr, h2, z1, if_true, hb, ofits_n, nI_clamp (show L.length < 2 ^ 31 by omega)]
  rw [e1]
  have k1 : (oput σ na (.inl (.object "LiquidTongue$Name", cap, .inr (.inr (.inr (.inr (va_up g L.length (some b)))))))).1 x = some (.inr (11, [.ref na, .ref ta, .int (nI L.length), .long pl])) := by rw [oput_ne d1]; exact h1
  have k2 : (oput σ na (.inl (.object "LiquidTongue$Name", cap, .inr (.inr (.inr (.inr (va_up g L.length (some b)))))))).1 ta = some (.inl (.int, cap, .inl h')) := by rw [oput_ne (Ne.symm d3)]; exact h3
  simp only [ofd_at k1, List.getElem?_cons_zero, List.getElem?_cons_succ, ovr, ovi, obn, osi_at k2 z1, nI_clamp (show L.length < 2 ^ 31 by omega)]
  have k3 : (oput (oput σ na (.inl (.object "LiquidTongue$Name", cap, .inr (.inr (.inr (.inr (va_up g L.length (some b)))))))) ta (.inl (.int, cap, .inl (upd h' L.length 0)))).1 x = some (.inr (11, [.ref na, .ref ta, .int (nI L.length), .long pl])) := by rw [oput_ne d2]; exact k1
  simp only [ofd_at k3, List.getElem?_cons_zero, List.getElem?_cons_succ, ovi, obn, opf_at k3 (show 2 < 4 by decide), List.set_cons_zero, List.set_cons_succ, nI_1]
  refine ⟨_, rfl, ⟨va_up g L.length (some b), upd h' L.length 0, ?_, ?_, ?_, ?_, fun k b' c e => ?_⟩, fun a a1 a2 a3 => ?_, rfl⟩
  · rw [oput_eq, List.length_append]; rfl
  · rw [oput_ne (Ne.symm d1), oput_ne d3, oput_eq]
  · rw [oput_ne (Ne.symm d2), oput_eq]
  · rw [List.length_append]; exact ⟨by show L.length + 1 ≤ cap; omega, h4.2⟩
  · by_cases ek : k = L.length
    · subst ek
      rw [List.getElem?_append_right (Nat.le_refl _), Nat.sub_self] at e
      cases e
      refine ⟨by simp [va_up], upd_at _ _ _, fs, ?_⟩
      rw [oput_ne b3, oput_ne b2, oput_ne b1]
      exact hb
    · have hk : k < L.length := by
        by_cases c : k < L.length
        · exact c
        · rw [List.getElem?_append_right (by omega), List.getElem?_eq_none (by simp; omega)] at e; cases e
      rw [List.getElem?_append_left hk] at e
      obtain ⟨q1, q2, fs', q3⟩ := h5 k b' c e
      refine ⟨by simp [va_up, ek, q1], by rw [upd_ne _ _ ek]; exact q2, fs', ?_⟩
      rw [oput_ne (fun z => by rw [z, h1] at q3; cases q3), oput_ne (fun z => by rw [z, h3] at q3; cases q3), oput_ne (fun z => by rw [z, h2] at q3; cases q3)]
      exact q3
  · rw [oput_ne a1, oput_ne a3, oput_ne a2]
end CSM
