/-! the class's Sum: append -/
section CSN
variable {κ : oKv} {T n x na ta cap b : Nat} {σ : oSt} {L : List (Nat × Int32)} {pl : Int64} {fs : List Value}
theorem alt {σ : oSt} (hfr : ∀ q, σ.2.1 ≤ q → σ.1 q = none) {a : Nat} {c : oC} (e : σ.1 a = some c) : a < σ.2.1 := by
  by_cases q : a < σ.2.1
  · exact q
  · rw [hfr a (by omega)] at e; cases e
theorem onn_n {c : Nat} (h : c ≤ 60000000) : onn (nI c) = true := by
  unfold onn
  rw [nI_clamp (by omega), decide_eq_true (show ¬ nI c < 0 from nI_pos (by omega)), decide_eq_true h]
  rfl
theorem oix_0 {l a b : Nat} (h1 : l ≤ a) (h2 : l ≤ b) (h3 : l < 2 ^ 31) : oix 0 0 (nI l) a b = true := by
  unfold oix
  rw [nI_clamp h3, show (0 : Int32).toNatClampNeg = 0 by decide, decide_eq_true (show ¬ (0 : Int32) < 0 by decide), decide_eq_true (show ¬ nI l < 0 from nI_pos h3), decide_eq_true (show 0 + l ≤ a by omega), decide_eq_true (show 0 + l ≤ b by omega)]
  rfl
set_option maxHeartbeats 1000000 in
/-- append(name) -/
theorem x_append (h : cSm σ x na ta cap L pl) (hl : L.length ≤ 2000) (hb : σ.1 b = some (.inr (6, fs))) (hfr : ∀ q, σ.2.1 ≤ q → σ.1 q = none) : ∃ σ' na' ta' cap', oF κ T (n + 2) 9 [va_rf (some x), va_rf (some b)] σ = some (none, σ') ∧ cSm σ' x na' ta' cap' (L ++ [(b, 0)]) pl ∧ (∀ a, a < σ.2.1 → a ≠ x → a ≠ na → a ≠ ta → σ'.1 a = σ.1 a) ∧ (∀ q, σ'.2.1 ≤ q → σ'.1 q = none) ∧ ((na' = na ∧ ta' = ta ∧ cap' = cap ∧ σ'.2 = σ.2) ∨ (na' = σ.2.1 ∧ ta' = σ.2.1 + 1 ∧ L.length = cap ∧ cap' = 2 * cap ∧ σ'.2 = (σ.2.1 + 2, σ.2.2.1 + 2, σ.2.2.2 + 4 * cap))) := by
  have hh := h
  obtain ⟨g, h', h1, h2, h3, h4, h5⟩ := h
  have d1 : x ≠ na := fun e => by rw [e, h2] at h1; cases h1
  have d2 : x ≠ ta := fun e => by rw [e, h3] at h1; cases h1
  have d3 : na ≠ ta := fun e => by rw [e, h3] at h2; cases h2
  have lx := alt hfr h1
  have ln := alt hfr h2
  have lta := alt hfr h3
  have lb := alt hfr hb
  rw [oE_X9_append]
  unfold ob_X9_append
  have e1 : oln2 κ σ (some na) = some (nI cap) := by simp only [oln2, h2]; rfl
  have f0 : ofd σ (some x) 11 0 = some (.ref na) := by rw [ofd_at h1]; rfl
  have f2 : ofd σ (some x) 11 2 = some (.int (nI L.length)) := by rw [ofd_at h1]; rfl
  simp only [f0, f2, ovr, ovi, obn, e1]
  by_cases cl : L.length = cap
  · rw [if_pos (by rw [cl])]
    have m2 : (2 : Int32) * nI L.length = nI (2 * cap) := by
      rw [cl]
      unfold nI
      rw [Int32.ofNat_mul]
      rfl
    have o1 : onn (nI (2 * cap)) = true := onn_n (by omega)
    rw [m2, ogd_at o1, olet_at, oq_61, nI_clamp (show 2 * cap < 2 ^ 31 by omega)]
    -- the names' copy
    have k1 : (onew σ (.inl (.object "LiquidTongue$Name", 2 * cap, .inr (.inr (.inr (.inr (fun _ => none)))))) (2 * cap)).1 x = some (.inr (11, [.ref na, .ref ta, .int (nI L.length), .long pl])) := by rw [onew_ne (by omega)]; exact h1
    have k2 : (onew σ (.inl (.object "LiquidTongue$Name", 2 * cap, .inr (.inr (.inr (.inr (fun _ => none)))))) (2 * cap)).1 na = some (.inl (.object "LiquidTongue$Name", cap, .inr (.inr (.inr (.inr g))))) := by rw [onew_ne (by omega)]; exact h2
    have k3 : (onew σ (.inl (.object "LiquidTongue$Name", 2 * cap, .inr (.inr (.inr (.inr (fun _ => none)))))) (2 * cap)).1 σ.2.1 = some (.inl (.object "LiquidTongue$Name", 2 * cap, .inr (.inr (.inr (.inr (fun _ => none)))))) := onew_eq _ _ _
    have k4 : ∀ a, a < σ.2.1 → (onew σ (.inl (.object "LiquidTongue$Name", 2 * cap, .inr (.inr (.inr (.inr (fun _ => none)))))) (2 * cap)).1 a = σ.1 a := fun a ha => onew_ne (by omega)
    have k5 : (onew σ (.inl (.object "LiquidTongue$Name", 2 * cap, .inr (.inr (.inr (.inr (fun _ => none)))))) (2 * cap)).2 = (σ.2.1 + 1, σ.2.2.1 + 1, σ.2.2.2 + 2 * cap) := rfl
    have k6 : ∀ q, σ.2.1 + 1 ≤ q → (onew σ (.inl (.object "LiquidTongue$Name", 2 * cap, .inr (.inr (.inr (.inr (fun _ => none)))))) (2 * cap)).1 q = none := fun q hq => by rw [onew_ne (by omega)]; exact hfr q (by omega)
    generalize (onew σ (.inl (.object "LiquidTongue$Name", 2 * cap, .inr (.inr (.inr (.inr (fun _ => none)))))) (2 * cap)) = σ1 at k1 k2 k3 k4 k5 k6 ⊢
    have k51 : σ1.2.1 = σ.2.1 + 1 := by rw [k5]
    have CY : ocy σ1 (some na) 0 (some σ.2.1) 0 (nI L.length) = some (oput σ1 σ.2.1 (.inl (.object "LiquidTongue$Name", 2 * cap, .inr (.inr (.inr (.inr (va_cpy g (fun _ => none) 0 0 L.length))))))) := by
      have ix : oix 0 0 (nI L.length) cap (2 * cap) = true := oix_0 (by omega) (by omega) (by omega)
      have fd : ∃ q, (List.range 15).find? (fun c => ofits "LiquidTongue$Name" c && oelm σ1 g 0 L.length c) = some q := by
        refine Option.isSome_iff_exists.mp (List.find?_isSome.mpr ⟨6, List.mem_range.mpr (by decide), ?_⟩)
        rw [ofits_n, Bool.true_and]
        unfold oelm
        refine List.all_eq_true.mpr (fun j hj => ?_)
        have hj' := List.mem_range.mp hj
        obtain ⟨q1, q2, fs', q3⟩ := h5 j (L[j]).1 (L[j]).2 (List.getElem?_eq_getElem hj')
        have q4 : σ1.1 (L[j]).1 = some (.inr (6, fs')) := by rw [k4 _ (alt hfr q3)]; exact q3
        simp only [Nat.zero_add, q1, q4, decide_true]
      obtain ⟨q, fd⟩ := fd
      simp only [ocy, k2, k3, ix, true_and, if_true, nI_clamp (show L.length < 2 ^ 31 by omega), show (0 : Int32).toNatClampNeg = 0 by decide, fd]
    have f0 : ofd σ1 (some x) 11 0 = some (.ref na) := by rw [ofd_at k1]; rfl
    have f2 : ofd σ1 (some x) 11 2 = some (.int (nI L.length)) := by rw [ofd_at k1]; rfl
    simp only [f0, f2, ovr, ovi, obn, CY]
    have j1 : (oput σ1 σ.2.1 (.inl (.object "LiquidTongue$Name", 2 * cap, .inr (.inr (.inr (.inr (va_cpy g (fun _ => none) 0 0 L.length))))))).1 x = some (.inr (11, [.ref na, .ref ta, .int (nI L.length), .long pl])) := by rw [oput_ne (by omega)]; exact k1
    rw [show opf (oput σ1 σ.2.1 (.inl (.object "LiquidTongue$Name", 2 * cap, .inr (.inr (.inr (.inr (va_cpy g (fun _ => none) 0 0 L.length))))))) (some x) 11 0 (va_rf (some σ.2.1)) = some (oput (oput σ1 σ.2.1 (.inl (.object "LiquidTongue$Name", 2 * cap, .inr (.inr (.inr (.inr (va_cpy g (fun _ => none) 0 0 L.length))))))) x (.inr (11, [.ref σ.2.1, .ref ta, .int (nI L.length), .long pl]))) from opf_at j1 (show 0 < 4 by decide)]
    simp only []
    have p1 : (oput (oput σ1 σ.2.1 (.inl (.object "LiquidTongue$Name", 2 * cap, .inr (.inr (.inr (.inr (va_cpy g (fun _ => none) 0 0 L.length))))))) x (.inr (11, [.ref σ.2.1, .ref ta, .int (nI L.length), .long pl]))).1 x = some (.inr (11, [.ref σ.2.1, .ref ta, .int (nI L.length), .long pl])) := oput_eq _ _ _
    have p2 : (oput (oput σ1 σ.2.1 (.inl (.object "LiquidTongue$Name", 2 * cap, .inr (.inr (.inr (.inr (va_cpy g (fun _ => none) 0 0 L.length))))))) x (.inr (11, [.ref σ.2.1, .ref ta, .int (nI L.length), .long pl]))).1 σ.2.1 = some (.inl (.object "LiquidTongue$Name", 2 * cap, .inr (.inr (.inr (.inr (va_cpy g (fun _ => none) 0 0 L.length)))))) := by rw [oput_ne (by omega), oput_eq]
    have p3 : ∀ a, a < σ.2.1 → a ≠ x → (oput (oput σ1 σ.2.1 (.inl (.object "LiquidTongue$Name", 2 * cap, .inr (.inr (.inr (.inr (va_cpy g (fun _ => none) 0 0 L.length))))))) x (.inr (11, [.ref σ.2.1, .ref ta, .int (nI L.length), .long pl]))).1 a = σ.1 a := fun a a1 a2 => by rw [oput_ne a2, oput_ne (by omega)]; exact k4 a a1
    have p4 : (oput (oput σ1 σ.2.1 (.inl (.object "LiquidTongue$Name", 2 * cap, .inr (.inr (.inr (.inr (va_cpy g (fun _ => none) 0 0 L.length))))))) x (.inr (11, [.ref σ.2.1, .ref ta, .int (nI L.length), .long pl]))).2 = (σ.2.1 + 1, σ.2.2.1 + 1, σ.2.2.2 + 2 * cap) := k5
    have p5 : ∀ q, σ.2.1 + 1 ≤ q → (oput (oput σ1 σ.2.1 (.inl (.object "LiquidTongue$Name", 2 * cap, .inr (.inr (.inr (.inr (va_cpy g (fun _ => none) 0 0 L.length))))))) x (.inr (11, [.ref σ.2.1, .ref ta, .int (nI L.length), .long pl]))).1 q = none := fun q hq => by rw [oput_ne (by omega), oput_ne (by omega)]; exact k6 q hq
    generalize (oput (oput σ1 σ.2.1 (.inl (.object "LiquidTongue$Name", 2 * cap, .inr (.inr (.inr (.inr (va_cpy g (fun _ => none) 0 0 L.length))))))) x (.inr (11, [.ref σ.2.1, .ref ta, .int (nI L.length), .long pl]))) = σ2 at p1 p2 p3 p4 p5 ⊢
    have p41 : σ2.2.1 = σ.2.1 + 1 := by rw [p4]
    have pta : σ2.1 ta = some (.inl (.int, cap, .inl h')) := by rw [p3 ta lta (Ne.symm d2)]; exact h3
    -- the times' copy
    have CT : oF κ T (n + 1) 238 [va_rf (some ta), .int (nI (2 * cap))] σ2 = some (some (va_rf (some σ2.2.1)), (oput (onew σ2 (.inl (.int, 2 * cap, .inl (fun _ => 0))) (2 * cap)) σ2.2.1 (.inl (.int, 2 * cap, .inl (va_cpy h' (fun _ => 0) 0 0 cap))))) := by
      have l1 : oln2 κ σ2 (some ta) = some (nI cap) := by simp only [oln2, pta]; rfl
      have r1 : (onew σ2 (.inl (.int, 2 * cap, .inl (fun _ => 0))) (2 * cap)).1 ta = some (.inl (.int, cap, .inl h')) := by rw [onew_ne (by omega)]; exact pta
      have r2 : (onew σ2 (.inl (.int, 2 * cap, .inl (fun _ => 0))) (2 * cap)).1 σ2.2.1 = some (.inl (.int, 2 * cap, .inl (fun _ => 0))) := onew_eq _ _ _
      have l2 : oln2 κ (onew σ2 (.inl (.int, 2 * cap, .inl (fun _ => 0))) (2 * cap)) (some ta) = some (nI cap) := by simp only [oln2, r1]; rfl
      have ix : oix 0 0 (nI cap) cap (2 * cap) = true := oix_0 (Nat.le_refl _) (by omega) (by omega)
      rw [oE_J7_copyOf_59c91]
      unfold ob_J7_copyOf_59c91
      rw [l1, obn_at, if_neg (fun e => by have := nI_inj' (by omega) (by omega) e; omega), ogd_at o1, olet_at, nI_clamp (show 2 * cap < 2 ^ 31 by omega), l2, obn_at, if_neg (show ¬ nI (2 * cap) < nI cap from fun e => Int32.lt_irrefl (Int32.lt_trans e (nI_lt (by omega) (by omega))))]
      have CY2 : ocy (onew σ2 (.inl (.int, 2 * cap, .inl (fun _ => 0))) (2 * cap)) (some ta) 0 (some σ2.2.1) 0 (nI cap) = some (oput (onew σ2 (.inl (.int, 2 * cap, .inl (fun _ => 0))) (2 * cap)) σ2.2.1 (.inl (.int, 2 * cap, .inl (va_cpy h' (fun _ => 0) 0 0 cap)))) := by
        simp only [ocy, r1, r2, ix, if_true, nI_clamp (show cap < 2 ^ 31 by omega), show (0 : Int32).toNatClampNeg = 0 by decide]
      rw [CY2, obn_at]
    have f1 : ofd σ2 (some x) 11 1 = some (.ref ta) := by rw [ofd_at p1]; rfl
    have f2 : ofd σ2 (some x) 11 2 = some (.int (nI L.length)) := by rw [ofd_at p1]; rfl
    simp only [f1, f2, ovr, ovi, m2]
    rw [CT, orn_at]
    have w1 : (oput (onew σ2 (.inl (.int, 2 * cap, .inl (fun _ => 0))) (2 * cap)) σ2.2.1 (.inl (.int, 2 * cap, .inl (va_cpy h' (fun _ => 0) 0 0 cap)))).1 x = some (.inr (11, [.ref σ.2.1, .ref ta, .int (nI L.length), .long pl])) := by rw [oput_ne (by omega), onew_ne (by omega)]; exact p1
    rw [show opf (oput (onew σ2 (.inl (.int, 2 * cap, .inl (fun _ => 0))) (2 * cap)) σ2.2.1 (.inl (.int, 2 * cap, .inl (va_cpy h' (fun _ => 0) 0 0 cap)))) (some x) 11 1 (va_rf (some σ2.2.1)) = some (oput (oput (onew σ2 (.inl (.int, 2 * cap, .inl (fun _ => 0))) (2 * cap)) σ2.2.1 (.inl (.int, 2 * cap, .inl (va_cpy h' (fun _ => 0) 0 0 cap)))) x (.inr (11, [.ref σ.2.1, .ref σ2.2.1, .int (nI L.length), .long pl]))) from opf_at w1 (show 1 < 4 by decide)]
    simp only []
    have s1 : ∀ a, a < σ.2.1 → a ≠ x → (oput (oput (onew σ2 (.inl (.int, 2 * cap, .inl (fun _ => 0))) (2 * cap)) σ2.2.1 (.inl (.int, 2 * cap, .inl (va_cpy h' (fun _ => 0) 0 0 cap)))) x (.inr (11, [.ref σ.2.1, .ref σ2.2.1, .int (nI L.length), .long pl]))).1 a = σ.1 a := fun a a1 a2 => by rw [oput_ne a2, oput_ne (by omega), onew_ne (by omega)]; exact p3 a a1 a2
    have SM : cSm (oput (oput (onew σ2 (.inl (.int, 2 * cap, .inl (fun _ => 0))) (2 * cap)) σ2.2.1 (.inl (.int, 2 * cap, .inl (va_cpy h' (fun _ => 0) 0 0 cap)))) x (.inr (11, [.ref σ.2.1, .ref σ2.2.1, .int (nI L.length), .long pl]))) x σ.2.1 σ2.2.1 (2 * cap) L pl := by
      refine ⟨va_cpy g (fun _ => none) 0 0 L.length, va_cpy h' (fun _ => 0) 0 0 cap, oput_eq _ _ _, ?_, ?_, ⟨by omega, by omega, by omega, by
        obtain ⟨k, hk⟩ := h4.2.2.2
        exact ⟨k + 1, by rw [hk, Nat.pow_succ]; omega⟩⟩, fun k b' c e => ?_⟩
      · rw [oput_ne (by omega), oput_ne (by omega), onew_ne (by omega)]; exact p2
      · rw [oput_ne (by omega), oput_eq]
      · have hk : k < L.length := by
          by_cases c : k < L.length
          · exact c
          · rw [List.getElem?_eq_none (by omega)] at e; cases e
        obtain ⟨q1, q2, fs', q3⟩ := h5 k b' c e
        refine ⟨?_, ?_, fs', ?_⟩
        · show (if 0 ≤ k ∧ k < 0 + L.length then g (0 + (k - 0)) else none) = some b'
          rw [if_pos (by omega), show 0 + (k - 0) = k by omega]; exact q1
        · show (if 0 ≤ k ∧ k < 0 + cap then h' (0 + (k - 0)) else 0) = c
          rw [if_pos (by omega), show 0 + (k - 0) = k by omega]; exact q2
        · rw [s1 b' (alt hfr q3) (fun z => by rw [z, h1] at q3; cases q3)]; exact q3
    have s2 : ∀ q, σ.2.1 + 2 ≤ q → (oput (oput (onew σ2 (.inl (.int, 2 * cap, .inl (fun _ => 0))) (2 * cap)) σ2.2.1 (.inl (.int, 2 * cap, .inl (va_cpy h' (fun _ => 0) 0 0 cap)))) x (.inr (11, [.ref σ.2.1, .ref σ2.2.1, .int (nI L.length), .long pl]))).1 q = none := fun q hq => by rw [oput_ne (by omega), oput_ne (by omega), onew_ne (by omega)]; exact p5 q (by omega)
    have s3 : (oput (oput (onew σ2 (.inl (.int, 2 * cap, .inl (fun _ => 0))) (2 * cap)) σ2.2.1 (.inl (.int, 2 * cap, .inl (va_cpy h' (fun _ => 0) 0 0 cap)))) x (.inr (11, [.ref σ.2.1, .ref σ2.2.1, .int (nI L.length), .long pl]))).2 = (σ.2.1 + 2, σ.2.2.1 + 2, σ.2.2.2 + 4 * cap) := by
      show (σ2.2.1 + 1, σ2.2.2.1 + 1, σ2.2.2.2 + 2 * cap) = _
      rw [p4]
      show (σ.2.1 + 1 + 1, σ.2.2.1 + 1 + 1, σ.2.2.2 + 2 * cap + 2 * cap) = _
      rw [show σ.2.2.2 + 2 * cap + 2 * cap = σ.2.2.2 + 4 * cap by omega]
    generalize (oput (oput (onew σ2 (.inl (.int, 2 * cap, .inl (fun _ => 0))) (2 * cap)) σ2.2.1 (.inl (.int, 2 * cap, .inl (va_cpy h' (fun _ => 0) 0 0 cap)))) x (.inr (11, [.ref σ.2.1, .ref σ2.2.1, .int (nI L.length), .long pl]))) = σ3 at s1 s2 s3 SM ⊢
    have hb3 : σ3.1 b = some (.inr (6, fs)) := by rw [s1 b lb (fun z => by rw [z, h1] at hb; cases hb)]; exact hb
    obtain ⟨σ4, y1, y2, y3, y4⟩ := x_put (κ := κ) (T := T) (k := n + 1) SM (show L.length < 2 * cap by omega) hb3
    refine ⟨σ4, _, _, _, y1, y2, fun a a1 a2 a3 a4 => ?_, fun q hq => ?_, Or.inr ⟨rfl, p41, cl, rfl, y4.trans s3⟩⟩
    · rw [y3 a a2 (by omega) (by omega)]; exact s1 a a1 a2
    · rw [y4, s3] at hq
      have hq' : σ.2.1 + 2 ≤ q := hq
      rw [y3 q (by omega) (by omega) (by omega)]; exact s2 q hq'
  · rw [if_neg (fun e => cl (nI_inj' (by omega) (by omega) e))]
    obtain ⟨σ4, y1, y2, y3, y4⟩ := x_put (κ := κ) (T := T) (k := n + 1) hh (by omega) hb
    refine ⟨σ4, na, ta, cap, y1, y2, fun a a1 a2 a3 a4 => y3 a a2 a3 a4, fun q hq => ?_, Or.inl ⟨rfl, rfl, rfl, y4⟩⟩
    rw [y4] at hq
    rw [y3 q (by omega) (by omega) (by omega)]
    exact hfr q hq
end CSN
