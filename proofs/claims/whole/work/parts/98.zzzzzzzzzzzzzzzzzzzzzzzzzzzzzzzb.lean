/-! run(), the class: pairs and triples -/
section HPT
variable {κ : oKv} {T n : Nat} {σ : oSt} {ma ha hl top : Nat} {fm : List Value} {hp : Nat → Int64}
/-- a place of the heap is written -/
theorem hMa.sj (M : hMa ma fm ha hl hp top σ) (hne : ha ≠ ma) {i : Nat} (hi : i < top) (x : Int64) : osj σ (some ha) (nI i) x = some (oput σ ha (.inl (.long, hl, .inr (.inl (vp_updL hp i x))))) ∧ hMa ma fm ha hl (vp_updL hp i x) top (oput σ ha (.inl (.long, hl, .inr (.inl (vp_updL hp i x))))) := by
  obtain ⟨⟨m1, m2⟩, ⟨m3, m4⟩, m5, m6, m7, m8⟩ := M
  have z : zin (nI i) hl = true := zin_n (N := i) (c := hl) (by omega) (by omega)
  refine ⟨?_, ⟨⟨(oput_ne hne.symm).trans m1, m2⟩, ⟨m3, m4⟩, oput_eq _ _ _, m6, m7, m8⟩⟩
  unfold osj
  simp only [m5]
  rw [if_pos ⟨trivial, z⟩, nI_clamp (by omega)]
theorem hGr.w {σ' : oSt} {ha' hl' : Nat} {c : oC} (g : hGr ma ha hl σ σ' ha' hl') (h1 : ha' < σ'.2.1) (h2 : ha < σ.2.1) : hGr ma ha hl σ (oput σ' ha' c) ha' hl' := by
  obtain ⟨g1, g2, g3⟩ := g
  refine ⟨fun x hx q1 q2 => ?_, fun q hq => (oput_ne (by have hq : σ'.2.1 ≤ q := hq; omega)).trans (g2 q hq), g3⟩
  rcases g3 with ⟨e, -⟩ | ⟨e, -⟩
  · rw [oput_ne (by rw [e]; exact q2)]; exact g1 x hx q1 q2
  · rw [oput_ne (by omega)]; exact g1 x hx q1 q2
/-- **pair() (79)** -/
theorem h_pair {x : Int64} {b : Nat} (M : hMa ma fm ha hl hp top σ) (hk : top + 2 ≤ 332100) (hne : ma ≠ ha) (hml : ma < σ.2.1) (hhl : ha < σ.2.1) (hfr : ∀ q, σ.2.1 ≤ q → σ.1 q = none) : ∃ σ' ha' hl' hp', oF κ T (n + 3) 79 [va_rf (some ma), .long x, .int (nI b)] σ = some (some (.int (nI top)), σ') ∧ hMa ma ((fm.set 4 (.ref ha')).set 5 (.int (nI (top + 2)))) ha' hl' hp' (top + 2) σ' ∧ ((∀ i, i < top → hp' i = hp i) ∧ hp' top = x ∧ hp' (top + 1) = xmNi b) ∧ hGr ma ha hl σ σ' ha' hl' ∧ ha' ≠ ma ∧ ha' < σ'.2.1 := by
  obtain ⟨σ1, ha', hl', hp1, R, M1, k1, g1, n1, n2⟩ := h_room (κ := κ) (T := T) (n := n) (k := 2) M hk hne hml hhl hfr
  obtain ⟨S1, M2⟩ := M1.sj n1 (i := top) (by omega) x
  obtain ⟨S2, M3⟩ := M2.sj n1 (i := top + 1) (by omega) (xmNi b)
  have S2' : osj (oput σ1 ha' (.inl (.long, hl', .inr (.inl (vp_updL hp1 top x))))) (some ha') (nI (top + 1)) (nI b).toInt64 = _ := S2
  have R' : oF κ T (n + 2) 76 [va_rf (some ma), .int 2] σ = some (some (.int (nI top)), σ1) := R
  rw [oE_X3_pair]
  unfold ob_X3_pair
  rw [oob_at M.1.1, obn_at, R']
  unfold oin
  simp only
  rw [M1.hp4, obn_at, S1, obn_at, M2.hp4, obn_at, nI_p1, S2', obn_at]
  refine ⟨_, ha', hl', _, rfl, M3, ⟨fun i hi => ?_, ?_, ?_⟩, (g1.w n2 hhl).w n2 hhl, n1, n2⟩
  · rw [vp_L, if_neg (by omega), vp_L, if_neg (by omega)]; exact k1 i hi
  · rw [vp_L, if_neg (by omega), vp_L, if_pos rfl]
  · rw [vp_L, if_pos rfl]
/-- **triple() (82)** -/
theorem h_triple {x y z : Int64} (M : hMa ma fm ha hl hp top σ) (hk : top + 3 ≤ 332100) (hne : ma ≠ ha) (hml : ma < σ.2.1) (hhl : ha < σ.2.1) (hfr : ∀ q, σ.2.1 ≤ q → σ.1 q = none) : ∃ σ' ha' hl' hp', oF κ T (n + 3) 82 [va_rf (some ma), .long x, .long y, .long z] σ = some (some (.int (nI top)), σ') ∧ hMa ma ((fm.set 4 (.ref ha')).set 5 (.int (nI (top + 3)))) ha' hl' hp' (top + 3) σ' ∧ ((∀ i, i < top → hp' i = hp i) ∧ hp' top = x ∧ hp' (top + 1) = y ∧ hp' (top + 2) = z) ∧ hGr ma ha hl σ σ' ha' hl' ∧ ha' ≠ ma ∧ ha' < σ'.2.1 := by
  obtain ⟨σ1, ha', hl', hp1, R, M1, k1, g1, n1, n2⟩ := h_room (κ := κ) (T := T) (n := n) (k := 3) M hk hne hml hhl hfr
  obtain ⟨S1, M2⟩ := M1.sj n1 (i := top) (by omega) x
  obtain ⟨S2, M3⟩ := M2.sj n1 (i := top + 1) (by omega) y
  obtain ⟨S3, M4⟩ := M3.sj n1 (i := top + 2) (by omega) z
  have R' : oF κ T (n + 2) 76 [va_rf (some ma), .int 3] σ = some (some (.int (nI top)), σ1) := R
  have e2 : nI top + 2 = nI (top + 2) := by rw [show (2 : Int32) = nI 2 from rfl, nI_add]
  rw [oE_X3_triple]
  unfold ob_X3_triple
  rw [oob_at M.1.1, obn_at, R']
  unfold oin
  simp only
  rw [M1.hp4, obn_at, S1, obn_at, M2.hp4, obn_at, nI_p1, S2, obn_at, M3.hp4, obn_at, e2, S3, obn_at]
  refine ⟨_, ha', hl', _, rfl, M4, ⟨fun i hi => ?_, ?_, ?_, ?_⟩, ((g1.w n2 hhl).w n2 hhl).w n2 hhl, n1, n2⟩
  · rw [vp_L, if_neg (by omega), vp_L, if_neg (by omega), vp_L, if_neg (by omega)]; exact k1 i hi
  · rw [vp_L, if_neg (by omega), vp_L, if_neg (by omega), vp_L, if_pos rfl]
  · rw [vp_L, if_neg (by omega), vp_L, if_pos rfl]
  · rw [vp_L, if_pos rfl]
/-- zeros for an array -/
theorem h_ar18 {call : oCl} {z c el : Nat} (hz : z ≤ 1000) (hne : ha ≠ ma) (hc : c + z < top) (hel : fm[14]? = some (.int (nI el))) : ∀ (r j f : Nat) (σ : oSt) (hp : Nat → Int64), hMa ma fm ha hl hp top σ → j + r = z + 1 → 1 ≤ j → r < f → ∃ σ' hp', ol_X3_array_18 T call κ f (some ma) (nI z) (nI c) (nI j) σ = some (some (.int (nI c)), oput σ' ma (.inr (5, fm.set 14 (.int (nI (el + z)))))) ∧ hMa ma fm ha hl hp' top σ' ∧ (∀ i, ¬ (c + j ≤ i ∧ i ≤ c + z) → hp' i = hp i) ∧ (∀ i, c + j ≤ i → i ≤ c + z → hp' i = 0) ∧ (∀ x, x ≠ ha → σ'.1 x = σ.1 x) ∧ σ'.2 = σ.2
  | 0, j, f, σ, hp, M, hj, h1, hf => by
    obtain ⟨f, rfl⟩ : ∃ g, f = g + 1 := ⟨f - 1, by omega⟩
    rw [ol_X3_array_18, if_pos (nI_lt (by omega) (by omega)), ofd_at M.1.1, hel, ovi_in, obn_at, nI_add, opf_at M.1.1 (by rw [M.1.2]; decide), obn_at]
    exact ⟨σ, hp, rfl, M, fun _ _ => rfl, fun i q1 q2 => by omega, fun _ _ => rfl, rfl⟩
  | r + 1, j, f, σ, hp, M, hj, h1, hf => by
    obtain ⟨f, rfl⟩ : ∃ g, f = g + 1 := ⟨f - 1, by omega⟩
    obtain ⟨S1, M1⟩ := M.sj hne (i := c + j) (by omega) 0
    have nl : ¬ nI z < nI j := fun w => by
      rw [Int32.lt_iff_toInt_lt, nI_toInt (by have := M.2.2.2; omega), nI_toInt (by omega)] at w
      omega
    rw [ol_X3_array_18, if_neg nl, M.hp4, obn_at, nI_add, S1, obn_at, nI_p1]
    obtain ⟨σ', hp', a1, a2, a3, a4, a5, a6⟩ := h_ar18 (call := call) hz hne hc hel r (j + 1) f _ _ M1 (by omega) (by omega) (by omega)
    refine ⟨σ', hp', a1, a2, fun i hi => ?_, fun i q1 q2 => ?_, fun x hx => ?_, a6⟩
    · rw [a3 i (by omega), vp_L, if_neg (by omega)]
    · by_cases e : i = c + j
      · rw [a3 i (by omega), vp_L, if_pos e]
      · exact a4 i (by omega) q2
    · rw [a5 x hx, oput_ne hx]
end HPT
