/-! run(), the class: one ARG -/
section HAG
variable {κ : oKv} {T n : Nat} {σ : oSt} {ma ha hl top : Nat} {fm : List Value} {hp : Nat → Int64} {G : hG} {Ar : Nat → Prop} {nb : tT → List Nat → Nat → Prop} {h : xmHp} {vs : List xmV} {a : Nat} {f pp ee : Nat → Int32} {env : List Nat} {e : Nat} {fs : List Value}
/-- **argument() (91)**: a NAME -/
theorem h_argN {b' : Nat} {v : xmV} (M : hMa ma fm ha hl hp top σ) (hsc : fm[10]? = some (.int (nI a))) (hs : hSc G Ar top hp vs.reverse a) (hm : σ.1 e = some (.inr (7, fs))) (h0 : fs[0]? = some (.int 400)) (h6 : fs[6]? = some (.int 1)) (h9 : fs[9]? = some (.ref b')) (h2 : fs[2]? = some (.int (nI vs.length))) (Nb : hNa vs σ b' v) (hT : vs.length < T) (hl' : vs.length < 2 ^ 31) : ∃ x, oF κ T (n + 2) 91 [va_rf (some ma), va_rf (some e)] σ = some (some (.long x), σ) ∧ hV G v x := by
  obtain ⟨gs, k, c, n1, n2, n3, n4, n5⟩ := Nb
  obtain ⟨xv, V1, V2⟩ := c_valueOf (κ := κ) (T := T) (n := n) M hsc hs n1 n2 n4 hT hl'
  have e0 : ovi (ofd σ (some e) 7 0) = some 400 := by rw [ofd_at hm, h0]; rfl
  have e6 : ovi (ofd σ (some e) 7 6) = some 1 := by rw [ofd_at hm, h6]; rfl
  have e9 : ovr (ofd σ (some e) 7 9) = some (some b') := by rw [ofd_at hm, h9]; rfl
  have e2 : ovi (ofd σ (some e) 7 2) = some (nI vs.length) := by rw [ofd_at hm, h2]; rfl
  rw [oE_X3_argument]
  unfold ob_X3_argument
  rw [e0, obn_at, if_pos rfl, e6, obn_at, if_pos rfl, e9, obn_at, e2, obn_at, oob_at M.1.1, obn_at, V1]
  exact ⟨xv, rfl, V2⟩
/-- an S that is no NAME -/
theorem h_argS {ps : List tP} {al : Int32} (M : hMa ma fm ha hl hp top σ) (H : hHp nb G top hp h) (hsc : fm[10]? = some (.int (nI a))) (hen : fm[12]? = some (.int 0)) (hs : hSc G Ar top hp vs.reverse a) (hm : σ.1 e = some (.inr (7, fs))) (h0 : fs[0]? = some (.int 400)) (h6 : fs[6]? = some (.int al)) (hal : al ≠ 1) (N : hSn T f pp ee h env vs σ e ps) (hT : vs.length < T) (hT' : 5000 ≤ T) (hl' : vs.length < 2 ^ 31) : oF κ T (n + 3) 91 [va_rf (some ma), va_rf (some e)] σ = some (some (.long (xmSm T f pp ee h env vs ps)), hSe σ ma fm 0 (xmSm T f pp ee h env vs ps)) := by
  have R := h_sn (κ := κ) (T := T) (n := n) M H hsc hen hs N hT hT' hl'
  have e0 : ovi (ofd σ (some e) 7 0) = some 400 := by rw [ofd_at hm, h0]; rfl
  have e6 : ovi (ofd σ (some e) 7 6) = some al := by rw [ofd_at hm, h6]; rfl
  rw [oE_X3_argument]
  unfold ob_X3_argument
  rw [e0, obn_at, if_pos rfl, e6, obn_at, if_neg hal, oob_at M.1.1, obn_at, R]
  rfl
/-- true or false -/
theorem h_argB {c : Bool} (hm : σ.1 e = some (.inr (7, fs))) (h0 : fs[0]? = some (.int (if c = true then 223 else 205))) : oF κ T (n + 1) 91 [va_rf (some ma), va_rf (some e)] σ = some (some (.long (if c = true then 1 else 0)), σ) := by
  have e0 : ovi (ofd σ (some e) 7 0) = some (if c = true then 223 else 205) := by rw [ofd_at hm, h0]; rfl
  rw [oE_X3_argument]
  unfold ob_X3_argument
  rw [e0, obn_at]
  cases c
  · rfl
  · rfl
/-- a fun, without FUEL -/
theorem h_argF0 (M : hMa ma fm ha hl hp top σ) (hm : σ.1 e = some (.inr (7, fs))) (h0 : fs[0]? = some (.int 206)) (hfu : fm[11]? = some (.int 0)) : oF κ T (n + 1) 91 [va_rf (some ma), va_rf (some e)] σ = some (some (.long 0), oput σ ma (.inr (5, fm.set 12 (.int 1)))) := by
  have e0 : ovi (ofd σ (some e) 7 0) = some 206 := by rw [ofd_at hm, h0]; rfl
  rw [oE_X3_argument]
  unfold ob_X3_argument
  rw [e0, obn_at, if_neg (by decide), obn_at, if_pos rfl, ofd_at M.1.1, hfu, ovi_in, obn_at, if_pos rfl, opf_at M.1.1 (by rw [M.1.2]; decide), obn_at]
/-- a fun -/
theorem h_argF {fu nu : Nat} (M : hMa ma fm ha hl hp top σ) (hsc : fm[10]? = some (.int (nI a))) (hm : σ.1 e = some (.inr (7, fs))) (h0 : fs[0]? = some (.int 206)) (h7 : fs[7]? = some (.int (nI nu))) (hfu : fm[11]? = some (.int (nI (fu + 1)))) (hf : fu < 20000) (hk : top + 3 ≤ 332100) (hne : ma ≠ ha) (hml : ma < σ.2.1) (hhl : ha < σ.2.1) (hfr : ∀ q, σ.2.1 ≤ q → σ.1 q = none) (W : Nat → Prop) : ∃ σ' ha' hl2 hp' gm, oF κ T (n + 4) 91 [va_rf (some ma), va_rf (some e)] σ = some (some (.long (xmNi top)), σ') ∧ hMa ma gm ha' hl2 hp' (top + 3) σ' ∧ hFx [4, 5, 11] fm gm ∧ gm[11]? = some (.int (nI fu)) ∧ ((∀ i, i < top → hp' i = hp i) ∧ hp' top = xmNi nu ∧ hp' (top + 1) = xmNi a ∧ hp' (top + 2) = 0) ∧ hKe W ma ha σ σ' ha' ∧ (σ'.2.2.2 + 2 * hl ≤ σ.2.2.2 + 2 * hl2 ∧ 64 * σ'.2.2.1 + hl ≤ 64 * σ.2.2.1 + hl2 ∧ (hl2 = hl ∨ hl2 ≤ 664200)) := by
  have e0 : ovi (ofd σ (some e) 7 0) = some 206 := by rw [ofd_at hm, h0]; rfl
  have n0 : ¬ nI (fu + 1) = (0 : Int32) := fun w => by have := nI_inj' (b := 0) (by omega) (by omega) w; omega
  have e11 : ovi (ofd σ (some ma) 5 11) = some (nI (fu + 1)) := by rw [ofd_at M.1.1, hfu]; rfl
  have es : nI (fu + 1) - 1 = nI fu := by rw [← nI_p1, nI_pm]
  obtain ⟨⟨m1, m2⟩, ⟨m3, m4⟩, m5, m6, m7, m8⟩ := id M
  have M1 : hMa ma (fm.set 11 (.int (nI fu))) ha hl hp top (oput σ ma (.inr (5, fm.set 11 (.int (nI fu))))) := ⟨⟨oput_eq _ _ _, by rw [List.length_set]; exact m2⟩, ⟨by rw [List.getElem?_set_ne (by decide)]; exact m3, by rw [List.getElem?_set_ne (by decide)]; exact m4⟩, (oput_ne hne.symm).trans m5, m6, m7, m8⟩
  have K1 := (hKe.rf (W := W) hfr hhl hne.symm).pt (c := .inr (5, fm.set 11 (.int (nI fu)))) (x := ma) (Or.inl rfl) hml
  have hm1 : (oput σ ma (.inr (5, fm.set 11 (.int (nI fu))))).1 e = some (.inr (7, fs)) := by
    rw [oput_ne (fun w => by rw [w, m1] at hm; cases hm)]; exact hm
  have e7 : ovi (ofd (oput σ ma (.inr (5, fm.set 11 (.int (nI fu))))) (some e) 7 7) = some (nI nu) := by rw [ofd_at hm1, h7]; rfl
  have e10 : ovi (ofd (oput σ ma (.inr (5, fm.set 11 (.int (nI fu))))) (some ma) 5 10) = some (nI a) := by rw [ofd_at M1.1.1, List.getElem?_set_ne (by decide), hsc]; rfl
  obtain ⟨σ', ha', hl2, hp', T1, T2, T3, T4, T5, T6⟩ := h_triple (κ := κ) (T := T) (n := n) (x := xmNi nu) (y := xmNi a) (z := 0) M1 hk hne hml hhl K1.2.1
  have T1' : oF κ T (n + 3) 82 [va_rf (some ma), .long (nI nu).toInt64, .long (nI a).toInt64, .long 0] (oput σ ma (.inr (5, fm.set 11 (.int (nI fu))))) = some (some (.int (nI top)), σ') := T1
  have b := T4.le
  rw [oE_X3_argument]
  unfold ob_X3_argument
  rw [e0, obn_at, if_neg (by decide), obn_at, if_pos rfl, e11, obn_at, if_neg n0, obn_at, es, opf_at m1 (by rw [m2]; decide), obn_at, e7, obn_at, e10, obn_at, oob_at M1.1.1, obn_at, T1', oin_at]
  refine ⟨σ', ha', hl2, hp', _, rfl, T2, (((hFx.rf [4, 5, 11] fm).st (by decide)).st (by decide)).st (by decide), ?_, T3, K1.gr T4 T5 T6, b.2⟩
  rw [List.getElem?_set_ne (by decide), List.getElem?_set_ne (by decide), List.getElem?_set_self (by rw [m2]; decide)]
end HAG
