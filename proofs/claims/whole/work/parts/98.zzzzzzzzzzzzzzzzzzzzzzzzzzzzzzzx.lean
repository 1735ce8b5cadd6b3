/-! run(), the class: quotient(), cons() -/
section HQV
variable {κ : oKv} {T n : Nat} {σ : oSt} {ma ha hl top : Nat} {fm : List Value} {hp : Nat → Int64} {G : hG} {Ar : Nat → Prop} {nb : tT → List Nat → Nat → Prop} {h : xmHp} {vs : List xmV} {a : Nat} {f pp ee : Nat → Int32} {env : List Nat}
/-- a quotient of anything -/
theorem h_flx {a b : Int64} (hz : b ≠ 0) : (∃ z, oF κ T (n + 1) 243 [.long a, .long b] σ = some (some (.long z), σ)) ∧ ∃ z, oF κ T (n + 1) 244 [.long a, .long b] σ = some (some (.long z), σ) := by
  have nd : decide (¬ b = 0) = true := decide_eq_true hz
  rw [oE_J9_floorDiv_f86c9, oE_J9_floorMod_f86c9]
  unfold ob_J9_floorDiv_f86c9 ob_J9_floorMod_f86c9
  rw [ogd_at nd, ogd_at nd]
  constructor
  · by_cases c : 0 ≤ lg_cmp (a ^^^ b) 0
    · rw [if_pos c]; exact ⟨_, rfl⟩
    · rw [if_neg c]
      by_cases c2 : lg_cmp (a / b * b) a = 0
      · rw [if_pos c2]; exact ⟨_, rfl⟩
      · rw [if_neg c2]; exact ⟨_, rfl⟩
  · by_cases c : 0 ≤ lg_cmp (a ^^^ b) 0
    · rw [if_pos c]; exact ⟨_, rfl⟩
    · rw [if_neg c]
      by_cases c2 : lg_cmp (a - a / b * b) 0 = 0
      · rw [if_pos c2]; exact ⟨_, rfl⟩
      · rw [if_neg c2]; exact ⟨_, rfl⟩
/-- **quotient() (97)** -/
theorem h_quot {e l' r' : Nat} {ps ps' : List tP} {fs : List Value} {k : Int32} (M : hMa ma fm ha hl hp top σ) (H : hHp nb G top hp h) (hsc : fm[10]? = some (.int (nI a))) (hen : fm[12]? = some (.int 0)) (hs : hSc G Ar top hp vs.reverse a) (hm : σ.1 e = some (.inr (7, fs))) (h0 : fs[0]? = some (.int k)) (h15 : fs[15]? = some (.ref l')) (h16 : fs[16]? = some (.ref r')) (N : hSn T f pp ee h env vs σ l' ps) (N' : hSn T f pp ee h env vs σ r' ps') (hT : vs.length < T) (hT' : 5000 ≤ T) (hl' : vs.length < 2 ^ 31) : hLo ma fm σ (if xmB (xmSm T f pp ee h env vs ps) = true ∧ xmB (xmSm T f pp ee h env vs ps') = true then (if xmSm T f pp ee h env vs ps' = 0 then .inl 4 else .inr (Int64.ofInt (if k = 47 then (xmSm T f pp ee h env vs ps).toInt.fdiv (xmSm T f pp ee h env vs ps').toInt else (xmSm T f pp ee h env vs ps).toInt.fmod (xmSm T f pp ee h env vs ps').toInt))) else .inl 2) (oF κ T (n + 3) 97 [va_rf (some ma), va_rf (some e)] σ) := by
  have R1 := h_sn (κ := κ) (T := T) (n := n) M H hsc hen hs N hT hT' hl'
  have R2 := h_sn (κ := κ) (T := T) (n := n) M H hsc hen hs N' hT hT' hl'
  have e15 : ovr (ofd σ (some e) 7 15) = some (some l') := by rw [ofd_at hm, h15]; rfl
  have e16 : ovr (ofd σ (some e) 7 16) = some (some r') := by rw [ofd_at hm, h16]; rfl
  have e0 : ovi (ofd σ (some e) 7 0) = some k := by rw [ofd_at hm, h0]; rfl
  have e12 : ovi (ofd σ (some ma) 5 12) = some 0 := by rw [ofd_at M.1.1, hen]; rfl
  have ma' : (oput σ ma (.inr (5, fm.set 12 (.int 2)))).1 ma = some (.inr (5, fm.set 12 (.int 2))) := oput_eq _ _ _
  have e12' : ovi (ofd (oput σ ma (.inr (5, fm.set 12 (.int 2)))) (some ma) 5 12) = some 2 := by
    rw [ofd_at ma', List.getElem?_set_self (by rw [M.1.2]; decide)]; rfl
  have nz : ∀ {x : Int64}, ¬ xmB x = true → x ≠ 0 := fun hx w => hx (by rw [w]; decide)
  have hm' : (oput σ ma (.inr (5, fm.set 12 (.int 2)))).1 e = some (.inr (7, fs)) := by
    rw [oput_ne (fun w => by rw [w, M.1.1] at hm; cases hm)]; exact hm
  have e0' : ovi (ofd (oput σ ma (.inr (5, fm.set 12 (.int 2)))) (some e) 7 0) = some k := by rw [ofd_at hm', h0]; rfl
  have bd := N'
  obtain ⟨-, -, -, -, -, -, -, -, -, -, -, -, -, -, bd⟩ := bd
  rw [oE_X3_quotient]
  unfold ob_X3_quotient
  rw [e15, obn_at, oob_at M.1.1, obn_at, R1]
  unfold oln'
  simp only
  generalize xmSm T f pp ee h env vs ps = x
  generalize xmSm T f pp ee h env vs ps' = y at R2 bd ⊢
  by_cases cx : xmB x = true
  · have es : hSe σ ma fm 0 x = σ := by unfold hSe; rw [if_pos cx]
    rw [es, e12, obn_at, if_pos rfl, e16, obn_at, oob_at M.1.1, obn_at, R2]
    simp only
    unfold oj_X3_quotient_28 oj_X3_quotient_53
    by_cases cy : xmB y = true
    · have es2 : hSe σ ma fm 0 y = σ := by unfold hSe; rw [if_pos cy]
      rw [es2, if_pos (show xmB x = true ∧ xmB y = true from ⟨cx, cy⟩)]
      by_cases y0 : y = 0
      · rw [if_pos ((lg_eq _ _).mpr y0), if_pos y0, e12, obn_at, if_pos rfl, opf_at M.1.1 (by rw [M.1.2]; decide), obn_at]
        exact ⟨_, rfl⟩
      · obtain ⟨F1, F2⟩ := h_fl (κ := κ) (T := T) (n := n + 1) (σ := σ) cx cy y0
        rw [if_neg (fun w => y0 ((lg_eq _ _).mp w)), if_neg y0, e0, obn_at]
        by_cases ck : k = 47
        · rw [if_pos ck, if_pos ck, F1]
          rfl
        · rw [if_neg ck, if_neg ck, F2]
          rfl
    · have es2 : hSe σ ma fm 0 y = oput σ ma (.inr (5, fm.set 12 (.int 2))) := by unfold hSe; rw [if_neg cy, if_pos rfl]
      obtain ⟨⟨z1, F1⟩, z2, F2⟩ := h_flx (κ := κ) (T := T) (n := n + 1) (σ := oput σ ma (.inr (5, fm.set 12 (.int 2)))) (a := x) (nz cy)
      rw [es2, if_neg (fun w : xmB x = true ∧ xmB y = true => cy w.2), if_neg (fun w => nz cy ((lg_eq _ _).mp w)), e0', obn_at]
      by_cases ck : k = 47
      · rw [if_pos ck, F1]
        exact ⟨z1, rfl⟩
      · rw [if_neg ck, F2]
        exact ⟨z2, rfl⟩
  · have es : hSe σ ma fm 0 x = oput σ ma (.inr (5, fm.set 12 (.int 2))) := by unfold hSe; rw [if_neg cx, if_pos rfl]
    rw [if_neg (fun w : xmB x = true ∧ xmB y = true => cx w.1), es, e12', obn_at, if_neg (by decide)]
    unfold oj_X3_quotient_28 oj_X3_quotient_53
    rw [if_pos (by decide), e12', obn_at, if_neg (by decide), obn_at, opf_at ma' (by rw [List.length_set, M.1.2]; decide), obn_at, oput_oput, List.set_set]
    exact ⟨_, rfl⟩
/-- **cons() (95)** -/
theorem h_cons {e b' l' : Nat} {ps : List tP} {fs : List Value} {v : xmV} (M : hMa ma fm ha hl hp top σ) (H : hHp nb G top hp h) (hsc : fm[10]? = some (.int (nI a))) (hen : fm[12]? = some (.int 0)) (hs : hSc G Ar top hp vs.reverse a) (hm : σ.1 e = some (.inr (7, fs))) (h9 : fs[9]? = some (.ref b')) (h2 : fs[2]? = some (.int (nI vs.length))) (h15 : fs[15]? = some (.ref l')) (Nb : hNa vs σ b' v) (hv : v.1 = 4) (N : hSn T f pp ee h env vs σ l' ps) (hT : vs.length < T) (hT' : 5000 ≤ T) (hl' : vs.length < 2 ^ 31) (hk : top + 3 ≤ 332100) (hne : ma ≠ ha) (hml : ma < σ.2.1) (hhl : ha < σ.2.1) (hfr : ∀ q, σ.2.1 ≤ q → σ.1 q = none) (hb : xmB (xmSm T f pp ee h env vs ps) = true) : ∃ σ' ha' hl' hp', oF κ T (n + 4) 95 [va_rf (some ma), va_rf (some e)] σ = some (some (.long (xmNi top)), σ') ∧ hMa ma ((fm.set 4 (.ref ha')).set 5 (.int (nI (top + 3)))) ha' hl' hp' (top + 3) σ' ∧ ((∀ i, i < top → hp' i = hp i) ∧ hp' top = xmSm T f pp ee h env vs ps ∧ hV G v (hp' (top + 1)) ∧ hp' (top + 2) = xmOut h v + 1) ∧ hGr ma ha hl σ σ' ha' hl' ∧ ha' ≠ ma ∧ ha' < σ'.2.1 := by
  obtain ⟨gs, k, c, n1, n2, n3, n4, n5⟩ := Nb
  obtain ⟨xv, V1, V2⟩ := c_valueOf (κ := κ) (T := T) (n := n + 2) M hsc hs n1 n2 n4 hT hl'
  have V3 := c_measure (κ := κ) (T := T) (n := n + 2) (c := 213) M H V2 ⟨fun w => by omega, fun w => by omega, fun _ => rfl, fun w => by omega⟩
  have R1 := h_sn (κ := κ) (T := T) (n := n + 1) M H hsc hen hs N hT hT' hl'
  have e15 : ovr (ofd σ (some e) 7 15) = some (some l') := by rw [ofd_at hm, h15]; rfl
  have e9 : ovr (ofd σ (some e) 7 9) = some (some b') := by rw [ofd_at hm, h9]; rfl
  have e2 : ovi (ofd σ (some e) 7 2) = some (nI vs.length) := by rw [ofd_at hm, h2]; rfl
  obtain ⟨σ', ha', hl2, hp', T1, T2, ⟨T3, T4, T5, T6⟩, T7, T8, T9⟩ := h_triple (κ := κ) (T := T) (n := n) (x := xmSm T f pp ee h env vs ps) (y := xv) (z := xmOut h v + 1) M hk hne hml hhl hfr
  have es : hSe σ ma fm 0 (xmSm T f pp ee h env vs ps) = σ := by unfold hSe; rw [if_pos hb]
  rw [oE_X3_cons]
  unfold ob_X3_cons
  rw [e15, obn_at, oob_at M.1.1, obn_at, R1]
  unfold oln'
  simp only
  rw [es, e9, obn_at, e2, obn_at, oob_at M.1.1, obn_at, V1]
  simp only
  rw [oob_at M.1.1, obn_at, V3]
  simp only
  rw [oob_at M.1.1, obn_at, T1, oin_at]
  exact ⟨σ', ha', hl2, hp', rfl, T2, ⟨T3, T4, by rw [T5]; exact V2, T6⟩, T7, T8, T9⟩
end HQV
