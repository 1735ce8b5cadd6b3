/-! run(), the class: set, and new arrays -/
section HCH
variable {κ : oKv} {T n : Nat} {σ : oSt} {ma ha hl top : Nat} {fm : List Value} {hp : Nat → Int64} {G : hG} {Ar : Nat → Prop} {nb : tT → List Nat → Nat → Prop} {h : xmHp} {vs : List xmV} {a : Nat} {f pp ee : Nat → Int32} {env : List Nat}
/-- an element is written, or an end -/
def hUo (ma : Nat) (fm : List Value) (ha hl : Nat) (hp : Nat → Int64) (σ : oSt) (o : Nat ⊕ (Nat × Int64)) (r : oRs) : Prop := match o with
  | .inr i => r = some (none, oput σ ha (.inl (.long, hl, .inr (.inl (vp_updL hp i.1 i.2)))))
  | .inl e => r = some (none, oput σ ma (.inr (5, fm.set 12 (.int (nI e)))))
/-- **change() (89)** -/
theorem h_change {e b' l' r' i ya : Nat} {y : List Int64} {ps ps' : List tP} {fs : List Value} {v : xmV} (M : hMa ma fm ha hl hp top σ) (hne : ha ≠ ma) (H : hHp nb G top hp h) (hsc : fm[10]? = some (.int (nI a))) (hen : fm[12]? = some (.int 0)) (hs : hSc G Ar top hp vs.reverse a) (hm : σ.1 e = some (.inr (7, fs))) (h9 : fs[9]? = some (.ref b')) (h2 : fs[2]? = some (.int (nI vs.length))) (h15 : fs[15]? = some (.ref l')) (h16 : fs[16]? = some (.ref r')) (Nb : hNa vs σ b' v) (hv : v = (2, xmNi i)) (hi : i < 2 ^ 31) (hy : h.2.1[i]? = some y) (hg : G.2.1[i]? = some ya) (N : hSn T f pp ee h env vs σ l' ps) (N' : hSn T f pp ee h env vs σ r' ps') (hT : vs.length < T) (hT' : 5000 ≤ T) (hl' : vs.length < 2 ^ 31) : hUo ma fm ha hl hp σ (if xmB (xmSm T f pp ee h env vs ps) = true then (if 0 ≤ xmSm T f pp ee h env vs ps ∧ xmSm T f pp ee h env vs ps < xmNi y.length then (if xmB (xmSm T f pp ee h env vs ps') = true then .inr (ya + 1 + xmIx (xmSm T f pp ee h env vs ps), xmSm T f pp ee h env vs ps') else .inl 2) else .inl 5) else .inl 2) (oF κ T (n + 4) 89 [va_rf (some ma), va_rf (some e)] σ) := by
  have E := h_elem (κ := κ) (T := T) (n := n) M H hsc hen hs hm h9 h2 h15 Nb hv hi hy hg N hT hT' hl'
  have R := h_sn (κ := κ) (T := T) (n := n + 1) M H hsc hen hs N' hT hT' hl'
  have e16 : ovr (ofd σ (some e) 7 16) = some (some r') := by rw [ofd_at hm, h16]; rfl
  have e12 : ovi (ofd σ (some ma) 5 12) = some 0 := by rw [ofd_at M.1.1, hen]; rfl
  have c2 := (H.2.2.1 i y ya hy hg).1.2
  have t31 := M.2.2.2
  have END : ∀ c : Nat, 1 ≤ c → c ≤ 6 → ∀ x, oF κ T (n + 3) 88 [va_rf (some ma), va_rf (some e)] σ = some (some (.int x), oput σ ma (.inr (5, fm.set 12 (.int (nI c))))) → oF κ T (n + 4) 89 [va_rf (some ma), va_rf (some e)] σ = some (none, oput σ ma (.inr (5, fm.set 12 (.int (nI c))))) := fun c h1 h2 x E => by
    have ma' : (oput σ ma (.inr (5, fm.set 12 (.int (nI c))))).1 ma = some (.inr (5, fm.set 12 (.int (nI c)))) := oput_eq _ _ _
    have e12' : ovi (ofd (oput σ ma (.inr (5, fm.set 12 (.int (nI c))))) (some ma) 5 12) = some (nI c) := by
      rw [ofd_at ma', List.getElem?_set_self (by rw [M.1.2]; decide)]; rfl
    have n0 : ¬ nI c = (0 : Int32) := fun w => by have := nI_inj' (b := 0) (by omega) (by omega) w; omega
    rw [oE_X3_change]
    unfold ob_X3_change
    rw [oob_at M.1.1, obn_at, E, oin_at, e12', obn_at, if_neg n0]
    unfold oj_X3_change_25
    rw [e12', obn_at, if_neg n0]
  by_cases c1 : xmB (xmSm T f pp ee h env vs ps) = true
  · rw [if_pos c1] at E ⊢
    by_cases c3 : 0 ≤ xmSm T f pp ee h env vs ps ∧ xmSm T f pp ee h env vs ps < xmNi y.length
    · rw [if_pos c3] at E ⊢
      have E : oF κ T (n + 3) 88 [va_rf (some ma), va_rf (some e)] σ = some (some (.int (nI (ya + 1 + xmIx (xmSm T f pp ee h env vs ps)))), σ) := E
      have bd : xmIx (xmSm T f pp ee h env vs ps) < y.length := by
        obtain ⟨q1, q2⟩ := c3
        rw [Int64.le_iff_toInt_le] at q1
        have q1 : (0 : Int) ≤ (xmSm T f pp ee h env vs ps).toInt := q1
        rw [Int64.lt_iff_toInt_lt, xmNi_int (by omega)] at q2
        rw [(x_i32 (x := xmSm T f pp ee h env vs ps) (j := (xmSm T f pp ee h env vs ps).toInt.toNat) (by omega) (by omega)).2]
        omega
      rw [oE_X3_change]
      unfold ob_X3_change
      rw [oob_at M.1.1, obn_at, E, oin_at, e12, obn_at, if_pos rfl, e16, obn_at, oob_at M.1.1, obn_at, R]
      unfold oln'
      simp only
      unfold oj_X3_change_25
      by_cases c4 : xmB (xmSm T f pp ee h env vs ps') = true
      · have es : hSe σ ma fm 0 (xmSm T f pp ee h env vs ps') = σ := by unfold hSe; rw [if_pos c4]
        rw [if_pos c4, es, e12, obn_at, if_pos rfl, M.hp4, obn_at, (M.sj hne (i := ya + 1 + xmIx (xmSm T f pp ee h env vs ps)) (by omega) _).1, obn_at]
        rfl
      · have es : hSe σ ma fm 0 (xmSm T f pp ee h env vs ps') = oput σ ma (.inr (5, fm.set 12 (.int 2))) := by unfold hSe; rw [if_neg c4, if_pos rfl]
        have ma' : (oput σ ma (.inr (5, fm.set 12 (.int 2)))).1 ma = some (.inr (5, fm.set 12 (.int 2))) := oput_eq _ _ _
        rw [if_neg c4, es, ofd_at ma', List.getElem?_set_self (by rw [M.1.2]; decide), ovi_in, obn_at, if_neg (by decide)]
        rfl
    · rw [if_neg c3] at E ⊢
      exact END 5 (by omega) (by omega) 0 E
  · rw [if_neg c1] at E ⊢
    exact END 2 (by omega) (by omega) 0 E
/-- **newArray() (94)** behind a length that was not too much -/
theorem h_newA {x : Int64} {el : Nat} (hT : 1010 ≤ T) (M : hMa ma fm ha hl hp top σ) (hen : fm[12]? = some (.int 0)) (hel : fm[14]? = some (.int (nI el))) (he : el ≤ 10000) (hb : xmB x = true) (hk : top + 1001 ≤ 332100) (hne : ma ≠ ha) (hml : ma < σ.2.1) (hhl : ha < σ.2.1) (hfr : ∀ q, σ.2.1 ≤ q → σ.1 q = none) : (x < 0 → oF κ T (n + 4) 94 [va_rf (some ma), .long x] σ = some (some (.long 0), oput σ ma (.inr (5, fm.set 12 (.int (nI 6)))))) ∧ (¬ x < 0 → 1000 < x ∨ 10000 < el + xmIx x → oF κ T (n + 4) 94 [va_rf (some ma), .long x] σ = some (some (.long 0), oput σ ma (.inr (5, fm.set 12 (.int (nI 2)))))) ∧ (¬ x < 0 → ¬ (1000 < x ∨ 10000 < el + xmIx x) → ∃ σ' ha' hl' hp', oF κ T (n + 4) 94 [va_rf (some ma), .long x] σ = some (some (.long (xmNi top)), σ') ∧ xmIx x ≤ 1000 ∧ hMa ma (((fm.set 4 (.ref ha')).set 5 (.int (nI (top + (xmIx x + 1))))).set 14 (.int (nI (el + xmIx x)))) ha' hl' hp' (top + (xmIx x + 1)) σ' ∧ ((∀ i, i < top → hp' i = hp i) ∧ hp' top = xmNi (xmIx x) ∧ ∀ i, i < xmIx x → hp' (top + 1 + i) = 0) ∧ hGr ma ha hl σ σ' ha' hl' ∧ ha' ≠ ma ∧ ha' < σ'.2.1) := by
  have e12 : ovi (ofd σ (some ma) 5 12) = some 0 := by rw [ofd_at M.1.1, hen]; rfl
  have e14 : ovi (ofd σ (some ma) 5 14) = some (nI el) := by rw [ofd_at M.1.1, hel]; rfl
  have END : ∀ c : Nat, 1 ≤ c → c ≤ 6 → oj_X3_newArray_56 T (oF κ T (n + 3)) κ (some ma) x (oput σ ma (.inr (5, fm.set 12 (.int (nI c))))) = some (some (.long 0), oput σ ma (.inr (5, fm.set 12 (.int (nI c))))) := fun c h1 h2 => by
    have ma' : (oput σ ma (.inr (5, fm.set 12 (.int (nI c))))).1 ma = some (.inr (5, fm.set 12 (.int (nI c)))) := oput_eq _ _ _
    have n0 : ¬ nI c = (0 : Int32) := fun w => by have := nI_inj' (b := 0) (by omega) (by omega) w; omega
    unfold oj_X3_newArray_56
    rw [ofd_at ma', List.getElem?_set_self (by rw [M.1.2]; decide), ovi_in, obn_at, if_neg n0]
  have bx := xmB_iff.mp hb
  refine ⟨fun c0 => ?_, fun c0 c1 => ?_, fun c0 c1 => ?_⟩
  · rw [oE_X3_newArray]
    unfold ob_X3_newArray
    rw [e12, obn_at, if_pos rfl, if_neg (fun w => absurd c0 (Int64.not_lt.mpr ((lg_ge _ _).mp w))), opf_at M.1.1 (by rw [M.1.2]; decide), obn_at]
    exact END 6 (by omega) (by omega)
  all_goals
    obtain ⟨q, eq⟩ : ∃ q : Nat, x.toInt = (q : Int) := ⟨x.toInt.toNat, by
      have z := Int64.not_lt.mp c0
      rw [Int64.le_iff_toInt_le] at z
      have : (0 : Int64).toInt = 0 := rfl
      omega⟩
    have su : ((nI el).toInt64 + x).toInt = (el : Int) + q := by
      rw [j_add (by rw [Int32.toInt_toInt64, nI_toInt (by omega)]; omega) (by rw [Int32.toInt_toInt64, nI_toInt (by omega)]; omega), Int32.toInt_toInt64, nI_toInt (by omega), eq]
    rw [oE_X3_newArray]
    unfold ob_X3_newArray
    rw [e12, obn_at, if_pos rfl, if_pos ((lg_ge _ _).mpr (Int64.not_lt.mp c0))]
    unfold oj_X3_newArray_22
    rw [e12, obn_at, if_pos rfl]
  · have F : oj_X3_newArray_51 T (oF κ T (n + 3)) κ (some ma) x σ = some (some (.long 0), oput σ ma (.inr (5, fm.set 12 (.int (nI 2))))) := by
      unfold oj_X3_newArray_51
      rw [opf_at M.1.1 (by rw [M.1.2]; decide), obn_at]
      exact END 2 (by omega) (by omega)
    by_cases c2 : (1000 : Int64) < x
    · rw [if_pos ((lg_gt _ _).mpr c2)]
      exact F
    · have q31 : q ≤ 1000 := by
        have z := Int64.not_lt.mp c2
        rw [Int64.le_iff_toInt_le, show (1000 : Int64).toInt = 1000 from rfl] at z
        omega
      have xix := (x_i32 eq (by omega)).2
      have c3 : 10000 < el + q := by
        rcases c1 with w | w
        · exact absurd w c2
        · rw [xix] at w; exact w
      rw [if_neg (fun w => c2 ((lg_gt _ _).mp w)), e14, obn_at, if_neg (fun w => by
        have z := (lg_le _ _).mp w
        rw [Int64.le_iff_toInt_le, su, show (10000 : Int64).toInt = 10000 from rfl] at z
        omega)]
      exact F
  · have c2 : ¬ (1000 : Int64) < x := fun w => c1 (Or.inl w)
    have q31 : q ≤ 1000 := by
      have z := Int64.not_lt.mp c2
      rw [Int64.le_iff_toInt_le, show (1000 : Int64).toInt = 1000 from rfl] at z
      omega
    obtain ⟨x32, xix⟩ := x_i32 eq (by omega)
    have c3 : ¬ 10000 < el + q := fun w => c1 (Or.inr (by rw [xix]; exact w))
    obtain ⟨σ', ha', hl', hp', R, r1, r2, r3, r4, r5⟩ := h_array (κ := κ) (T := T) (n := n) (z := q) (el := el) hT M q31 hel (by omega) hne hml hhl hfr
    rw [if_neg (fun w => c2 ((lg_gt _ _).mp w)), e14, obn_at, if_pos ((lg_le _ _).mpr (by rw [Int64.le_iff_toInt_le, su, show (10000 : Int64).toInt = 10000 from rfl]; omega))]
    unfold oj_X3_newArray_56
    rw [e12, obn_at, if_pos rfl, oob_at M.1.1, obn_at, x32, R, oin_at, xix]
    exact ⟨σ', ha', hl', hp', rfl, q31, r1, r2, r3, r4, r5⟩
end HCH
