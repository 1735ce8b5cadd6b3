/-! run(), the class: elements of arrays -/
section HEL
variable {κ : oKv} {T n : Nat} {σ : oSt} {ma ha hl top : Nat} {fm : List Value} {hp : Nat → Int64} {G : hG} {Ar : Nat → Prop} {nb : tT → List Nat → Nat → Prop} {h : xmHp} {vs : List xmV} {a : Nat} {f pp ee : Nat → Int32} {env : List Nat}
/-- a place of the heap, or an end -/
def hIo (ma : Nat) (fm : List Value) (σ : oSt) (o : Nat ⊕ Nat) (r : oRs) : Prop := match o with
  | .inr i => r = some (some (.int (nI i)), σ)
  | .inl e => r = some (some (.int 0), oput σ ma (.inr (5, fm.set 12 (.int (nI e)))))
theorem h_e47 {call : oCl} {x2 : Int32} {x3 : Int64} (M : hMa ma fm ha hl hp top σ) : oj_X3_elementOf_47 T call κ (some ma) x2 x3 σ = some (some (.int 0), oput σ ma (.inr (5, fm.set 12 (.int 5)))) := by
  have ma' : (oput σ ma (.inr (5, fm.set 12 (.int 5)))).1 ma = some (.inr (5, fm.set 12 (.int 5))) := oput_eq _ _ _
  unfold oj_X3_elementOf_47 oj_X3_elementOf_52
  rw [opf_at M.1.1 (by rw [M.1.2]; decide), obn_at, ofd_at ma', List.getElem?_set_self (by rw [M.1.2]; decide), ovi_in, obn_at, if_neg (by decide)]
/-- **elementOf() (88)** -/
theorem h_elem {e b' l' i ya : Nat} {y : List Int64} {ps : List tP} {fs : List Value} {v : xmV} (M : hMa ma fm ha hl hp top σ) (H : hHp nb G top hp h) (hsc : fm[10]? = some (.int (nI a))) (hen : fm[12]? = some (.int 0)) (hs : hSc G Ar top hp vs.reverse a) (hm : σ.1 e = some (.inr (7, fs))) (h9 : fs[9]? = some (.ref b')) (h2 : fs[2]? = some (.int (nI vs.length))) (h15 : fs[15]? = some (.ref l')) (Nb : hNa vs σ b' v) (hv : v = (2, xmNi i)) (hi : i < 2 ^ 31) (hy : h.2.1[i]? = some y) (hg : G.2.1[i]? = some ya) (N : hSn T f pp ee h env vs σ l' ps) (hT : vs.length < T) (hT' : 5000 ≤ T) (hl' : vs.length < 2 ^ 31) : hIo ma fm σ (if xmB (xmSm T f pp ee h env vs ps) = true then (if 0 ≤ xmSm T f pp ee h env vs ps ∧ xmSm T f pp ee h env vs ps < xmNi y.length then .inr (ya + 1 + xmIx (xmSm T f pp ee h env vs ps)) else .inl 5) else .inl 2) (oF κ T (n + 3) 88 [va_rf (some ma), va_rf (some e)] σ) := by
  obtain ⟨gs, k, c, n1, n2, n3, n4, n5⟩ := Nb
  obtain ⟨xv, V1, V2⟩ := c_valueOf (κ := κ) (T := T) (n := n + 1) M hsc hs n1 n2 n4 hT hl'
  obtain ⟨⟨c1, c2⟩, c3, c4⟩ := H.2.2.1 i y ya hy hg
  have t31 := M.2.2.2
  have xe : xv = xmNi ya := by
    rcases V2 with ⟨q, -⟩ | ⟨-, i', a', q1, q2, q3⟩ | ⟨q, -⟩ | ⟨q, -⟩
    · rw [hv] at q; exact absurd (show 2 ≤ 1 from q) (by decide)
    · rw [hv] at q1
      have i31 : i' < 2 ^ 31 := by have h1 := xget_lt q2; have h2 := H.1.2.1; have h3 := H.1.2.2.2.2; omega
      have ei : i = i' := by
        have w := congrArg xmIx (show xmNi i = xmNi i' from q1)
        rw [xmNi_ix hi, xmNi_ix i31] at w
        exact w
      subst ei
      rw [hg] at q2
      injection q2 with q2
      rw [q3, q2]
    · rw [hv] at q; exact absurd (show 2 = 3 from q) (by decide)
    · rw [hv] at q; exact absurd (show 2 = 4 from q) (by decide)
  have e9 : ovr (ofd σ (some e) 7 9) = some (some b') := by rw [ofd_at hm, h9]; rfl
  have e2 : ovi (ofd σ (some e) 7 2) = some (nI vs.length) := by rw [ofd_at hm, h2]; rfl
  have e15 : ovr (ofd σ (some e) 7 15) = some (some l') := by rw [ofd_at hm, h15]; rfl
  rw [oE_X3_elementOf]
  unfold ob_X3_elementOf
  rw [e9, obn_at, e2, obn_at, oob_at M.1.1, obn_at, V1]
  unfold oln'
  simp only
  rw [e15, obn_at, oob_at M.1.1, obn_at, h_sn M H hsc hen hs N hT hT' hl']
  simp only
  rw [xe, xmNi_32]
  generalize xmSm T f pp ee h env vs ps = x
  by_cases cb : xmB x = true
  · have es : hSe σ ma fm 0 x = σ := by unfold hSe; rw [if_pos cb]
    rw [if_pos cb, es, ofd_at M.1.1, hen, ovi_in, obn_at, if_pos rfl]
    by_cases c0 : x < 0
    · rw [if_pos ((lg_lt _ _).mpr c0), if_neg (fun w => absurd c0 (Int64.not_lt.mpr w.1)), h_e47 M]
      rfl
    · rw [if_neg (fun w => c0 ((lg_lt _ _).mp w)), M.hp4, obn_at, M.aj c1.2.1, obn_at, c3]
      by_cases cl : x < xmNi y.length
      · have xp : (0 : Int) ≤ x.toInt := by
          have w := Int64.not_lt.mp c0
          rw [Int64.le_iff_toInt_le] at w
          exact w
        have xl : x.toInt < (y.length : Int) := by
          rw [Int64.lt_iff_toInt_lt, xmNi_int (by omega)] at cl
          exact cl
        obtain ⟨x32, xix⟩ := x_i32 (x := x) (j := x.toInt.toNat) (by omega) (by omega)
        rw [if_pos ((lg_lt _ _).mpr cl), if_pos ⟨Int64.not_lt.mp c0, cl⟩]
        unfold oj_X3_elementOf_52
        rw [ofd_at M.1.1, hen, ovi_in, obn_at, if_pos rfl, x32, xix, nI_p1, nI_add]
        rfl
      · rw [if_neg (fun w => cl ((lg_lt _ _).mp w)), if_neg (fun w => cl w.2), h_e47 M]
        rfl
  · have es : hSe σ ma fm 0 x = oput σ ma (.inr (5, fm.set 12 (.int 2))) := by unfold hSe; rw [if_neg cb, if_pos rfl]
    have ma' : (oput σ ma (.inr (5, fm.set 12 (.int 2)))).1 ma = some (.inr (5, fm.set 12 (.int 2))) := oput_eq _ _ _
    have e12 : ovi (ofd (oput σ ma (.inr (5, fm.set 12 (.int 2)))) (some ma) 5 12) = some 2 := by
      rw [ofd_at ma', List.getElem?_set_self (by rw [M.1.2]; decide)]; rfl
    rw [if_neg cb, es, e12, obn_at, if_neg (by decide)]
    unfold oj_X3_elementOf_52
    rw [e12, obn_at, if_neg (by decide)]
    rfl
end HEL
