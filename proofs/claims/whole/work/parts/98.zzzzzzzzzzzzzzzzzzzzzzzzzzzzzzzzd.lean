/-! run(), the class: match -/
section HMT
variable {κ : oKv} {T n : Nat} {σ : oSt} {ma ha hl top : Nat} {fm : List Value} {hp : Nat → Int64} {G : hG} {nb : tT → List Nat → Nat → Prop} {h : xmHp} {vs : List xmV} {a : Nat}
/-- fields that stay -/
def hFx (S : List Nat) (fm gm : List Value) : Prop := ∀ k, k ∉ S → gm[k]? = fm[k]?
theorem hFx.st {S : List Nat} {gm : List Value} {k : Nat} {x : Value} (w : hFx S fm gm) (hk : k ∈ S) : hFx S fm (gm.set k x) := fun j hj => by
  rw [List.getElem?_set_ne (fun e => hj (by rw [← e]; exact hk))]
  exact w j hj
theorem hFx.rf (S : List Nat) (fm : List Value) : hFx S fm fm := fun _ _ => rfl
/-- **match() (90)**, an empty list -/
theorem h_matchN {e b' y : Nat} {fs : List Value} {v : xmV} {Ar : Nat → Prop} (M : hMa ma fm ha hl hp top σ) (hsc : fm[10]? = some (.int (nI a))) (hs : hSc G Ar top hp vs.reverse a) (hm : σ.1 e = some (.inr (7, fs))) (h9 : fs[9]? = some (.ref b')) (h2 : fs[2]? = some (.int (nI vs.length))) (h12 : fs[12]? = some (.ref y)) (Nb : hNa vs σ b' v) (hv : v.1 = 4 ∧ v.2 < 0) (hT : vs.length < T) (hl' : vs.length < 2 ^ 31) (hG : G.2.2.length < 2 ^ 31) : oF κ T (n + 2) 90 [va_rf (some ma), va_rf (some e)] σ = some (some (va_rf (some y)), σ) := by
  obtain ⟨gs, k, c, n1, n2, n3, n4, n5⟩ := Nb
  obtain ⟨xv, V1, V2⟩ := c_valueOf (κ := κ) (T := T) (n := n) M hsc hs n1 n2 n4 hT hl'
  have e9 : ovr (ofd σ (some e) 7 9) = some (some b') := by rw [ofd_at hm, h9]; rfl
  have e2 : ovi (ofd σ (some e) 7 2) = some (nI vs.length) := by rw [ofd_at hm, h2]; rfl
  have e12 : ovr (ofd σ (some e) 7 12) = some (some y) := by rw [ofd_at hm, h12]; rfl
  have x0 : xv = 0 := by
    rcases V2 with ⟨q, -⟩ | ⟨q, -⟩ | ⟨q, -⟩ | ⟨-, ⟨-, q⟩ | ⟨i, a', q1, q2, -⟩⟩
    · omega
    · omega
    · omega
    · exact q
    · exfalso
      have w := hv.2
      rw [q1, Int64.lt_iff_toInt_lt, xmNi_int (by have := xget_lt q2; omega)] at w
      have w : (i : Int) < 0 := w
      omega
  rw [oE_X3_match]
  unfold ob_X3_match
  rw [e9, obn_at, e2, obn_at, oob_at M.1.1, obn_at, V1]
  unfold oln'
  simp only
  rw [x0, if_pos (by decide), e12, obn_at]
/-- **match() (90)**, a list that has a first -/
theorem h_matchC {e b' y i la : Nat} {fs : List Value} {v : xmV} {c : Int64 × Int64 × Nat} (M : hMa ma fm ha hl hp top σ) (H : hHp nb G top hp h) (hsc : fm[10]? = some (.int (nI a))) (hs : hSc G (hAr G.2.1 h.2.1) top hp vs.reverse a) (hm : σ.1 e = some (.inr (7, fs))) (h9 : fs[9]? = some (.ref b')) (h2 : fs[2]? = some (.int (nI vs.length))) (h13 : fs[13]? = some (.ref y)) (Nb : hNa vs σ b' v) (hv : v = (4, xmNi i)) (hi : i < 2 ^ 31) (hc : h.2.2[i]? = some c) (hg : G.2.2[i]? = some la) (hT : vs.length < T) (hl' : vs.length < 2 ^ 31) (hk : top + 4 ≤ 332100) (hne : ma ≠ ha) (hml : ma < σ.2.1) (hhl : ha < σ.2.1) (hfr : ∀ q, σ.2.1 ≤ q → σ.1 q = none) (W : Nat → Prop) (hW : ¬ W e) : ∃ σ' ha' hl2 hp' gm, oF κ T (n + 4) 90 [va_rf (some ma), va_rf (some e)] σ = some (some (va_rf (some y)), σ') ∧ hMa ma gm ha' hl2 hp' (top + 4) σ' ∧ hFx [4, 5, 10] fm gm ∧ gm[10]? = some (.int (nI (top + 2))) ∧ (∀ j, j < top → hp' j = hp j) ∧ hHp nb G (top + 4) hp' h ∧ hSc G (hAr G.2.1 h.2.1) (top + 4) hp' (vs ++ [(0, c.1), (4, c.2.1)]).reverse (top + 2) ∧ hKe W ma ha σ σ' ha' ∧ (σ'.2.2.2 + 2 * hl ≤ σ.2.2.2 + 2 * hl2 ∧ 64 * σ'.2.2.1 + hl ≤ 64 * σ.2.2.1 + hl2 ∧ (hl2 = hl ∨ hl2 ≤ 664200)) := by
  obtain ⟨gs, k, cc, n1, n2, n3, n4, n5⟩ := Nb
  obtain ⟨xv, V1, V2⟩ := c_valueOf (κ := κ) (T := T) (n := n + 2) M hsc hs n1 n2 n4 hT hl'
  obtain ⟨⟨q1, q2, q3⟩, q4, q5, q6⟩ := H.2.2.2.2 i c la hc hg
  have t31 := M.2.2.2
  have xe : xv = xmNi la := by
    rcases V2 with ⟨q, -⟩ | ⟨q, -⟩ | ⟨q, -⟩ | ⟨-, ⟨q, -⟩ | ⟨i', a', p1, p2, p3⟩⟩
    · rw [hv] at q; exact absurd (show 4 ≤ 1 from q) (by decide)
    · rw [hv] at q; exact absurd (show 4 = 2 from q) (by decide)
    · rw [hv] at q; exact absurd (show 4 = 3 from q) (by decide)
    · rw [hv] at q
      have w := congrArg Int64.toInt (show xmNi i = -1 from q)
      rw [xmNi_int hi] at w
      have w : (i : Int) = -1 := w
      omega
    · rw [hv] at p1
      have i31 : i' < 2 ^ 31 := by have h1 := xget_lt p2; have h2 := H.1.2.2.1; have h3 := H.1.2.2.2.2; omega
      have ei : i = i' := by
        have w := congrArg xmIx (show xmNi i = xmNi i' from p1)
        rw [xmNi_ix hi, xmNi_ix i31] at w
        exact w
      subst ei
      rw [hg] at p2
      injection p2 with p2
      rw [p3, p2]
  have e9 : ovr (ofd σ (some e) 7 9) = some (some b') := by rw [ofd_at hm, h9]; rfl
  have e2 : ovi (ofd σ (some e) 7 2) = some (nI vs.length) := by rw [ofd_at hm, h2]; rfl
  have la31 : la < 2 ^ 31 := by have := q1.2.1; omega
  have n0 : ¬ nI la = (0 : Int32) := fun w => by have := nI_inj' (b := 0) la31 (by omega) w; have := q1.1; omega
  have e10 : ovi (ofd σ (some ma) 5 10) = some (nI a) := by rw [ofd_at M.1.1, hsc]; rfl
  obtain ⟨σ1, σ2, ha1, hl1, hp1, A1, A2, A3, ⟨A4, A5, A6⟩, A7, A8, A9⟩ := h_push (κ := κ) (T := T) (n := n) (x := hp la) (a := a) M (by omega) hne hml hhl hfr
  have K1 := (hKe.rf (W := W) hfr hhl hne.symm).gr A7 A8 A9
  have H1 := H.up (top' := top + 2) (by omega) A4
  have S1 := hs.push (v := (0, c.1)) H (show hV G (0, c.1) (hp la) from Or.inl ⟨Nat.zero_le _, q4⟩) A4 A5 A6
  have b5 := A7.le
  obtain ⟨σ3, σ4, ha2, hl2, hp2, B1, B2, B3, ⟨B4, B5, B6⟩, B7, B8, B9⟩ := h_push (κ := κ) (T := T) (n := n) (x := hp1 (la + 1)) (a := top) A3 (by omega) A8.symm (by omega) A9 K1.2.1
  have K2 := K1.gr B7 B8 B9
  have S2 := S1.push (v := (4, c.2.1)) H1 (show hV G (4, c.2.1) (hp1 (la + 1)) by rw [A4 _ q2.2.1]; exact q5) B4 B5 B6
  have b6 := B7.le
  have l10 : ovi (ofd σ2 (some ma) 5 10) = some (nI top) := by
    rw [ofd_at A3.1.1, List.getElem?_set_self (by rw [List.length_set, List.length_set, M.1.2]; decide)]; rfl
  have hm4 : σ4.1 e = some (.inr (7, fs)) := K2.at hfr ⟨fm, M.1.1⟩ ⟨_, _, M.2.2.1⟩ hm (fun _ w => by cases w) (fun _ _ w => by cases w) hW
  · have e13 : ovr (ofd σ4 (some e) 7 13) = some (some y) := by rw [ofd_at hm4, h13]; rfl
    rw [oE_X3_match]
    unfold ob_X3_match
    rw [e9, obn_at, e2, obn_at, oob_at M.1.1, obn_at, V1]
    unfold oln'
    simp only
    rw [xe, xmNi_32, if_neg n0, M.hp4, obn_at, M.aj q1.2.1, obn_at, e10, obn_at, oob_at M.1.1, obn_at, A1, oin_at, A2, obn_at, A3.hp4, obn_at, nI_p1, A3.aj (by have := q2.2.1; omega), obn_at, l10, obn_at, oob_at A3.1.1, obn_at, B1, oin_at, B2, obn_at, e13, obn_at]
    refine ⟨σ4, ha2, hl2, hp2, _, rfl, B3, ((((((hFx.rf [4, 5, 10] fm).st (by decide)).st (by decide)).st (by decide)).st (by decide)).st (by decide)).st (by decide), ?_, fun j hj => (B4 j (by omega)).trans (A4 j hj), H1.up (by omega) B4, ?_, K2, by omega⟩
    · rw [List.getElem?_set_self (by simp only [List.length_set]; rw [M.1.2]; decide)]
    · rw [List.reverse_append]
      exact S2
end HMT
