/-! run(), the class: an S's node, and a comparison -/
section HSN
variable {κ : oKv} {T n : Nat} {σ : oSt} {ma ha hl top : Nat} {fm : List Value} {hp : Nat → Int64} {G : hG} {Ar : Nat → Prop} {nb : tT → List Nat → Nat → Prop} {h : xmHp} {vs : List xmV} {a : Nat} {f pp ee : Nat → Int32} {env : List Nat}
/-- the node e of the S ps: what sum() reads of it -/
def hSn (T : Nat) (f pp ee : Nat → Int32) (h : xmHp) (env : List Nat) (vs : List xmV) (σ : oSt) (e : Nat) (ps : List tP) : Prop := ∃ fe su na ta cap L pl m, σ.1 e = some (.inr (7, fe)) ∧ fe[19]? = some (.ref su) ∧ fe[2]? = some (.int (nI vs.length)) ∧ cSm σ su na ta cap L pl ∧ (∀ (k b : Nat) (c : Int32), L[k]? = some (b, c) → ∃ v, hNa vs σ b v ∧ m b = xmOut h v) ∧ pl + lW m L = xmSm T f pp ee h env vs ps ∧ -9223372036854775807 ≤ (xmSm T f pp ee h env vs ps).toInt
theorem h_sn {e : Nat} {ps : List tP} {en : Int32} (M : hMa ma fm ha hl hp top σ) (H : hHp nb G top hp h) (hsc : fm[10]? = some (.int (nI a))) (hen : fm[12]? = some (.int en)) (hs : hSc G Ar top hp vs.reverse a) (N : hSn T f pp ee h env vs σ e ps) (hT : vs.length < T) (hT' : 5000 ≤ T) (hl' : vs.length < 2 ^ 31) : oF κ T (n + 2) 85 [va_rf (some ma), va_rf (some e)] σ = some (some (.long (xmSm T f pp ee h env vs ps)), hSe σ ma fm en (xmSm T f pp ee h env vs ps)) := by
  obtain ⟨fe, su, na, ta, cap, L, pl, m, a1, a2, a3, a4, a5, a6, a7⟩ := N
  have R := h_sum (κ := κ) (T := T) (n := n) M H hsc hen hs a1 a2 a3 a4 hT hT' hl' a5 (by rw [a6]; exact a7)
  rw [a6] at R
  exact R
/-- the Machine's cell alone -/
theorem hSn.pt {e : Nat} {ps : List tP} {gm : List Value} (hm : σ.1 ma = some (.inr (5, fm))) (N : hSn T f pp ee h env vs σ e ps) : hSn T f pp ee h env vs (oput σ ma (.inr (5, gm))) e ps := by
  have ne : ∀ x c, σ.1 x = some c → (∀ fs, c ≠ .inr (5, fs)) → (oput σ ma (.inr (5, gm))).1 x = some c := fun x c e1 e2 => by
    rw [oput_ne (fun w => ?_)]
    · exact e1
    · rw [w, hm] at e1
      injection e1 with e1
      exact e2 fm e1.symm
  obtain ⟨fe, su, na, ta, cap, L, pl, m, a1, a2, a3, ⟨g, g', s1, s2, s3, s4, s5⟩, a5, a6, a7⟩ := N
  refine ⟨fe, su, na, ta, cap, L, pl, m, ne _ _ a1 (fun fs w => by cases w), a2, a3, ⟨g, g', ne _ _ s1 (fun fs w => by cases w), ne _ _ s2 (fun fs w => by cases w), ne _ _ s3 (fun fs w => by cases w), s4, fun k b c e1 => ?_⟩, fun k b c e1 => ?_, a6, a7⟩
  · obtain ⟨q1, q2, fs, q3⟩ := s5 k b c e1
    exact ⟨q1, q2, fs, ne _ _ q3 (fun fs w => by cases w)⟩
  · obtain ⟨v, ⟨gs, i, c', q1, q2⟩, q3⟩ := a5 k b c e1
    exact ⟨v, ⟨gs, i, c', ne _ _ q1 (fun fs w => by cases w), q2⟩, q3⟩
/-- **stands() (86)** behind a left side that was not too much -/
theorem h_stands {e j : Nat} {ps : List tP} {kk : Nat → Int32} {x : Int64} (M : hMa ma fm ha hl hp top σ) (H : hHp nb G top hp h) (hsc : fm[10]? = some (.int (nI a))) (hen : fm[12]? = some (.int 0)) (hs : hSc G Ar top hp vs.reverse a) (N : hSn T f pp ee h env vs σ e ps) (hT : vs.length < T) (hT' : 5000 ≤ T) (hl' : vs.length < 2 ^ 31) (hr : aRl kk j < 6) : oF κ T (n + 3) 86 [va_rf (some ma), .long x, .int (kk j), va_rf (some e)] σ = some (some (.int (b01 (xmCm (aRl kk j) x (xmSm T f pp ee h env vs ps)))), hSe σ ma fm 0 (xmSm T f pp ee h env vs ps)) := by
  rw [oE_X3_stands]
  unfold ob_X3_stands
  rw [ofd_at M.1.1, hen, ovi_in, obn_at, if_pos rfl, oob_at M.1.1, obn_at, h_sn M H hsc hen hs N hT hT' hl']
  unfold oln'
  simp only
  exact h_st17 hr
/-- behind one that was: nothing changes -/
theorem h_stands' {e j : Nat} {kk : Nat → Int32} {x : Int64} {en : Int32} (hm : σ.1 ma = some (.inr (5, fm))) (hen : fm[12]? = some (.int en)) (h0 : en ≠ 0) (hr : aRl kk j < 6) : oF κ T (n + 1) 86 [va_rf (some ma), .long x, .int (kk j), va_rf (some e)] σ = some (some (.int (b01 (xmCm (aRl kk j) x 0))), σ) := by
  rw [oE_X3_stands]
  unfold ob_X3_stands
  rw [ofd_at hm, hen, ovi_in, obn_at, if_neg h0]
  exact h_st17 hr
end HSN
