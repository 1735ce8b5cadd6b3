/-! run(), the class: the loop of go() -/
section HZH
variable {κ : oKv} {T n cnt : Nat} {kk pp ee f fc : Nat → Int32} {tE tN : Nat → tY} {R : Nat → Int32} {L : List Nat} {y0 : tY} {B : Nat → Nat} {D : cDt} {V : oSt} {nm : Nat → Option Nat} {p : Nat} {σ0 : oSt} {nf ma ha0 wn ws wa : Nat} {fm0 : List Value} {hl0 : Nat} {σ σ' : oSt} {G G' : hG} {top ha hl top' ha' hl' : Nat} {hp hp' : Nat → Int64} {fm gm : List Value} {nu n' : Nat} {h h' : xmHp} {fr : List xmFr} {env : List Nat} {vs : List xmV} {Kb N N0 sc e pg : Nat} {y : tY}
/-- **one turn** -/
theorem h_turn {x : Option Nat} {m : xmM} (P : hPo T pp ee f fc tN L V nm p (hW wn ws wa) ma ha0 σ0) (hF : hFl κ D V p pg nf) (f0 : fm0[0]? = some (.ref pg)) (hT : 9010 ≤ T) (hK : Kb ≤ 322000) (hN0 : N0 ≤ 20000) (S : hSt κ T kk pp ee f fc tN B D V nm p σ0 nf ma ha0 wn ws wa fm0 hl0 Kb σ x m) (Iv : xmI cnt kk f pp ee tE tN R L y0 m) (hn : xmN N0 m) (nd : xmDn m = none) : (∃ fm, σ.1 ma = some (.inr (5, fm)) ∧ fm[12]? = some (.int 0) ∧ (x = none → ∃ c, fm[9]? = some (.int (nI (c + 1))) ∧ c < 1683)) ∧ hOt κ T kk pp ee f fc tN B D V nm p σ0 nf ma ha0 wn ws wa fm0 hl0 Kb (match x with | some e => oF κ T (N + 1321) 99 [va_rf (some ma), va_rf (some e)] σ | none => oF κ T (N + 1321) 100 [va_rf (some ma)] σ) (xmSt T f pp ee m) := by
  obtain ⟨h, fr, nu, ctl⟩ := m
  obtain ⟨G, top, ha, hl, hp, fm, I, hb, S⟩ := S
  obtain ⟨H, hdp, Iv⟩ := Iv
  obtain ⟨n1, n2, n3, n4⟩ := hn
  have n1 : nu ≤ N0 := n1
  have n2 : h.1.length + xmRf fr ≤ N0 - nu := n2
  have n3 : h.2.1.length ≤ 6 + (N0 - nu) := n3
  have n4 : h.2.2.length ≤ N0 - nu := n4
  have I : hXa κ T kk pp ee f fc tN B D V nm p σ0 nf ma ha0 wn ws wa fm0 hl0 σ G top ha hl hp fm nu h fr := I
  have H : xmH cnt kk f pp ee tE tN R L h := H
  have hdp : xmDp fr ≤ 50 := hdp
  cases ctl with
  | inl yy =>
    obtain ⟨t, env, vs⟩ := yy
    have hb : top + 16 * nu + hPt fr ≤ Kb + xmTot h := hb
    obtain ⟨ty, w, En, hh, hKk⟩ := Iv
    obtain ⟨e, sc, rfl, Tt, hsc, hs⟩ := S
    have w : xmE cnt kk f pp ee tE tN R L t env ty := w
    have hh : tH t + xmSg fr ≤ 31 := hh
    have hfr := (xmK.len fr ty hKk)
    exact ⟨⟨fm, I.1.1.1.1, I.2.2.2.2.2.2.1, fun w => by cases w⟩, h_start (N := N) P hF f0 hT I H ⟨by omega, by omega, by omega⟩ ⟨by omega, by omega⟩ En hsc hs hb hK hdp (by omega) (by omega) w Tt⟩
  | inr v =>
    obtain ⟨rfl, xx, h15, hvx⟩ := S
    have hb : top + 16 * nu + hPt fr + hVt h v ≤ Kb + xmTot h := hb
    obtain ⟨ty, hv, hKk⟩ := Iv
    have hv : xmT tE tN h ty v := hv
    cases fr with
    | nil => cases nd
    | cons Fr fr =>
      have hlen := (xmK.len (Fr :: fr) ty hKk)
      rw [List.length_cons] at hlen
      have hd2 : xmDp fr ≤ 50 := by
        cases Fr with
        | inl _ => exact hdp
        | inr l =>
          have hdp : xmDp fr + 1 ≤ 50 := hdp
          omega
      have hf9 : fm[9]? = some (.int (nI (fr.length + 1))) := I.2.2.2.2.1
      have hf : fr.length < 1683 := by
        have hsg : xmSg (Fr :: fr) ≤ 31 := hlen.2
        omega
      refine ⟨⟨fm, I.1.1.1.1, I.2.2.2.2.2.2.1, fun _ => ⟨fr.length, hf9, hf⟩⟩, h_resume (N := N) P hF f0 hT I H ⟨by omega, by omega, by omega⟩ h15 hvx hv (fun l e1 e2 => ?_) hb hK hd2 hf⟩
      subst e1
      cases l with
      | nil => exact absurd rfl e2
      | cons v0 l0 =>
        rw [show ty = _ from hKk.1.1]
        rfl
/-- an end's number -/
theorem h_e16 {m : xmM} {e : Nat × Nat} (Iv : xmI cnt kk f pp ee tE tN R L y0 m) (nd : xmDn m = none) (q : xmSt T f pp ee m = .inl e) : 1 ≤ e.1 ∧ e.1 ≤ 6 := by
  obtain ⟨h, fr, nu, ctl⟩ := m
  obtain ⟨H, hdp, Iv⟩ := Iv
  cases ctl with
  | inl yy =>
    obtain ⟨t, env, vs⟩ := yy
    obtain ⟨ty, w, -⟩ := Iv
    have w : xmE cnt kk f pp ee tE tN R L t env ty := w
    cases nu with
    | zero =>
      have q : (.inl (1, 0) : (Nat × Nat) ⊕ xmM) = .inl e := q
      injection q with q
      subst q
      exact ⟨by decide, by decide⟩
    | succ nu => exact xmBg_e w.2.1.1 q
  | inr v =>
    cases fr with
    | nil => cases nd
    | cons Fr fr =>
      cases Fr with
      | inl x => cases nu <;> cases q
      | inr l =>
        cases l with
        | nil => cases nu <;> cases q
        | cons v0 l => cases nu <;> exact xmAp_e q
/-- **the loop of go()** -/
theorem h_lp {n0 : Int32} (P : hPo T pp ee f fc tN L V nm p (hW wn ws wa) ma ha0 σ0) (hF : hFl κ D V p pg nf) (f0 : fm0[0]? = some (.ref pg)) (hT : 9010 ≤ T) (hK : Kb ≤ 322000) (hN0 : N0 ≤ 20000) : ∀ (k : Nat) (m : xmM) (x : Option Nat) (σ : oSt) (i t : Nat), xmMu m < k → k < t → i + k ≤ 900000 → hSt κ T kk pp ee f fc tN B D V nm p σ0 nf ma ha0 wn ws wa fm0 hl0 Kb σ x m → xmI cnt kk f pp ee tE tN R L y0 m → xmN N0 m → (∀ e, xmGo T f pp ee k m = .inl e → ∃ σ', ol_X3_go_24 T (oF κ T (N + 1321)) κ t (some ma) n0 x (nI i) σ = oj_X3_go_71 T (oF κ T (N + 1321)) κ (some ma) n0 σ' ∧ hEd σ0 ma ha0 wn ws wa fm0 hl0 e σ' ∧ 1 ≤ e.1 ∧ e.1 ≤ 6) ∧ ∀ r, xmGo T f pp ee k m = .inr r → ∃ σ', ol_X3_go_24 T (oF κ T (N + 1321)) κ t (some ma) n0 x (nI i) σ = oj_X3_go_71 T (oF κ T (N + 1321)) κ (some ma) n0 σ' ∧ hSt κ T kk pp ee f fc tN B D V nm p σ0 nf ma ha0 wn ws wa fm0 hl0 Kb σ' none (r.1, [], r.2.1, .inr r.2.2) ∧ xmI cnt kk f pp ee tE tN R L y0 (r.1, [], r.2.1, .inr r.2.2) ∧ xmN N0 (r.1, [], r.2.1, .inr r.2.2)
  | 0, m, x, σ, i, t, hk, ht, hi, S, Iv, hn => by omega
  | k + 1, m, x, σ, i, t, hk, ht, hi, S, Iv, hn => by
    obtain ⟨t, rfl⟩ : ∃ u, t = u + 1 := ⟨t - 1, by omega⟩
    have IH := h_lp (n0 := n0) P hF f0 hT hK hN0 k
    have ni : ¬ (1000000 : Int32) ≤ nI i := by
      rw [Int32.le_iff_toInt_le, nI_toInt (by omega)]
      show ¬ (1000000 : Int) ≤ i
      omega
    have FIN : ∀ (e : Nat × Nat) (x' : Option Nat) (σ' : oSt) (u i' : Nat), i' ≤ 900000 → 1 ≤ e.1 → e.1 ≤ 6 → hEd σ0 ma ha0 wn ws wa fm0 hl0 e σ' → ol_X3_go_24 T (oF κ T (N + 1321)) κ (u + 1) (some ma) n0 x' (nI i') σ' = oj_X3_go_71 T (oF κ T (N + 1321)) κ (some ma) n0 σ' := fun e x' σ' u i' hi' h1 h2 Ed => by
      obtain ⟨ha, hl, hp, top, fm, ⟨M, -⟩, -, -, -, -, f12⟩ := Ed
      have e12 : ovi (ofd σ' (some ma) 5 12) = some (nI e.1) := by rw [ofd_at M.1.1, f12]; rfl
      have ni' : ¬ (1000000 : Int32) ≤ nI i' := by
        rw [Int32.le_iff_toInt_le, nI_toInt (by omega)]
        show ¬ (1000000 : Int) ≤ i'
        omega
      rw [ol_X3_go_24, if_neg ni', e12, obn_at, if_neg (fun w => by have := nI_inj' (b := 0) (by omega) (by omega) w; omega)]
    cases q : xmDn m with
    | some r =>
      have ex : xmGo T f pp ee (k + 1) m = .inr r := by unfold xmGo; rw [q]
      rw [ex]
      refine ⟨fun e he => (by cases he), fun r' he => ?_⟩
      injection he with he
      subst he
      obtain ⟨h, fr, n, ctl⟩ := m
      cases fr with
      | cons F fr => cases q
      | nil =>
        cases ctl with
        | inl y => cases q
        | inr v =>
          injection q with q
          subst q
          obtain ⟨G, top, ha, hl, hp, fm, I, hb, rfl, z⟩ := id S
          have I : hXa κ T kk pp ee f fc tN B D V nm p σ0 nf ma ha0 wn ws wa fm0 hl0 σ G top ha hl hp fm n h [] := I
          have e12 : ovi (ofd σ (some ma) 5 12) = some 0 := by rw [ofd_at I.1.1.1.1, I.2.2.2.2.2.2.1]; rfl
          have e9 : ovi (ofd σ (some ma) 5 9) = some 0 := by rw [ofd_at I.1.1.1.1, I.2.2.2.2.1]; rfl
          refine ⟨σ, ?_, S, Iv, hn⟩
          rw [ol_X3_go_24, if_neg ni, e12, obn_at, if_pos rfl, if_pos rfl, e9, obn_at, if_pos (Int32.le_refl _)]
    | none =>
      obtain ⟨⟨fm, m1, m12, m9⟩, B⟩ := h_turn (N := N) P hF f0 hT hK hN0 S Iv hn q
      obtain ⟨x', σ', B1, B2⟩ := B
      have e12 : ovi (ofd σ (some ma) 5 12) = some 0 := by rw [ofd_at m1, m12]; rfl
      have J : ol_X3_go_24 T (oF κ T (N + 1321)) κ (t + 1) (some ma) n0 x (nI i) σ = ol_X3_go_24 T (oF κ T (N + 1321)) κ t (some ma) n0 x' (nI (i + 1)) σ' := by
        rw [ol_X3_go_24, if_neg ni, e12, obn_at, if_pos rfl]
        cases x with
        | none =>
          obtain ⟨c, hc, hc2⟩ := m9 rfl
          have e9 : ovi (ofd σ (some ma) 5 9) = some (nI (c + 1)) := by rw [ofd_at m1, hc]; rfl
          rw [if_pos rfl, e9, obn_at, if_neg (by rw [Int32.le_iff_toInt_le, nI_toInt (by omega)]; show ¬ ((c + 1 : Nat) : Int) ≤ 0; omega)]
          unfold oj_X3_go_48 oj_X3_go_64
          rw [if_pos rfl, oob_at m1, obn_at]
          have B1 : oF κ T (N + 1321) 100 [va_rf (some ma)] σ = some (some (va_rf x'), σ') := B1
          rw [B1, ← nI_p1]
          cases x' <;> rfl
        | some e =>
          rw [if_neg (fun w => by cases w)]
          unfold oj_X3_go_48 oj_X3_go_64
          rw [if_neg (fun w => by cases w), oob_at m1, obn_at]
          have B1 : oF κ T (N + 1321) 99 [va_rf (some ma), va_rf (some e)] σ = some (some (va_rf x'), σ') := B1
          rw [B1, ← nI_p1]
          cases x' <;> rfl
      rw [J]
      cases qs : xmSt T f pp ee m with
      | inl e =>
        rw [qs] at B2
        have ex : xmGo T f pp ee (k + 1) m = .inl e := by unfold xmGo; rw [q]; simp only [qs]
        rw [ex]
        refine ⟨fun e' he => ?_, fun r he => (by cases he)⟩
        injection he with he
        subst he
        obtain ⟨l1, l2⟩ := h_e16 Iv q qs
        obtain ⟨t, rfl⟩ : ∃ u, t = u + 1 := ⟨t - 1, by omega⟩
        exact ⟨σ', FIN e x' σ' t (i + 1) (by omega) l1 l2 B2, B2, l1, l2⟩
      | inr m' =>
        rw [qs] at B2
        have ex : xmGo T f pp ee (k + 1) m = xmGo T f pp ee k m' := by
          conv => lhs; unfold xmGo
          rw [q]
          simp only [qs]
        rw [ex]
        obtain ⟨I', hn'⟩ := xm_st hN0 Iv hn qs
        have mu := xmSt_mu qs
        exact IH m' x' σ' (i + 1) t (by omega) (by omega) (by omega) B2 I' hn'
end HZH
