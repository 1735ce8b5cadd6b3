/-! run(), the class: a call; an E begins, all cases -/
section HZF
variable {κ : oKv} {T n cnt : Nat} {kk pp ee f fc : Nat → Int32} {tE tN : Nat → tY} {R : Nat → Int32} {L : List Nat} {y0 : tY} {B : Nat → Nat} {D : cDt} {V : oSt} {nm : Nat → Option Nat} {p : Nat} {σ0 : oSt} {nf ma ha0 wn ws wa : Nat} {fm0 : List Value} {hl0 : Nat} {σ σ' : oSt} {G G' : hG} {top ha hl top' ha' hl' : Nat} {hp hp' : Nat → Int64} {fm gm : List Value} {nu n' : Nat} {h h' : xmHp} {fr : List xmFr} {env : List Nat} {vs : List xmV} {Kb N sc e pg lo1 fk : Nat} {d : Nat × Nat × Nat × tS × tS} {z : Unit} {a b : tT} {y : tY} {X : Nat → Nat → Prop}
theorem cTX.qn : ∀ (a : tT) (g' : Nat → Option Nat) (fk k m : Nat), tWf kk cnt a 2 → cTX κ T kk pp ee fc B D X lo1 V nm a env fk g' k m → k + tQn a = m
  | .leaf, g', fk, k, m, _, c => by
    have c : k = m := c
    exact c
  | .inner g d z a b, g', fk, k, m, wf, c => by
    rcases wf with ⟨cc, -⟩ | ⟨-, -, wb, cc⟩ | ⟨cc, -⟩
    · cases cc
    · have K : ∀ fk1, cTX κ T kk pp ee fc B D X lo1 V nm b env fk1 g' (k + 1) m → k + (tQn b + 1) = m := fun fk1 cb => by
        have := cTX.qn b g' fk1 (k + 1) m wb cb
        omega
      rcases cc with ⟨cc, -⟩ | ⟨cc, -⟩ | ⟨cc, -⟩
      · subst cc
        obtain ⟨x, su, -, -, cb⟩ := c
        exact K _ cb
      · subst cc
        obtain ⟨x, fs, -, -, -, cb⟩ := c
        exact K _ cb
      · subst cc
        obtain ⟨x, -, -, cb⟩ := c
        exact K _ cb
    · cases cc
/-- a call -/
theorem h_st15 (P : hPo T pp ee f fc tN L V nm p (hW wn ws wa) ma ha0 σ0) (hT : 9010 ≤ T) (I : hXa κ T kk pp ee f fc tN B D V nm p σ0 nf ma ha0 wn ws wa fm0 hl0 σ G top ha hl hp fm nu h fr) (H : xmH cnt kk f pp ee tE tN R L h) (hz : h.1.length ≤ 60000 ∧ h.2.1.length ≤ 20006 ∧ h.2.2.length ≤ 20000) (En : xmEn tE tN h env vs) (hsc : fm[10]? = some (.int (nI sc))) (hs : hSc G (hAr G.2.1 h.2.1) top hp vs.reverse sc) (hb : top + 16 * (nu + 1) + hPt fr ≤ Kb + xmTot h) (hK : Kb ≤ 322000) (hF : hFl κ D V p pg nf) (f0 : fm0[0]? = some (.ref pg)) (hdp : xmDp fr ≤ 50) (hfr : fr.length < 1683) (hh : tH (.inner 15 d z a b) ≤ 31) (hz2 : h.1.length + nu ≤ 60000 ∧ nu ≤ 20000) (w : xmE cnt kk f pp ee tE tN R L (.inner 15 d z a b) env y) (Tt : hTt κ T kk pp ee f fc tN B D V nm p σ0 nf (.inner 15 d z a b) env e) : (∃ fs, σ.1 e = some (.inr (7, fs)) ∧ fs[0]? = some (.int 401)) ∧ hOt κ T kk pp ee f fc tN B D V nm p σ0 nf ma ha0 wn ws wa fm0 hl0 Kb (hSx T (oF κ T (N + 6)) κ (some ma) (some e) 401 σ) (xmBg T f pp ee h fr nu env vs (.inner 15 d z a b)) := by
  have M := I.1.1
  have HH := I.1.2
  have K := I.2.1.1
  have h12 := w.l12
  have ev := En.1
  have tt := H.2.1.2
  have hml := P.2.2.2.1.2.2.2
  have ml := I.ml hml
  have hne := K.2.2.2.2.2
  have f12 := I.2.2.2.2.2.2.1
  have pP := w.2.1.2
  obtain ⟨⟨X, lo1, fk, ⟨hlo, hfk⟩, c⟩, E, hw⟩ := Tt
  obtain ⟨c0, pa, q, g', c1, cl, ca⟩ := c
  obtain ⟨⟨k1, k2, k3⟩, EA⟩ := w.k15
  have q4 : tQn a ≤ 4 := (pP.2.2.2.2.2.2.1 rfl).2
  have qn := cTX.qn a g' fk 0 q EA.2.1.1 ca
  have pe : p ≤ e := by have := c0.1; omega
  obtain ⟨gs, n1, F⟩ := P.nd K pe c1
  have en : nF (.inner 15 d z a b) = 0 + nF a + nF b := rfl
  have hta : tH a ≤ 30 := by
    have q : tH (.inner 15 d z a b) = max (tH a) (tH b) + 1 := rfl
    omega
  refine ⟨⟨gs, n1, by rw [F 0 (by decide) (by decide)]; rfl⟩, ?_⟩
  have R := h_ca7 (N := N) (Bq := top + 2 * tQn a + 16 * nu) P hT hlo pe c1 rfl cl (by omega) E (by omega) a h nu _ σ G top ha hl hp fm [] 0 0 1 0 T fk EA hta H ⟨hz2.1, hz.2.1, hz.2.2, hz2.2⟩ En h12 ca (by omega) hw.2.1 (I.li hsc hs) (Or.inl ⟨rfl, rfl, rfl, rfl⟩) qn (Nat.le_refl _) (by omega)
  unfold xmBg
  simp only [reduceIte, Nat.reduceEqDiff, or_self]
  unfold hSx
  rw [if_neg (by decide), if_neg (by decide), if_neg (by decide), if_neg (by decide), if_neg (by decide), if_neg (by decide), if_neg (by decide), if_pos rfl, oob_at M.1.1, obn_at, oE_X3_call]
  unfold ob_X3_call
  cases q1 : xmAg T f pp ee env vs a h nu with
  | inl c =>
    rw [q1] at R
    obtain ⟨σ', r1, r2⟩ := R
    have r1 : ol_X3_call_7 T (oF κ T (N + 5)) κ T (some ma) (some e) 0 0 0 σ = some (some (va_rf none), σ') := r1
    rw [r1, orn_no]
    exact ⟨none, σ', rfl, r2⟩
  | inr r =>
    rw [q1] at R
    obtain ⟨j1, j2, j3, j4, ⟨j5, j5'⟩, j6⟩ := xm_ag a h nu _ r EA hta H (by omega) En q1
    obtain ⟨σ', G', top', ha', hl', hp', fm', f1, la', lk', i1, i2, i3, i4, i5⟩ := R
    have i1 : ol_X3_call_7 T (oF κ T (N + 5)) κ T (some ma) (some e) 0 0 0 σ = oj_X3_call_79 T (oF κ T (N + 5)) κ (some ma) (some e) (nI f1) σ' := i1
    obtain ⟨I2, hsc2, hs2⟩ := i2.xa
    have M2 := I2.1.1
    have K2 := I2.2.1.1
    obtain ⟨gs2, n2, F2⟩ := P.nd K2 pe c1
    have En2 := En.mo j2
    obtain ⟨b', b1, gs', kk', cc', u1, u2, u3, u4, u5⟩ := P.us K2 E En2 k2
    obtain ⟨xv, V1, V2⟩ := c_valueOf (κ := κ) (T := T) (n := N + 4) M2 hsc2 hs2 u1 u2 u4 (by omega) (by omega)
    have e12 : ovi (ofd σ' (some ma) 5 12) = some 0 := by rw [ofd_at M2.1.1, I2.2.2.2.2.2.2.1]; rfl
    have e9 : ovr (ofd σ' (some e) 7 9) = some (some b') := by
      rw [ofd_at n2, F2 9 (by decide) (by decide)]
      show ovr (some (va_rf (nR fc pp ee nm env d.1))) = _
      rw [b1]; rfl
    have e2 : ovi (ofd σ' (some e) 7 2) = some (nI vs.length) := by rw [ofd_at n2, F2 2 (by decide) (by decide), ev]; rfl
    have hne2 : r.2.2 ≠ [] := fun w => by
      rw [w] at j4
      cases a with
      | leaf => exact k3 rfl
      | inner g' d' z' a' b' =>
        have j4 : 0 = tQn b' + 1 := j4
        omega
    have yk : yK (tN (gNu f pp ee env d.1)) = 1 := by
      cases er : r.2.2 with
      | nil => exact absurd er hne2
      | cons v0 l0 =>
        rw [er] at j3
        rw [show tN (gNu f pp ee env d.1) = _ from j3.1]
        rfl
    have xt : xmTot r.1 = xmTot h := by unfold xmTot; rw [j6]
    have A := h_apply (N := N + 1) (rest := r.2.2) (s := f1) P hF f0 hT I2 j1 ⟨by omega, by rw [j6]; exact hz.2.1, by rw [j6]; exact hz.2.2⟩ hdp hfr (En2.get k2).2.2 yk V2 (by
      have q := i3.all
      rw [List.nil_append] at q
      exact q) (by rw [xt]; omega) (fun q hq _ => by rw [xt]; omega) hK
    rw [i1]
    unfold oj_X3_call_79
    rw [e12, obn_at, if_pos rfl, e9, obn_at, e2, obn_at, oob_at M2.1.1, obn_at, V1, oln_lg, oob_at M2.1.1, obn_at]
    obtain ⟨x', σ2, A1, A2⟩ := A
    rw [A1]
    exact ⟨x', σ2, by cases x' <;> rfl, A2⟩
/-- **an E begins** -/
theorem h_begin {t : tT} (P : hPo T pp ee f fc tN L V nm p (hW wn ws wa) ma ha0 σ0) (hF : hFl κ D V p pg nf) (f0 : fm0[0]? = some (.ref pg)) (hT : 9010 ≤ T) (I : hXa κ T kk pp ee f fc tN B D V nm p σ0 nf ma ha0 wn ws wa fm0 hl0 σ G top ha hl hp fm nu h fr) (H : xmH cnt kk f pp ee tE tN R L h) (hz : h.1.length ≤ 60000 ∧ h.2.1.length ≤ 20006 ∧ h.2.2.length ≤ 20000) (hz2 : h.1.length + nu ≤ 60000 ∧ nu ≤ 20000) (En : xmEn tE tN h env vs) (hsc : fm[10]? = some (.int (nI sc))) (hs : hSc G (hAr G.2.1 h.2.1) top hp vs.reverse sc) (hb : top + 16 * (nu + 1) + hPt fr ≤ Kb + xmTot h) (hK : Kb ≤ 322000) (hdp : xmDp fr ≤ 50) (hfr : fr.length < 1683) (hh : tH t ≤ 31) (w : xmE cnt kk f pp ee tE tN R L t env y) (Tt : hTt κ T kk pp ee f fc tN B D V nm p σ0 nf t env e) : ∃ kc, (∃ fs, σ.1 e = some (.inr (7, fs)) ∧ fs[0]? = some (.int kc)) ∧ hOt κ T kk pp ee f fc tN B D V nm p σ0 nf ma ha0 wn ws wa fm0 hl0 Kb (hSx T (oF κ T (N + 1320)) κ (some ma) (some e) kc σ) (xmBg T f pp ee h fr nu env vs t) := by
  have wf := w.2.1.1
  have hml := P.2.2.2.1.2.2.2
  have hm := I.1.1.1.1
  cases t with
  | leaf => cases wf
  | inner g d z a b =>
  rcases id wf with ⟨c', -⟩ | ⟨c', -⟩ | ⟨-, c'⟩
  · cases c'
  · cases c'
  rcases c' with ⟨c', -⟩ | ⟨c', -⟩ | ⟨c', -⟩ | ⟨c', -⟩ | ⟨c', -⟩ | ⟨c', -⟩ | ⟨c' | c', -⟩ | ⟨c' | c' | c', -⟩ | ⟨c' | c' | c', -⟩ | ⟨c', -⟩ | ⟨c', -⟩ | ⟨c', -⟩ | ⟨c', -⟩ | ⟨c', -⟩
  · subst c'
    exact ⟨212, h_st1 (N := N + 1316) P hT I H hz En hsc hs hb hK hfr w Tt⟩
  · subst c'
    exact ⟨219, h_st2 (N := N + 1316) P hT I H hz En hsc hs hb hK w Tt⟩
  · subst c'
    obtain ⟨n1, n2⟩ := h_pl3 (N := N + 1316) P hT I H hz En hsc hs hb hK w Tt
    exact ⟨206, n1, hPl.ot hml hm (by decide) n2⟩
  · subst c'
    exact ⟨207, h_st4 (N := N + 1316) P hT I H hz En hsc hs hb hK (by omega) w Tt⟩
  · subst c'
    exact ⟨201, h_st5 (N := N + 1316) P hT I H hz En hsc hs hb hK (by omega) w Tt⟩
  · subst c'
    exact ⟨220, h_st6 (N := N + 1316) P hT I H hz En hsc hs hb hK w Tt⟩
  · subst c'
    obtain ⟨n1, n2⟩ := h_pl7 (N := N + 1315) P hT I H hz En hsc hs hb hK w Tt
    exact ⟨215, n1, hPl.ot hml hm (by decide) n2⟩
  · subst c'
    obtain ⟨n1, n2⟩ := h_pl10 (N := N + 1316) P hT I H hz En hsc hs hb hK w Tt
    exact ⟨400, n1, hPl.ot hml hm (by decide) n2⟩
  · subst c'
    obtain ⟨n1, n2⟩ := h_plC (g0 := 8) (kc := 223) (N := N + 1316) (by decide) P hT I H hz En hsc hs hb hK w Tt
    exact ⟨223, n1, hPl.ot hml hm (by decide) n2⟩
  · subst c'
    obtain ⟨n1, n2⟩ := h_plC (g0 := 9) (kc := 205) (N := N + 1316) (by decide) P hT I H hz En hsc hs hb hK w Tt
    exact ⟨205, n1, hPl.ot hml hm (by decide) n2⟩
  · subst c'
    obtain ⟨n1, n2⟩ := h_plC (g0 := 17) (kc := 216) (N := N + 1316) (by decide) P hT I H hz En hsc hs hb hK w Tt
    exact ⟨216, n1, hPl.ot hml hm (by decide) n2⟩
  · subst c'
    obtain ⟨n1, n2⟩ := h_pl11 (N := N + 1316) P hT I H hz En hsc hs hb hK w Tt
    exact ⟨42, n1, hPl.ot hml hm (by decide) n2⟩
  · subst c'
    obtain ⟨n1, n2⟩ := h_plQ (g0 := 12) (kc := 47) (N := N + 1316) (by decide) P hT I H hz En hsc hs hb hK w Tt
    exact ⟨47, n1, hPl.ot hml hm (by decide) n2⟩
  · subst c'
    obtain ⟨n1, n2⟩ := h_plQ (g0 := 13) (kc := 37) (N := N + 1316) (by decide) P hT I H hz En hsc hs hb hK w Tt
    exact ⟨37, n1, hPl.ot hml hm (by decide) n2⟩
  · subst c'
    obtain ⟨n1, n2⟩ := h_pl14 (N := N + 1316) P hT I H hz En hsc hs hb hK w Tt
    exact ⟨91, n1, hPl.ot hml hm (by decide) n2⟩
  · subst c'
    exact ⟨401, h_st15 (N := N + 1314) P hT I H hz En hsc hs hb hK hF f0 hdp hfr hh hz2 w Tt⟩
  · subst c'
    exact ⟨40, h_st16 (N := N + 1316) P hT I H hz En hsc hs hb hK w Tt⟩
  · subst c'
    obtain ⟨n1, n2⟩ := h_pl18 (N := N + 1315) P hT I H hz En hsc hs hb hK w Tt
    exact ⟨203, n1, hPl.ot hml hm (by decide) n2⟩
  · subst c'
    exact ⟨214, h_st19 (N := N + 1316) P hT I H hz En hsc hs hb hK w Tt⟩
end HZF
