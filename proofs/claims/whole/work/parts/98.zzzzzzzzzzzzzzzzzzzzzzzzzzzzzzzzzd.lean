/-! run(), the class: apply() -/
/-- the PROGRAM's functions -/
def hFl (κ : oKv) (D : cDt) (V : oSt) (p pg nf : Nat) : Prop := p ≤ pg ∧ ∃ gp fl d cap mc, V.1 pg = some (.inr (9, gp)) ∧ gp[3]? = some (.ref fl) ∧ p ≤ fl ∧ cLs κ V fl d cap nf mc D.2.2.2 7 ∧ (p ≤ d ∨ (d = κ.2.2.1 ∧ V.1 d = none)) ∧ nf < 2 ^ 31
section HYU
variable {κ : oKv} {T n cnt : Nat} {kk pp ee f fc : Nat → Int32} {tE tN : Nat → tY} {R : Nat → Int32} {L : List Nat} {y0 : tY} {B : Nat → Nat} {D : cDt} {V : oSt} {nm : Nat → Option Nat} {p : Nat} {σ0 : oSt} {nf ma ha0 wn ws wa : Nat} {fm0 : List Value} {hl0 : Nat} {σ σ' : oSt} {G G' : hG} {top ha hl top' ha' hl' : Nat} {hp hp' : Nat → Int64} {fm gm : List Value} {nu n' : Nat} {h h' : xmHp} {fr : List xmFr} {env : List Nat} {vs : List xmV} {Kb N sc e pg : Nat} {y : tY}
theorem hPt_ap (l : List xmV) (fr : List xmFr) : hPt (.inr l :: fr) = 2 * l.length + hPt fr := rfl
theorem hPt_nil (fr : List xmFr) : hPt (.inr [] :: fr) = hPt fr := by
  show 2 * 0 + hPt fr = _
  omega
/-- **apply() (92)** -/
theorem h_apply {v : xmV} {x : Int64} {rest : List xmV} {s : Nat} (P : hPo T pp ee f fc tN L V nm p (hW wn ws wa) ma ha0 σ0) (hF : hFl κ D V p pg nf) (f0 : fm0[0]? = some (.ref pg)) (hT : 9010 ≤ T) (I : hXa κ T kk pp ee f fc tN B D V nm p σ0 nf ma ha0 wn ws wa fm0 hl0 σ G top ha hl hp fm nu h fr) (H : xmH cnt kk f pp ee tE tN R L h) (hz : h.1.length ≤ 60000 ∧ h.2.1.length ≤ 20006 ∧ h.2.2.length ≤ 20000) (hdp : xmDp fr ≤ 50) (hfr : fr.length < 1683) (hv : xmT tE tN h y v) (hy : yK y = 1) (hvx : hV G v x) (hr : hSc G (hAr G.2.1 h.2.1) top hp rest s) (hb : top + 2 * rest.length + 16 * nu + hPt fr ≤ Kb + xmTot h) (hb2 : ∀ q, q + rest.length ≤ 3 → hVt h v = 3 * (3 - q) → top + 2 * rest.length + 3 + 16 * nu + hPt fr + 3 * (3 - (q + rest.length)) ≤ Kb + xmTot h) (hK : Kb ≤ 322000) : hOt κ T kk pp ee f fc tN B D V nm p σ0 nf ma ha0 wn ws wa fm0 hl0 Kb (oF κ T (N + 4) 92 [va_rf (some ma), .int x.toInt32, .int (nI s)] σ) (xmAp h fr nu v rest) := by
  have M := I.1.1
  have HH := I.1.2
  have K := I.2.1.1
  have tt := H.2.1.2
  have hml := P.2.2.2.1.2.2.2
  have ml := I.ml hml
  have hne := K.2.2.2.2.2
  have t31 := M.2.2.2
  have lg := HH.1.1
  obtain ⟨i, fn, fa, v1, v2, v3, v4, v5⟩ : ∃ i fn fa, v.1 = 3 ∧ v.2 = xmNi i ∧ h.1[i]? = some fn ∧ G.1[i]? = some fa ∧ x = xmNi fa := by
    rcases hv with ⟨q, -⟩ | ⟨q, -⟩ | ⟨q, -⟩ | ⟨q, -⟩ | ⟨-, a, i, fn, e1, e2, -⟩
    · omega
    · omega
    · omega
    · omega
    · rcases hvx with ⟨q, -⟩ | ⟨q, -⟩ | ⟨-, i', fa, p1, p2, p3⟩ | ⟨q, -⟩
      · omega
      · omega
      · have h1 := xget_lt e2
        have h2 := xget_lt p2
        have ei : i = i' := by
          have w := congrArg xmIx (e1.symm.trans p1)
          rw [xmNi_ix (by omega), xmNi_ix (by omega)] at w
          exact w
        subst ei
        exact ⟨i, fn, fa, a, e1, e2, p2, p3⟩
      · omega
  have il := xget_lt v3
  obtain ⟨⟨b1, b2, b3⟩, ⟨u, b4, nb⟩, ⟨s', b5, b6⟩, b7⟩ := HH.2.1 i fn fa v3 v4
  obtain ⟨nu1, m, fs, pa, xb, mc, dd, c0, ⟨pm, ppa⟩, c1, c7, c11, c12, cl, Tb⟩ := id nb
  obtain ⟨-, ⟨w1, w4, wh⟩, -, -⟩ := H.1 fn (List.mem_of_getElem? v3)
  obtain ⟨gs, n1, F⟩ := P.nd K pm c1
  have h7 : gs[7]? = some (.int (nI u)) := by rw [F 7 (by decide) (by decide)]; exact c7
  have h11 : gs[11]? = some (.ref pa) := by rw [F 11 (by decide) (by decide)]; exact c11
  have h12 : gs[12]? = some (.ref xb) := by rw [F 12 (by decide) (by decide)]; exact c12
  have cl' := P.ob K ppa cl (by decide)
  obtain ⟨ppg, gp, fl, d1, cap1, mc1, l1, l2, l3, l4, l5, l6⟩ := hF
  have pg' := P.ob K ppg l1 (by decide)
  have LS := (P.ls K l4 l3 l5 l6).2
  obtain ⟨xo, do', o1, -⟩ := id LS
  have G1 := l_get (κ := κ) (T := T) (n := N) LS nu1
  rw [c0] at G1
  have oc : ocs σ (some m) 7 = true := by simp only [ocs, n1]; rfl
  have eg : h.1.getD (xmIx v.2) (.leaf, [], [], []) = fn := by
    rw [v2, xmNi_ix (by omega), List.getD_eq_getElem?_getD, v3]
    rfl
  have q0 : ovr (ofd σ (some ma) 5 0) = some (some pg) := by
    rw [ofd_at M.1.1, I.2.2.2.1 0 (by decide), f0]; rfl
  have q3 : ovr (ofd σ (some pg) 9 3) = some (some fl) := by rw [ofd_at pg', l2]; rfl
  rw [oE_X3_apply]
  unfold ob_X3_apply
  rw [q0, obn_at, q3, obn_at, M.hp4, obn_at, v5, xmNi_32, M.aj b1.2.1, obn_at, o1, obn_at, b4, xmNi_32, G1, orn_at, ogd_at oc, M.hp4, obn_at, nI_p1, M.aj b2.2.1, obn_at, obn_at, show (2 : Int32) = nI 2 from rfl, nI_add, M.aj b3.2.1, obn_at, b5, b7, xmNi_32, xmNi_32]
  obtain ⟨σ1, ha1, hl1, hp1, gm1, a1, s1, A1, A2, A3, A4, A5, A6, A7, A8, A9⟩ := h_ap46 (κ := κ) (T := T) (n := N) (G := G) (nb := hNb κ T kk pp ee f fc tN B D V nm p σ0 nf) (h := h) (σ0 := σ) (ha0 := ha) (W := fun _ => False) K.2.1 ⟨fm, M.1.1⟩ ⟨_, _, M.2.2.1⟩ ml n1 ⟨fun w => w, fun w => w⟩ h11 cl' w4 rest fn.2.2.2.length T s s' top (fn.2.2.1 ++ fn.2.2.2).reverse σ ha hl hp fm (by omega) (by omega) M (hKe.rf K.2.1 K.2.2.2.2.1 hne) HH hr b6 (by omega)
  rw [A1]
  have I1 := I.to (n' := nu) A2 A5 A8 A9 (hGe.rf G) (hKp.up (by omega) A4) (fun k hk => A3 k (fun w' => hk (by revert w'; simp only [List.mem_cons, List.not_mem_nil, or_false]; omega))) ((A3 11 (by decide)).trans I.2.2.2.2.2.1) ((A3 14 (by decide)).trans I.2.2.2.2.2.2.2.2)
  have K1 := I1.2.1.1
  have n2 : σ1.1 m = some (.inr (7, gs)) := A8.at K.2.1 ⟨fm, M.1.1⟩ ⟨_, _, M.2.2.1⟩ n1 (fun _ w => by cases w) (fun _ _ w => by cases w) (fun w => w)
  have cl2 : σ1.1 pa = some (.inr (1, [.int mc, .ref dd, .int (nI (xmWa fn.1))])) := A8.at K.2.1 ⟨fm, M.1.1⟩ ⟨_, _, M.2.2.1⟩ cl' (fun _ w => by cases w) (fun _ _ w => by cases w) (fun w => w)
  unfold xmAp
  simp only
  rw [eg]
  by_cases e1 : fn.2.2.2.length + rest.length < xmWa fn.1
  · rw [if_pos e1]
    have mn : min (xmWa fn.1 - fn.2.2.2.length) rest.length = rest.length := by omega
    have tk : rest.take (xmWa fn.1 - fn.2.2.2.length) = rest := List.take_of_length_le (by omega)
    rw [mn] at I1 A2 A5 A6 A7 ⊢
    rw [tk] at A7
    obtain ⟨σ2, ha2, hl2, hp2, gm2, B1, B2, B3, B4, ⟨B5, B6, B7, B8⟩, B9, B10, B11⟩ := h_ap96a (κ := κ) (T := T) (n := N) (a := a1) (s := s1) A2 n2 h11 cl2 h7 (has := fn.2.2.2.length + rest.length) e1 w4 (by omega) K1.2.2.2.2.2.symm (I1.ml hml) K1.2.2.2.2.1 K1.2.1
    obtain ⟨k2, co2⟩ := B9.ke K1.2.1 K1.2.2.2.2.1 K1.2.2.2.2.2 B10 B11
    have g : hGe G (G.1 ++ [top + 2 * rest.length], G.2) := ⟨⟨[_], rfl⟩, ⟨[], by rw [List.append_nil]⟩, ⟨[], by rw [List.append_nil]⟩⟩
    have H' := A5.fn (fn := (fn.1, fn.2.1, fn.2.2.1, fn.2.2.2 ++ rest)) (a := top + 2 * rest.length) (s := a1) (top' := top + 2 * rest.length + 3) (hp' := hp2) (Nat.le_refl _) (Nat.le_refl _) B5 ⟨u, B6, nb⟩ B7 (by
      show hSc _ _ _ _ (fn.2.2.1 ++ (fn.2.2.2 ++ rest)).reverse a1
      rw [← List.append_assoc, List.reverse_append]
      exact A7.kp g (hKp.up (by omega) B5)) (by rw [B8]; show _ = xmNi (fn.2.2.2 ++ rest).length; rw [List.length_append]) (by omega)
    have I2 := I1.to (n' := nu) (h' := xmNf h (fn.1, fn.2.1, fn.2.2.1, fn.2.2.2 ++ rest)) B2 H' k2 co2 g (hKp.up (by omega) B5) (fun k hk => B3 k (fun w' => hk (by revert w'; simp only [List.mem_cons, List.not_mem_nil, or_false]; omega))) ((B3 11 (by decide)).trans I1.2.2.2.2.2.1) ((B3 14 (by decide)).trans I1.2.2.2.2.2.2.2.2)
    refine ⟨none, σ2, B1, _, _, ha2, hl2, hp2, gm2, I2, ?_, rfl, xmNi (top + 2 * rest.length), B4, Or.inr (Or.inr (Or.inl ⟨rfl, h.1.length, top + 2 * rest.length, rfl, ?_, rfl⟩))⟩
    · have ev : hVt h v = 3 * (3 - fn.2.2.2.length) := by unfold hVt; rw [if_pos v1, eg]
      have e2 : hVt (xmNf h (fn.1, fn.2.1, fn.2.2.1, fn.2.2.2 ++ rest)) (3, xmNi h.1.length) = 3 * (3 - (fn.2.2.2.length + rest.length)) := by
        unfold hVt
        rw [if_pos rfl, xmNi_ix (by omega), List.getD_eq_getElem?_getD]
        show 3 * (3 - (((h.1 ++ [(fn.1, fn.2.1, fn.2.2.1, fn.2.2.2 ++ rest)])[h.1.length]?).getD (.leaf, [], [], [])).2.2.2.length) = _
        rw [List.getElem?_append_right (Nat.le_refl _), Nat.sub_self]
        show 3 * (3 - (fn.2.2.2 ++ rest).length) = _
        rw [List.length_append]
      have := hb2 fn.2.2.2.length (by omega) ev
      show top + 2 * rest.length + 3 + 16 * nu + hPt fr + hVt (xmNf h (fn.1, fn.2.1, fn.2.2.1, fn.2.2.2 ++ rest)) (3, xmNi h.1.length) ≤ Kb + xmTot h
      rw [e2]
      exact this
    · show (G.1 ++ [top + 2 * rest.length])[h.1.length]? = some (top + 2 * rest.length)
      rw [← lg, List.getElem?_append_right (Nat.le_refl _), Nat.sub_self]
      rfl
  · rw [if_neg e1]
    have mn : min (xmWa fn.1 - fn.2.2.2.length) rest.length = xmWa fn.1 - fn.2.2.2.length := by omega
    have hq : fn.2.2.2.length + (xmWa fn.1 - fn.2.2.2.length) = xmWa fn.1 := by omega
    rw [mn] at I1 A2 A5 A6 A7 ⊢
    rw [hq]
    have f13 := I1.2.2.2.2.2.2.2.1
    by_cases e2 : xmDp fr = 50
    · rw [if_pos e2]
      rw [e2] at f13
      rw [h_ap96b A2 n2 h11 cl2 (Nat.le_refl _) w4 f13]
      exact hOt.en (q := 2) I1 hml (by omega)
    · rw [if_neg e2]
      obtain ⟨WN, WS, WA, Wt, Fk⟩ := I1.2.2.1
      obtain ⟨σ2, gm2, B1, B2, B3, ⟨B4, B5, B6⟩, B7, B8, B9⟩ := h_ap96c (κ := κ) (T := T) (n := N) (a := a1) (s := s1) A2 n2 h11 h12 cl2 (Nat.le_refl _) w4 f13 (by omega) I1.2.2.2.2.1 hfr Wt K1.2.2.2.2.2
      have I2 := I1.aw (F := .inr (rest.drop (xmWa fn.1 - fn.2.2.2.length))) P B2 B3 B4 B6 B7 ⟨⟨by unfold va_up; rw [if_pos rfl], s1, by unfold upd; rw [if_pos rfl], A6⟩, Fk.up fr (Nat.le_refl _)⟩ B8 B9
      rw [B1]
      refine hOt.go I2 Tb B5 ?_ ?_
      · show hSc G (hAr G.2.1 h.2.1) _ hp1 (fn.2.2.1 ++ (fn.2.2.2 ++ rest.take (xmWa fn.1 - fn.2.2.2.length))).reverse a1
        rw [← List.append_assoc, List.reverse_append]
        exact A7
      · have ld : (rest.drop (xmWa fn.1 - fn.2.2.2.length)).length = rest.length - (xmWa fn.1 - fn.2.2.2.length) := List.length_drop
        have := hPt_ap (rest.drop (xmWa fn.1 - fn.2.2.2.length)) fr
        omega
end HYU
