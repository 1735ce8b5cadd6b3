/-! run(), the class: plain(), on -/
section HYR
variable {κ : oKv} {T n cnt : Nat} {kk pp ee f fc : Nat → Int32} {tE tN : Nat → tY} {R : Nat → Int32} {L : List Nat} {y0 : tY} {B : Nat → Nat} {D : cDt} {V : oSt} {nm : Nat → Option Nat} {p : Nat} {σ0 : oSt} {nf ma ha0 wn ws wa : Nat} {fm0 : List Value} {hl0 : Nat} {σ σ' : oSt} {G G' : hG} {top ha hl top' ha' hl' : Nat} {hp hp' : Nat → Int64} {fm gm : List Value} {nu n' : Nat} {h h' : xmHp} {fr : List xmFr} {env : List Nat} {vs : List xmV} {Kb N sc e : Nat} {d : Nat × Nat × Nat × tS × tS} {z : Unit} {a b : tT} {y : tY}
/-- a step of the heap, as hXa wants it -/
theorem hGr.ke (g : hGr ma ha hl σ σ' ha' hl') (hfr : ∀ q, σ.2.1 ≤ q → σ.1 q = none) (h1 : ha < σ.2.1) (h2 : ha ≠ ma) (h3 : ha' ≠ ma) (h4 : ha' < σ'.2.1) : hKe (fun _ => False) ma ha σ σ' ha' ∧ hCo σ hl σ' hl' := ⟨(hKe.rf (W := fun _ => False) hfr h1 h2).gr g h3 h4, g.le.2⟩
theorem hKp.up {Ar : Nat → Prop} (ht : top ≤ top') (hk : ∀ i, i < top → hp' i = hp i) : hKp Ar Ar top top' hp hp' := fun a ha => ⟨⟨ha.1, Nat.lt_of_lt_of_le ha.2.1 ht, ha.2.2⟩, hk a ha.2.1⟩
/-- a NAME's array -/
theorem hV.ar (HH : hHp (hNb κ T kk pp ee f fc tN B D V nm p σ0 nf) G top hp h) (hl2 : h.2.1.length ≤ 20006) {v : xmV} (ty : xmT tE tN h (yB 2) v) : ∃ i ya yy, v = (2, xmNi i) ∧ i < 2 ^ 31 ∧ h.2.1[i]? = some yy ∧ G.2.1[i]? = some ya ∧ xmLn h v.2 = yy.length ∧ h.2.1.getD (xmIx v.2) [] = yy ∧ xmIx v.2 = i := by
  rcases ty with ⟨q, -⟩ | ⟨q, -⟩ | ⟨-, q, i, hi, ei⟩ | ⟨q, -⟩ | ⟨q, -⟩
  · exact absurd q (by decide)
  · exact absurd q (by decide)
  · obtain ⟨yy, ea⟩ : ∃ a, h.2.1[i]? = some a := ⟨_, List.getElem?_eq_getElem hi⟩
    obtain ⟨ya, ga⟩ := gl_ex HH.1.2.1 ea
    have ix : xmIx v.2 = i := by rw [ei, xmNi_ix (by omega)]
    have eg : h.2.1.getD (xmIx v.2) [] = yy := by
      rw [ix, List.getD_eq_getElem?_getD, ea]
      rfl
    exact ⟨i, ya, yy, by rw [← q, ← ei], by omega, ea, ga, by unfold xmLn; rw [eg], eg, ix⟩
  · exact absurd q (by decide)
  · exact absurd q (by decide)
/-- an element -/
theorem h_pl14 (P : hPo T pp ee f fc tN L V nm p (hW wn ws wa) ma ha0 σ0) (hT : 9010 ≤ T) (I : hXa κ T kk pp ee f fc tN B D V nm p σ0 nf ma ha0 wn ws wa fm0 hl0 σ G top ha hl hp fm nu h fr) (H : xmH cnt kk f pp ee tE tN R L h) (hz : h.1.length ≤ 60000 ∧ h.2.1.length ≤ 20006 ∧ h.2.2.length ≤ 20000) (En : xmEn tE tN h env vs) (hsc : fm[10]? = some (.int (nI sc))) (hs : hSc G (hAr G.2.1 h.2.1) top hp vs.reverse sc) (hb : top + 16 * (nu + 1) + hPt fr ≤ Kb + xmTot h) (hK : Kb ≤ 322000) (w : xmE cnt kk f pp ee tE tN R L (.inner 14 d z a b) env y) (Tt : hTt κ T kk pp ee f fc tN B D V nm p σ0 nf (.inner 14 d z a b) env e) : (∃ fs, σ.1 e = some (.inr (7, fs)) ∧ fs[0]? = some (.int 91)) ∧ hPl κ T kk pp ee f fc tN B D V nm p σ0 nf ma ha0 wn ws wa fm0 hl0 Kb nu fr (oF κ T (N + 4) 98 [va_rf (some ma), va_rf (some e)] σ) (xmBg T f pp ee h fr nu env vs (.inner 14 d z a b)) := by
  have M := I.1.1
  have HH := I.1.2
  have K := I.2.1.1
  have h12 := w.l12
  have ev := En.1
  have tt := H.2.1.2
  have hml := P.2.2.2.1.2.2.2
  have ml := I.ml hml
  have hne := K.2.2.2.2.2
  have f12 := I.2.2.2.2.2.2.1
  have pP := w.2.1.2
  obtain ⟨⟨X, lo1, fk, ⟨hlo, hfk⟩, c⟩, E, ⟨nw1, nw2⟩, -⟩ := Tt
  obtain ⟨c0, l', nd, su, c1, cl, -⟩ := c
  have g := w.1.1
  have rr := w.1.2
  unfold gOk at g
  unfold rWo at rr
  simp only [reduceIte, Nat.reduceEqDiff, or_self] at g rr
  obtain ⟨gs, n1, F⟩ := P.nd K (show p ≤ e by have := c0.1; omega) c1
  obtain ⟨b', b1, b2⟩ := P.us K E En rr.1
  have h0 : gs[0]? = some (.int 91) := by rw [F 0 (by decide) (by decide)]; rfl
  have h2 : gs[2]? = some (.int (nI vs.length)) := by rw [F 2 (by decide) (by decide), ev]; rfl
  have h9 : gs[9]? = some (.ref b') := by
    rw [F 9 (by decide) (by decide)]
    show some (va_rf (nR fc pp ee nm env d.1)) = _
    rw [b1]; rfl
  have h15 : gs[15]? = some (.ref l') := by rw [F 15 (by decide) (by decide)]; rfl
  have e0 : ovi (ofd σ (some e) 7 0) = some 91 := by rw [ofd_at n1, h0]; rfl
  have S1 := P.sq K E En H (by omega) hlo cl rr.2 g.2.2 pP.2.2.2.2.1.1 pP.2.2.1.1.1.2 nw1
  have ty := (En.get rr.1).2.2
  rw [g.2.1] at ty
  obtain ⟨i, ya, yy, v1, v2, v3, v4, v5, v6, v7⟩ := hV.ar HH (by omega) ty
  have R := h_elem (κ := κ) (T := T) (n := N) M HH hsc f12 hs n1 h9 h2 h15 b2 v1 v2 v3 v4 S1 (by omega) (by omega) (by omega)
  refine ⟨⟨gs, n1, h0⟩, ?_⟩
  unfold xmBg
  simp only [reduceIte, Nat.reduceEqDiff, or_self]
  rw [v5, v6, oE_X3_plain]
  unfold ob_X3_plain
  rw [e0, obn_at, if_neg (by decide), if_neg (by decide), if_neg (by decide), if_pos rfl, M.hp4, obn_at, oob_at M.1.1, obn_at]
  have END : ∀ q : Nat, hPl κ T kk pp ee f fc tN B D V nm p σ0 nf ma ha0 wn ws wa fm0 hl0 Kb nu fr (oin (some (some (.int 0), oput σ ma (.inr (5, fm.set 12 (.int (nI q)))))) fun r37 s35 => obn (oaj s35 (some ha) r37) fun v38 => some (some (.long v38), s35)) (.inl (q, nu)) := fun q => by
    have M' := M.pt (gm := fm.set 12 (.int (nI q))) hne (by rw [List.length_set]; exact M.1.2) (List.getElem?_set_ne (by decide)) (List.getElem?_set_ne (by decide))
    have t4 := M.2.2.2.1
    rw [oin_at, show (0 : Int32) = nI 0 from rfl, M'.aj (by omega), obn_at]
    exact hPl.en I hml (by omega) rfl
  by_cases c1' : xmB (xmSm T f pp ee h env vs d.2.2.2.1.2) = true
  · rw [if_pos c1'] at R ⊢
    by_cases c2 : 0 ≤ xmSm T f pp ee h env vs d.2.2.2.1.2 ∧ xmSm T f pp ee h env vs d.2.2.2.1.2 < xmNi yy.length
    · rw [if_pos c2] at R ⊢
      have R : oF κ T (N + 3) 88 [va_rf (some ma), va_rf (some e)] σ = some (some (.int (nI (ya + 1 + xmIx (xmSm T f pp ee h env vs d.2.2.2.1.2)))), σ) := R
      obtain ⟨⟨q1, q2⟩, q3, q4⟩ := HH.2.2.1 i yy ya v3 v4
      have yl := (H.2.1.1 yy (List.mem_of_getElem? v3)).1
      have hx : xmIx (xmSm T f pp ee h env vs d.2.2.2.1.2) < yy.length := by
        obtain ⟨z1, z2⟩ := c2
        rw [Int64.le_iff_toInt_le] at z1
        rw [Int64.lt_iff_toInt_lt, xmNi_int (by omega)] at z2
        have z1 : (0 : Int) ≤ (xmSm T f pp ee h env vs d.2.2.2.1.2).toInt := z1
        show (xmSm T f pp ee h env vs d.2.2.2.1.2).toInt.toNat < yy.length
        omega
      rw [R, oin_at, M.aj (by omega), obn_at, q4 _ _ (List.getElem?_eq_getElem hx)]
      refine hPl.v I rfl (Or.inl ⟨Nat.zero_le _, ?_⟩) hb
      show yy[xmIx (xmSm T f pp ee h env vs d.2.2.2.1.2)] = yy.getD _ 0
      rw [List.getD_eq_getElem?_getD, List.getElem?_eq_getElem hx]
      rfl
    · rw [if_neg c2] at R ⊢
      have R : oF κ T (N + 3) 88 [va_rf (some ma), va_rf (some e)] σ = some (some (.int 0), _) := R
      rw [R]
      exact END 5
  · rw [if_neg c1'] at R ⊢
    have R : oF κ T (N + 3) 88 [va_rf (some ma), va_rf (some e)] σ = some (some (.int 0), _) := R
    rw [R]
    exact END 2
/-- a new array -/
theorem h_pl7 (P : hPo T pp ee f fc tN L V nm p (hW wn ws wa) ma ha0 σ0) (hT : 9010 ≤ T) (I : hXa κ T kk pp ee f fc tN B D V nm p σ0 nf ma ha0 wn ws wa fm0 hl0 σ G top ha hl hp fm nu h fr) (H : xmH cnt kk f pp ee tE tN R L h) (hz : h.1.length ≤ 60000 ∧ h.2.1.length ≤ 20006 ∧ h.2.2.length ≤ 20000) (En : xmEn tE tN h env vs) (hsc : fm[10]? = some (.int (nI sc))) (hs : hSc G (hAr G.2.1 h.2.1) top hp vs.reverse sc) (hb : top + 16 * (nu + 1) + hPt fr ≤ Kb + xmTot h) (hK : Kb ≤ 322000) (w : xmE cnt kk f pp ee tE tN R L (.inner 7 d z a b) env y) (Tt : hTt κ T kk pp ee f fc tN B D V nm p σ0 nf (.inner 7 d z a b) env e) : (∃ fs, σ.1 e = some (.inr (7, fs)) ∧ fs[0]? = some (.int 215)) ∧ hPl κ T kk pp ee f fc tN B D V nm p σ0 nf ma ha0 wn ws wa fm0 hl0 Kb nu fr (oF κ T (N + 5) 98 [va_rf (some ma), va_rf (some e)] σ) (xmBg T f pp ee h fr nu env vs (.inner 7 d z a b)) := by
  have M := I.1.1
  have HH := I.1.2
  have K := I.2.1.1
  have h12 := w.l12
  have ev := En.1
  have tt := H.2.1.2
  have hml := P.2.2.2.1.2.2.2
  have ml := I.ml hml
  have hne := K.2.2.2.2.2
  have f12 := I.2.2.2.2.2.2.1
  have pP := w.2.1.2
  obtain ⟨⟨X, lo1, fk, ⟨hlo, hfk⟩, c⟩, E, ⟨nw1, nw2⟩, -⟩ := Tt
  obtain ⟨c0, l', cq, su, c1, cl, -⟩ := c
  have g := w.1.1
  have rr := w.1.2
  unfold gOk at g
  unfold rWo at rr
  simp only [reduceIte, Nat.reduceEqDiff, or_false, or_self, false_or] at g rr
  obtain ⟨gs, n1, F⟩ := P.nd K (show p ≤ e by have := c0.1; omega) c1
  have h0 : gs[0]? = some (.int 215) := by rw [F 0 (by decide) (by decide)]; rfl
  have h15 : gs[15]? = some (.ref l') := by rw [F 15 (by decide) (by decide)]; rfl
  have e0 : ovi (ofd σ (some e) 7 0) = some 215 := by rw [ofd_at n1, h0]; rfl
  have e15 : ovr (ofd σ (some e) 7 15) = some (some l') := by rw [ofd_at n1, h15]; rfl
  have S1 := P.sq K E En H (by omega) hlo cl rr.1 g.2 pP.2.2.2.2.1.1 pP.2.2.1.1.1.2 nw1
  have f14 := I.2.2.2.2.2.2.2.2
  refine ⟨⟨gs, n1, h0⟩, ?_⟩
  unfold xmBg
  simp only [reduceIte, Nat.reduceEqDiff]
  rw [oE_X3_plain]
  unfold ob_X3_plain
  rw [e0, obn_at, if_neg (by decide), if_neg (by decide), if_neg (by decide), if_neg (by decide), if_neg (by decide), if_neg (by decide), if_pos rfl, e15, obn_at, oob_at M.1.1, obn_at, h_sn M HH hsc f12 hs S1 (by omega) (by omega) (by omega)]
  unfold oln'
  simp only
  by_cases b1 : xmB (xmSm T f pp ee h env vs d.2.2.2.1.2) = true
  · obtain ⟨A1, A2, A3⟩ := h_newA (κ := κ) (T := T) (n := N) (by omega) M f12 f14 tt b1 (by omega) hne.symm ml K.2.2.2.2.1 K.2.1
    rw [hSe_ok b1, if_pos b1, oob_at M.1.1, obn_at]
    by_cases b2 : xmSm T f pp ee h env vs d.2.2.2.1.2 < 0
    · rw [if_pos b2, A1 b2]
      exact hPl.en I hml (by omega) rfl
    · rw [if_neg b2]
      by_cases b3 : 1000 < xmSm T f pp ee h env vs d.2.2.2.1.2 ∨ 10000 < xmTot h + xmIx (xmSm T f pp ee h env vs d.2.2.2.1.2)
      · rw [if_pos b3, A2 b2 b3]
        exact hPl.en I hml (by omega) rfl
      · rw [if_neg b3]
        obtain ⟨σ', ha', hl', hp', B1, B2, B3, ⟨B4, B5, B6⟩, B7, B8, B9⟩ := A3 b2 b3
        rw [B1]
        generalize xmIx (xmSm T f pp ee h env vs d.2.2.2.1.2) = q at b3 B2 B3 B4 B5 B6 ⊢
        have rp : (List.replicate q (0 : Int64)).length = q := List.length_replicate
        have H' := HH.ar (y := List.replicate q 0) (a := top) (top' := top + (q + 1)) (hp' := hp') (Nat.le_refl _) (by rw [rp]; omega) B4 (by rw [rp]; exact B5) (fun k x ex => by
          have hk := xget_lt ex
          rw [rp] at hk
          rw [List.getElem?_replicate, if_pos hk] at ex
          injection ex with ex
          rw [B6 k hk, ex]) (by omega)
        obtain ⟨kk', co⟩ := B7.ke K.2.1 K.2.2.2.2.1 hne B8 B9
        have xt := xmTot_ap h (List.replicate q 0)
        rw [rp] at xt
        have kp : hKp (hAr G.2.1 h.2.1) (hAr (G.2.1 ++ [top]) (h.2.1 ++ [List.replicate q 0])) top (top + (q + 1)) hp hp' := fun x hx => ⟨⟨hx.1, by have := hx.2.1; omega, fun w' => by
          rcases (hAr_ap HH.1.2.1).mp w' with r | ⟨r, -⟩
          · exact hx.2.2 r
          · have := hx.2.1; omega⟩, B4 x hx.2.1⟩
        have I' := I.to (n' := nu) B3 H' kk' co ⟨⟨[], by rw [List.append_nil]⟩, ⟨[top], rfl⟩, ⟨[], by rw [List.append_nil]⟩⟩ kp ((((hFx.rf _ fm).st (by decide)).st (by decide)).st (by decide)) (by rw [List.getElem?_set_ne (by decide), List.getElem?_set_ne (by decide), List.getElem?_set_ne (by decide)]; exact I.2.2.2.2.2.1) (by rw [List.getElem?_set_self (by rw [List.length_set, List.length_set, M.1.2]; decide), xt])
        refine ⟨(2, xmNi h.2.1.length), xmNi top, σ', _, _, ha', hl', hp', _, rfl, rfl, I', Or.inr (Or.inl ⟨rfl, h.2.1.length, top, rfl, ?_, rfl⟩), ?_⟩
        · show (G.2.1 ++ [top])[h.2.1.length]? = some top
          rw [← HH.1.2.1, List.getElem?_append_right (Nat.le_refl _), Nat.sub_self]
          rfl
        · refine Nat.le_trans (Nat.add_le_add_left (hVt_le _ _) _) ?_
          show top + (q + 1) + 16 * nu + hPt fr + 9 ≤ Kb + xmTot (h.1, h.2.1 ++ [List.replicate q 0], h.2.2)
          rw [xt]
          omega
  · have m' : (oput σ ma (.inr (5, fm.set 12 (.int (nI 2))))).1 ma = some (.inr (5, fm.set 12 (.int (nI 2)))) := oput_eq _ _ _
    rw [hSe_no b1, if_neg b1, oob_at m', obn_at, h_newA' m' (by rw [List.getElem?_set_self (by rw [M.1.2]; decide)]; rfl)]
    exact hPl.en I hml (by omega) rfl
/-- true, false, nil -/
theorem h_plC {g0 : Nat} {kc : Int32} (hg : (g0 = 8 ∧ kc = 223) ∨ (g0 = 9 ∧ kc = 205) ∨ (g0 = 17 ∧ kc = 216)) (P : hPo T pp ee f fc tN L V nm p (hW wn ws wa) ma ha0 σ0) (hT : 9010 ≤ T) (I : hXa κ T kk pp ee f fc tN B D V nm p σ0 nf ma ha0 wn ws wa fm0 hl0 σ G top ha hl hp fm nu h fr) (H : xmH cnt kk f pp ee tE tN R L h) (hz : h.1.length ≤ 60000 ∧ h.2.1.length ≤ 20006 ∧ h.2.2.length ≤ 20000) (En : xmEn tE tN h env vs) (hsc : fm[10]? = some (.int (nI sc))) (hs : hSc G (hAr G.2.1 h.2.1) top hp vs.reverse sc) (hb : top + 16 * (nu + 1) + hPt fr ≤ Kb + xmTot h) (hK : Kb ≤ 322000) (w : xmE cnt kk f pp ee tE tN R L (.inner g0 d z a b) env y) (Tt : hTt κ T kk pp ee f fc tN B D V nm p σ0 nf (.inner g0 d z a b) env e) : (∃ fs, σ.1 e = some (.inr (7, fs)) ∧ fs[0]? = some (.int kc)) ∧ hPl κ T kk pp ee f fc tN B D V nm p σ0 nf ma ha0 wn ws wa fm0 hl0 Kb nu fr (oF κ T (N + 4) 98 [va_rf (some ma), va_rf (some e)] σ) (xmBg T f pp ee h fr nu env vs (.inner g0 d z a b)) := by
  have M := I.1.1
  have HH := I.1.2
  have K := I.2.1.1
  have h12 := w.l12
  have ev := En.1
  have tt := H.2.1.2
  have hml := P.2.2.2.1.2.2.2
  have ml := I.ml hml
  have hne := K.2.2.2.2.2
  have f12 := I.2.2.2.2.2.2.1
  have pP := w.2.1.2
  obtain ⟨⟨X, lo1, fk, ⟨hlo, hfk⟩, c⟩, E, -⟩ := Tt
  have c : cOk B D lo1 V e ∧ V.1 e = some (.inr (7, cNd kc (pp d.1) (nI env.length))) := by
    rcases hg with ⟨rfl, rfl⟩ | ⟨rfl, rfl⟩ | ⟨rfl, rfl⟩ <;> exact c
  obtain ⟨gs, n1, F⟩ := P.nd K (show p ≤ e by have := c.1.1; omega) c.2
  have h0 : gs[0]? = some (.int kc) := by rw [F 0 (by decide) (by decide)]; rfl
  have e0 : ovi (ofd σ (some e) 7 0) = some kc := by rw [ofd_at n1, h0]; rfl
  refine ⟨⟨gs, n1, h0⟩, ?_⟩
  unfold xmBg
  rw [oE_X3_plain]
  unfold ob_X3_plain
  rcases hg with ⟨rfl, rfl⟩ | ⟨rfl, rfl⟩ | ⟨rfl, rfl⟩
  · simp only [reduceIte, Nat.reduceEqDiff]
    rw [e0, obn_at, if_neg (by decide), if_neg (by decide), if_neg (by decide), if_neg (by decide), if_neg (by decide), if_neg (by decide), if_neg (by decide), if_pos rfl]
    exact hPl.v I rfl (Or.inl ⟨Nat.le_refl _, rfl⟩) hb
  · simp only [reduceIte, Nat.reduceEqDiff]
    rw [e0, obn_at, if_neg (by decide), if_neg (by decide), if_neg (by decide), if_neg (by decide), if_neg (by decide), if_neg (by decide), if_neg (by decide), if_neg (by decide), if_neg (by decide)]
    exact hPl.v I rfl (Or.inl ⟨Nat.le_refl _, rfl⟩) hb
  · simp only [reduceIte, Nat.reduceEqDiff, or_self]
    rw [e0, obn_at, if_neg (by decide), if_neg (by decide), if_neg (by decide), if_neg (by decide), if_neg (by decide), if_neg (by decide), if_neg (by decide), if_neg (by decide), if_neg (by decide)]
    exact hPl.v I rfl (Or.inr (Or.inr (Or.inr ⟨rfl, Or.inl ⟨rfl, rfl⟩⟩))) hb
/-- a fun -/
theorem h_pl3 (P : hPo T pp ee f fc tN L V nm p (hW wn ws wa) ma ha0 σ0) (hT : 9010 ≤ T) (I : hXa κ T kk pp ee f fc tN B D V nm p σ0 nf ma ha0 wn ws wa fm0 hl0 σ G top ha hl hp fm nu h fr) (H : xmH cnt kk f pp ee tE tN R L h) (hz : h.1.length ≤ 60000 ∧ h.2.1.length ≤ 20006 ∧ h.2.2.length ≤ 20000) (En : xmEn tE tN h env vs) (hsc : fm[10]? = some (.int (nI sc))) (hs : hSc G (hAr G.2.1 h.2.1) top hp vs.reverse sc) (hb : top + 16 * (nu + 1) + hPt fr ≤ Kb + xmTot h) (hK : Kb ≤ 322000) (w : xmE cnt kk f pp ee tE tN R L (.inner 3 d z a b) env y) (Tt : hTt κ T kk pp ee f fc tN B D V nm p σ0 nf (.inner 3 d z a b) env e) : (∃ fs, σ.1 e = some (.inr (7, fs)) ∧ fs[0]? = some (.int 206)) ∧ hPl κ T kk pp ee f fc tN B D V nm p σ0 nf ma ha0 wn ws wa fm0 hl0 Kb nu fr (oF κ T (N + 4) 98 [va_rf (some ma), va_rf (some e)] σ) (xmBg T f pp ee h fr nu env vs (.inner 3 d z a b)) := by
  have M := I.1.1
  have HH := I.1.2
  have K := I.2.1.1
  have h12 := w.l12
  have ev := En.1
  have tt := H.2.1.2
  have hml := P.2.2.2.1.2.2.2
  have ml := I.ml hml
  have hne := K.2.2.2.2.2
  have f12 := I.2.2.2.2.2.2.1
  have pP := w.2.1.2
  obtain ⟨⟨X, lo1, fk, ⟨hlo, hfk⟩, c⟩, E, hw⟩ := Tt
  obtain ⟨nb, fs, c0, c1, c2, c3⟩ := hNb.k3 P hlo w E hw hfk c
  obtain ⟨gs, n1, F⟩ := P.nd K c0 c1
  have h0 : gs[0]? = some (.int 206) := by rw [F 0 (by decide) (by decide)]; exact c2
  have h7 : gs[7]? = some (.int (nI fk)) := by rw [F 7 (by decide) (by decide)]; exact c3
  have e0 : ovi (ofd σ (some e) 7 0) = some 206 := by rw [ofd_at n1, h0]; rfl
  have e7 : ovi (ofd σ (some e) 7 7) = some (nI fk) := by rw [ofd_at n1, h7]; rfl
  have e10 : ovi (ofd σ (some ma) 5 10) = some (nI sc) := by rw [ofd_at M.1.1, hsc]; rfl
  refine ⟨⟨gs, n1, h0⟩, ?_⟩
  unfold xmBg
  simp only [reduceIte, Nat.reduceEqDiff]
  obtain ⟨σ', ha', hl', hp', T1, T2, ⟨T3, T4, T5, T6⟩, T7, T8, T9⟩ := h_triple (κ := κ) (T := T) (n := N) (x := xmNi fk) (y := xmNi sc) (z := 0) M (by omega) hne.symm ml K.2.2.2.2.1 K.2.1
  have T1' : oF κ T (N + 3) 82 [va_rf (some ma), .long (nI fk).toInt64, .long (nI sc).toInt64, .long 0] σ = some (some (.int (nI top)), σ') := T1
  obtain ⟨kk', co⟩ := T7.ke K.2.1 K.2.2.2.2.1 hne T8 T9
  have H' := HH.fn (fn := (.inner 3 d z a b, env, vs, [])) (a := top) (s := sc) (top' := top + 3) (hp' := hp') (Nat.le_refl _) (Nat.le_refl _) T3 ⟨fk, T4, nb⟩ T5 (by
    rw [List.append_nil]
    exact hs.kp ⟨⟨[top], rfl⟩, ⟨[], by rw [List.append_nil]⟩, ⟨[], by rw [List.append_nil]⟩⟩ (hKp.up (by omega) T3)) T6 (by omega)
  have I' := I.to (n' := nu) T2 H' kk' co ⟨⟨[top], rfl⟩, ⟨[], by rw [List.append_nil]⟩, ⟨[], by rw [List.append_nil]⟩⟩ (hKp.up (by omega) T3) (((hFx.rf _ fm).st (by decide)).st (by decide)) (by rw [List.getElem?_set_ne (by decide), List.getElem?_set_ne (by decide)]; exact I.2.2.2.2.2.1) (by rw [List.getElem?_set_ne (by decide), List.getElem?_set_ne (by decide)]; exact I.2.2.2.2.2.2.2.2)
  rw [oE_X3_plain]
  unfold ob_X3_plain
  rw [e0, obn_at, if_neg (by decide), if_neg (by decide), if_neg (by decide), if_neg (by decide), if_neg (by decide), if_pos rfl, e7, obn_at, e10, obn_at, oob_at M.1.1, obn_at, T1', oin_at]
  refine ⟨xmFv h, xmNi top, σ', _, _, ha', hl', hp', _, rfl, rfl, I', Or.inr (Or.inr (Or.inl ⟨rfl, h.1.length, top, rfl, ?_, rfl⟩)), ?_⟩
  · show (G.1 ++ [top])[h.1.length]? = some top
    rw [← HH.1.1, List.getElem?_append_right (Nat.le_refl _), Nat.sub_self]
    rfl
  · refine Nat.le_trans (Nat.add_le_add_left (hVt_le _ _) _) ?_
    show top + 3 + 16 * nu + hPt fr + 9 ≤ Kb + xmTot h
    omega
end HYR
